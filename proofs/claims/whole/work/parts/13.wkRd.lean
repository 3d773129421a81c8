abbrev rmX9_findPlan : Room := { frames := 2, cells := 0, slots := 0, locals := 51 }
abbrev wtX9_findPlan : List Cond := Cond.code yX9_findPlan cX9_findPlan 6 none :: lw_g
set_option maxRecDepth 100000 in
set_option maxHeartbeats 4000000 in
theorem bX9_findPlan_107 {p : Program} {l : Launch} {e : Env} {s : State} {m : MethodId} {args : Array Value} {below : List Frame} {meth : Method} {c : Code} {g : GP} (C : Cx p m c cX9_findPlan 6 s args lw_g RX9 meth none) (post : Mem → Prop) : ∀ (M : Mem) (H : Heap) (locs : List Loc) (ls : Array Slot), jbX9_findPlan_107 post  M → IR g s M H locs → lv_has ls 6 [(0, .ref (g.2.2.2 0))] → W p l e rmX9_findPlan s m args below meth c H locs 0 0 (QVR below args s g post) (F0 m 107 ls []) := by
  obtain ⟨⟨hx, hb, hml, hown, hts⟩, hr, hlk⟩ := id C
  intro M H locs ls hw I hl
  exact g_vret hx hb hr hlk I hw dX9_findPlan_107
set_option maxRecDepth 100000 in
set_option maxHeartbeats 4000000 in
theorem bX9_findPlan_81 {p : Program} {l : Launch} {e : Env} {s : State} {m : MethodId} {args : Array Value} {below : List Frame} {meth : Method} {c : Code} {g : GP} (C : Cx p m c cX9_findPlan 6 s args lw_g RX9 meth none) (post : Mem → Prop) (k23 : Int → Int → Mem → Prop) (k39 : Int → Int → Int → Mem → Prop) (hk23 : ∀ (x3 x4 : Int), inR x3 → inR x4 → ∀ (M : Mem) (H : Heap) (locs : List Loc) (ls : Array Slot), k23 x3 x4 M → IR g s M H locs → lv_has ls 6 [(0, .ref (g.2.2.2 0)), (3, .int (i32 x3)), (4, .int (i32 x4))] → W p l e rmX9_findPlan s m args below meth c H locs 0 0 (QVR below args s g post) (F0 m 23 ls [])) (hk39 : ∀ (x3 x4 x5 : Int), inR x3 → inR x4 → inR x5 → ∀ (M : Mem) (H : Heap) (locs : List Loc) (ls : Array Slot), k39 x3 x4 x5 M → IR g s M H locs → lv_has ls 6 [(0, .ref (g.2.2.2 0)), (3, .int (i32 x3)), (4, .int (i32 x4)), (5, .int (i32 x5))] → W p l e rmX9_findPlan s m args below meth c H locs 0 0 (QVR below args s g post) (F0 m 39 ls [])) : ∀ (x3 x4 x5 : Int), inR x3 → inR x4 → inR x5 → ∀ (M : Mem) (H : Heap) (locs : List Loc) (ls : Array Slot), jbX9_findPlan_81 post k23 k39 x3 x4 x5 M → IR g s M H locs → lv_has ls 6 [(0, .ref (g.2.2.2 0)), (3, .int (i32 x3)), (4, .int (i32 x4)), (5, .int (i32 x5))] → W p l e rmX9_findPlan s m args below meth c H locs 0 0 (QVR below args s g post) (F0 m 81 ls []) := by
  obtain ⟨⟨hx, hb, hml, hown, hts⟩, hr, hlk⟩ := id C
  intro x3 x4 x5 h3 h4 h5 M H locs ls hw I hl
  refine lv_aload_n hx hb dX9_findPlan_81 rfl (lv_at hl 0 rfl) ?_
  refine rg_0_21 hx hb hts wu_X9 hown I wf_X9_58 dX9_findPlan_82 ?_
  refine lv_bipush (v := i32 10) hx hb dX9_findPlan_85 (by decide) ?_
  refine lv_iload hx hb dX9_findPlan_87 (lv_at hl 2 rfl) ?_
  refine li_imul hx hb dX9_findPlan_89 ?_
  refine lv_iload hx hb dX9_findPlan_90 (lv_at hl 3 rfl) ?_
  refine li_iadd hx hb dX9_findPlan_92 ?_
  refine li_iconst hx hb dX9_findPlan_93 ?_
  obtain ⟨h_1, hw⟩ := hw
  refine r_zast hx hb I 17 lenR_17 (by decide) h_1 (Or.inr rfl) dX9_findPlan_94 (fun H locs M94_1 eM94_1 I => ?_)
  replace hw := hw M94_1 eM94_1
  refine li_iinc (lv' := [(5, .int (i32 (x5 + 1))), (0, .ref (g.2.2.2 0)), (3, .int (i32 x3)), (4, .int (i32 x4))]) hx hb dX9_findPlan_95 hl (k := 3) rfl (by decide) rfl (fun ls hl => ?_)
  refine lv_goto (tgt := 39) hx hb dX9_findPlan_98 (by decide) ?_
  obtain ⟨h_3, hw⟩ := hw
  exact hk39 x3 x4 (x5 + 1) h3 h4 h_3 _ _ _ _ hw I (lv_sub hl [1, 2, 3, 0] rfl)
set_option maxRecDepth 100000 in
set_option maxHeartbeats 4000000 in
theorem bX9_findPlan_48 {p : Program} {l : Launch} {e : Env} {s : State} {m : MethodId} {args : Array Value} {below : List Frame} {meth : Method} {c : Code} {g : GP} (C : Cx p m c cX9_findPlan 6 s args lw_g RX9 meth none) (post : Mem → Prop) (k23 : Int → Int → Mem → Prop) (k39 : Int → Int → Int → Mem → Prop) (hk23 : ∀ (x3 x4 : Int), inR x3 → inR x4 → ∀ (M : Mem) (H : Heap) (locs : List Loc) (ls : Array Slot), k23 x3 x4 M → IR g s M H locs → lv_has ls 6 [(0, .ref (g.2.2.2 0)), (3, .int (i32 x3)), (4, .int (i32 x4))] → W p l e rmX9_findPlan s m args below meth c H locs 0 0 (QVR below args s g post) (F0 m 23 ls [])) (hk39 : ∀ (x3 x4 x5 : Int), inR x3 → inR x4 → inR x5 → ∀ (M : Mem) (H : Heap) (locs : List Loc) (ls : Array Slot), k39 x3 x4 x5 M → IR g s M H locs → lv_has ls 6 [(0, .ref (g.2.2.2 0)), (3, .int (i32 x3)), (4, .int (i32 x4)), (5, .int (i32 x5))] → W p l e rmX9_findPlan s m args below meth c H locs 0 0 (QVR below args s g post) (F0 m 39 ls [])) : ∀ (n : Nat), ∀ (x3 x4 x5 : Int), inR x3 → inR x4 → inR x5 → ∀ (M : Mem) (H : Heap) (locs : List Loc) (ls : Array Slot), lpX9_findPlan_48 post k23 k39 n x3 x4 x5 M → IR g s M H locs → lv_has ls 6 [(0, .ref (g.2.2.2 0)), (3, .int (i32 x3)), (4, .int (i32 x4)), (5, .int (i32 x5))] → W p l e rmX9_findPlan s m args below meth c H locs 0 0 (QVR below args s g post) (F0 m 48 ls []) := by
  obtain ⟨⟨hx, hb, hml, hown, hts⟩, hr, hlk⟩ := id C
  intro n
  induction n with
  | zero =>
    intro x3 x4 x5 h3 h4 h5 M H locs ls hw
    exact hw.elim
  | succ n ih =>
    intro x3 x4 x5 h3 h4 h5 M H locs ls hw I hl
    refine lv_aload_n hx hb dX9_findPlan_48 rfl (lv_at hl 0 rfl) ?_
    refine lv_iload hx hb dX9_findPlan_49 (lv_at hl 2 rfl) ?_
    refine lv_iload hx hb dX9_findPlan_51 (lv_at hl 3 rfl) ?_
    refine g_callVi (o := 0) (As := [.int (i32 x4), .int (i32 x5)]) (rest := []) ⟨hx, hb, hml, hown, hts⟩ I (mX9_isTight l g x4 x5 h4 h5 M _ _ hw) (cwV 2 hts (gd_V wm_X9_153 wi_X9_isTight wl_X9_isTight wn_X9 wc_X9_isTight) rfl rfl rfl wd_X9_isTight ⟨Nat.le_of_ble_eq_true rfl, Nat.le_of_ble_eq_true rfl⟩) (by omega) (by omega) obR_0 rfl rfl hl.1 rfl (Nat.le_of_ble_eq_true rfl) dX9_findPlan_53 ⟨Nat.zero_le _, Nat.zero_le _⟩ (fun r53_0 M53_0 H locs hr53_0 hw I => ?_)
    refine li_if_eq (tgt := 81) hx hb dX9_findPlan_56 (by decide) hr53_0 (fun c_2 => ?_) (fun c_2 => ?_)
    · replace hw := hw.1 c_2
      exact bX9_findPlan_81 C post k23 k39 hk23 hk39 x3 x4 x5 h3 h4 h5 _ _ _ _ hw I (lv_sub hl [0, 1, 2, 3] rfl)
    · replace hw := hw.2 c_2
      refine lv_aload_n hx hb dX9_findPlan_59 rfl (lv_at hl 0 rfl) ?_
      refine lv_iload hx hb dX9_findPlan_60 (lv_at hl 2 rfl) ?_
      refine lv_iload hx hb dX9_findPlan_62 (lv_at hl 3 rfl) ?_
      refine g_callVi (o := 0) (As := [.int (i32 x4), .int (i32 x5)]) (rest := []) ⟨hx, hb, hml, hown, hts⟩ I (mX9_canTurn l g x4 x5 h4 h5 M53_0 _ _ hw) (cwV 2 hts (gd_V wm_X9_163 wi_X9_canTurn wl_X9_canTurn wn_X9 wc_X9_canTurn) rfl rfl rfl wd_X9_canTurn ⟨Nat.le_of_ble_eq_true rfl, Nat.le_of_ble_eq_true rfl⟩) (by omega) (by omega) obR_0 rfl rfl hl.1 rfl (Nat.le_of_ble_eq_true rfl) dX9_findPlan_64 ⟨Nat.zero_le _, Nat.zero_le _⟩ (fun r64_2 M64_2 H locs hr64_2 hw I => ?_)
      refine li_if_eq (tgt := 81) hx hb dX9_findPlan_67 (by decide) hr64_2 (fun c_4 => ?_) (fun c_4 => ?_)
      · replace hw := hw.1 c_4
        exact bX9_findPlan_81 C post k23 k39 hk23 hk39 x3 x4 x5 h3 h4 h5 _ _ _ _ hw I (lv_sub hl [0, 1, 2, 3] rfl)
      · replace hw := hw.2 c_4
        refine lv_aload_n hx hb dX9_findPlan_70 rfl (lv_at hl 0 rfl) ?_
        refine lv_iload hx hb dX9_findPlan_71 (lv_at hl 2 rfl) ?_
        refine lv_iload hx hb dX9_findPlan_73 (lv_at hl 3 rfl) ?_
        refine g_callVv (o := 0) (As := [.int (i32 x4), .int (i32 x5)]) (rest := []) ⟨hx, hb, hml, hown, hts⟩ I (mX9_turn l g x4 x5 h4 h5 M64_2 _ _ hw) (cwV 2 hts (gd_V wm_X9_166 wi_X9_turn wl_X9_turn wn_X9 wc_X9_turn) rfl rfl rfl wd_X9_turn ⟨Nat.le_of_ble_eq_true rfl, Nat.le_of_ble_eq_true rfl⟩) (by omega) (by omega) obR_0 rfl rfl hl.1 rfl (Nat.le_of_ble_eq_true rfl) dX9_findPlan_75 ⟨Nat.zero_le _, Nat.zero_le _⟩ (fun M75_4 H locs hw I => ?_)
        refine lv_goto (tgt := 48) hx hb dX9_findPlan_78 (by decide) ?_
        exact ih x3 x4 x5 h3 h4 h5 _ _ _ _ hw I (lv_sub hl [0, 1, 2, 3] rfl)
set_option maxRecDepth 100000 in
set_option maxHeartbeats 4000000 in
theorem bX9_findPlan_39 {p : Program} {l : Launch} {e : Env} {s : State} {m : MethodId} {args : Array Value} {below : List Frame} {meth : Method} {c : Code} {g : GP} (C : Cx p m c cX9_findPlan 6 s args lw_g RX9 meth none) (post : Mem → Prop) (k23 : Int → Int → Mem → Prop) (hk23 : ∀ (x3 x4 : Int), inR x3 → inR x4 → ∀ (M : Mem) (H : Heap) (locs : List Loc) (ls : Array Slot), k23 x3 x4 M → IR g s M H locs → lv_has ls 6 [(0, .ref (g.2.2.2 0)), (3, .int (i32 x3)), (4, .int (i32 x4))] → W p l e rmX9_findPlan s m args below meth c H locs 0 0 (QVR below args s g post) (F0 m 23 ls [])) : ∀ (n : Nat), ∀ (x3 x4 x5 : Int), inR x3 → inR x4 → inR x5 → ∀ (M : Mem) (H : Heap) (locs : List Loc) (ls : Array Slot), lpX9_findPlan_39 post k23 n x3 x4 x5 M → IR g s M H locs → lv_has ls 6 [(0, .ref (g.2.2.2 0)), (3, .int (i32 x3)), (4, .int (i32 x4)), (5, .int (i32 x5))] → W p l e rmX9_findPlan s m args below meth c H locs 0 0 (QVR below args s g post) (F0 m 39 ls []) := by
  obtain ⟨⟨hx, hb, hml, hown, hts⟩, hr, hlk⟩ := id C
  intro n
  induction n with
  | zero =>
    intro x3 x4 x5 h3 h4 h5 M H locs ls hw
    exact hw.elim
  | succ n ih =>
    intro x3 x4 x5 h3 h4 h5 M H locs ls hw I hl
    refine lv_iload hx hb dX9_findPlan_39 (lv_at hl 3 rfl) ?_
    refine lv_aload_n hx hb dX9_findPlan_41 rfl (lv_at hl 0 rfl) ?_
    refine rg_0_0 hx hb hts wu_X9 hown I wf_X9_86 dX9_findPlan_42 ?_
    have h_1 := I.rng 0 0
    refine li_icmp_ge (tgt := 101) hx hb dX9_findPlan_45 (by decide) h5 h_1 (fun c_2 => ?_) (fun c_2 => ?_)
    · replace hw := hw.1 c_2
      refine li_iinc (lv' := [(4, .int (i32 (x4 + 1))), (0, .ref (g.2.2.2 0)), (3, .int (i32 x3)), (5, .int (i32 x5))]) hx hb dX9_findPlan_101 hl (k := 2) rfl (by decide) rfl (fun ls hl => ?_)
      refine lv_goto (tgt := 23) hx hb dX9_findPlan_104 (by decide) ?_
      obtain ⟨h_3, hw⟩ := hw
      exact hk23 x3 (x4 + 1) h3 h_3 _ _ _ _ hw I (lv_sub hl [1, 2, 0] rfl)
    · replace hw := hw.2 c_2
      obtain ⟨n1, hw⟩ := hw
      exact bX9_findPlan_48 C post k23 (fun y3 y4 y5 N => lpX9_findPlan_39 post k23 n y3 y4 y5 N) hk23 ih n1 x3 x4 x5 h3 h4 h5 _ _ _ _ hw I (lv_sub hl [0, 1, 2, 3] rfl)
set_option maxRecDepth 100000 in
set_option maxHeartbeats 4000000 in
theorem bX9_findPlan_23 {p : Program} {l : Launch} {e : Env} {s : State} {m : MethodId} {args : Array Value} {below : List Frame} {meth : Method} {c : Code} {g : GP} (C : Cx p m c cX9_findPlan 6 s args lw_g RX9 meth none) (post : Mem → Prop) : ∀ (n : Nat), ∀ (x3 x4 : Int), inR x3 → inR x4 → ∀ (M : Mem) (H : Heap) (locs : List Loc) (ls : Array Slot), lpX9_findPlan_23 post n x3 x4 M → IR g s M H locs → lv_has ls 6 [(0, .ref (g.2.2.2 0)), (3, .int (i32 x3)), (4, .int (i32 x4))] → W p l e rmX9_findPlan s m args below meth c H locs 0 0 (QVR below args s g post) (F0 m 23 ls []) := by
  obtain ⟨⟨hx, hb, hml, hown, hts⟩, hr, hlk⟩ := id C
  intro n
  induction n with
  | zero =>
    intro x3 x4 h3 h4 M H locs ls hw
    exact hw.elim
  | succ n ih =>
    intro x3 x4 h3 h4 M H locs ls hw I hl
    refine lv_iload hx hb dX9_findPlan_23 (lv_at hl 2 rfl) ?_
    refine lv_aload_n hx hb dX9_findPlan_25 rfl (lv_at hl 0 rfl) ?_
    refine rg_0_0 hx hb hts wu_X9 hown I wf_X9_86 dX9_findPlan_26 ?_
    have h_1 := I.rng 0 0
    refine li_icmp_ge (tgt := 107) hx hb dX9_findPlan_29 (by decide) h4 h_1 (fun c_2 => ?_) (fun c_2 => ?_)
    · replace hw := hw.1 c_2
      exact bX9_findPlan_107 C post _ _ _ _ hw I (lv_sub hl [0] rfl)
    · replace hw := hw.2 c_2
      refine lv_iload_n hx hb dX9_findPlan_32 rfl (lv_at hl 1 rfl) ?_
      refine li_if_lt (tgt := 107) hx hb dX9_findPlan_33 (by decide) h3 (fun c_3 => ?_) (fun c_3 => ?_)
      · replace hw := hw.1 c_3
        exact bX9_findPlan_107 C post _ _ _ _ hw I (lv_sub hl [0] rfl)
      · replace hw := hw.2 c_3
        refine li_iconst hx hb dX9_findPlan_36 ?_
        refine lv_istore (lv' := [(5, .int (i32 0)), (0, .ref (g.2.2.2 0)), (3, .int (i32 x3)), (4, .int (i32 x4))]) hx hb dX9_findPlan_37 hl (by decide) rfl (fun ls hl => ?_)
        obtain ⟨n1, hw⟩ := hw
        exact bX9_findPlan_39 C post (fun y3 y4 N => lpX9_findPlan_23 post n y3 y4 N) ih n1 x3 x4 0 h3 h4 (by decide) _ _ _ _ hw I (lv_sub hl [1, 2, 3, 0] rfl)
set_option maxRecDepth 100000 in
set_option maxHeartbeats 4000000 in
theorem mX9_findPlan (l : Launch) (g : GP) (a1 a2 : Int) (ha1 : inR a1) (ha2 : inR a2) (M : Mem) (post : Mem → Prop) (sz : Nat) (hw : wpX9_findPlan a1 a2 M post) : MVR l yX9_findPlan wtX9_findPlan rmX9_findPlan g [.ref (g.2.2.2 0), .int (i32 a1), .int (i32 a2)] M sz post := by
  refine Met.ofW (cc := cX9_findPlan) (maxL := 6) (ret := none) (by decide) rfl ?_
  intro p e s m args below meth c s₁ B hml hv
  obtain ⟨rfl, hpre⟩ := hv
  have hsz := hpre.1
  subst hsz
  have C : Cx p m c cX9_findPlan 6 s _ lw_g RX9 meth none := ⟨⟨B.exec, B.bytes, hml, findClass_of_methodNamed B.named, fun w h => atoms_spec (ws := wtX9_findPlan) B.pre w (List.mem_cons_of_mem _ h)⟩, B.returns, B.notSynchronized⟩
  obtain ⟨⟨hx, hb, hml, hown, hts⟩, hr, hlk⟩ := id C
  have I := InG.start hpre
  have hl := lv_entry ([.ref (g.2.2.2 0), .int (i32 a1), .int (i32 a2)]) (n := 6) (Nat.le_of_ble_eq_true rfl)
  rw [lg_entry_eq]
  generalize (lg_sl ([.ref (g.2.2.2 0), .int (i32 a1), .int (i32 a2)]) ++ List.replicate (6 - (lg_sl ([.ref (g.2.2.2 0), .int (i32 a1), .int (i32 a2)])).length) Slot.unset).toArray = ls at hl ⊢
  have hl : lv_has ls 6 [(0, .ref (g.2.2.2 0)), (1, .int (i32 a1)), (2, .int (i32 a2))] := hl
  show W p l e rmX9_findPlan s m _ below meth c s.heap [] 0 0 (QVR below _ s g post) _
  refine lv_aload_n hx hb dX9_findPlan_0 rfl (lv_at hl 0 rfl) ?_
  refine lv_iload_n hx hb dX9_findPlan_1 rfl (lv_at hl 1 rfl) ?_
  refine lv_iload_n hx hb dX9_findPlan_2 rfl (lv_at hl 2 rfl) ?_
  refine lv_aload_n hx hb dX9_findPlan_3 rfl (lv_at hl 0 rfl) ?_
  refine lv_iload_n hx hb dX9_findPlan_4 rfl (lv_at hl 1 rfl) ?_
  refine g_callVi (o := 0) (As := [.int (i32 a1)]) (rest := [.int (i32 a2), .int (i32 a1), .ref (g.2.2.2 0)]) ⟨hx, hb, hml, hown, hts⟩ I (mX9_sumOf l g a1 ha1 M _ _ hw) (cwV 1 hts (gd_V wm_X9_123 wi_X9_sumOf wl_X9_sumOf wn_X9 wc_X9_sumOf) rfl rfl rfl wd_X9_sumOf ⟨Nat.le_of_ble_eq_true rfl, Nat.le_of_ble_eq_true rfl⟩) (by omega) (by omega) obR_0 rfl rfl hl.1 rfl (Nat.le_of_ble_eq_true rfl) dX9_findPlan_5 ⟨Nat.zero_le _, Nat.zero_le _⟩ (fun r5_0 M5_0 H locs hr5_0 hw I => ?_)
  refine g_callVi (o := 0) (As := [.int (i32 a1), .int (i32 a2), .int (i32 r5_0)]) (rest := []) ⟨hx, hb, hml, hown, hts⟩ I (mX9_solve l g a1 a2 r5_0 ha1 ha2 hr5_0 M5_0 _ _ hw) (cwV 3 hts (gd_V wm_X9_149 wi_X9_solve wl_X9_solve wn_X9 wc_X9_solve) rfl rfl rfl wd_X9_solve ⟨Nat.le_of_ble_eq_true rfl, Nat.le_of_ble_eq_true rfl⟩) (by omega) (by omega) obR_0 rfl rfl hl.1 rfl (Nat.le_of_ble_eq_true rfl) dX9_findPlan_8 ⟨Nat.zero_le _, Nat.zero_le _⟩ (fun r8_1 M8_1 H locs hr8_1 hw I => ?_)
  refine lv_istore_n (lv' := [(3, .int (i32 r8_1)), (0, .ref (g.2.2.2 0)), (1, .int (i32 a1)), (2, .int (i32 a2))]) hx hb dX9_findPlan_11 rfl hl (by decide) rfl (fun ls hl => ?_)
  refine lv_aload_n hx hb dX9_findPlan_12 rfl (lv_at hl 1 rfl) ?_
  refine g_callVv (o := 0) (As := []) (rest := []) ⟨hx, hb, hml, hown, hts⟩ I (mX9_findHeights l g M8_1 _ _ hw) (cwV 0 hts (gd_V wm_X9_157 wi_X9_findHeights wl_X9_findHeights wn_X9 wc_X9_findHeights) rfl rfl rfl wd_X9_findHeights ⟨Nat.le_of_ble_eq_true rfl, Nat.le_of_ble_eq_true rfl⟩) (by omega) (by omega) obR_0 rfl rfl hl.1 rfl (Nat.le_of_ble_eq_true rfl) dX9_findPlan_13 ⟨Nat.zero_le _, Nat.zero_le _⟩ (fun M13_2 H locs hw I => ?_)
  refine lv_aload_n hx hb dX9_findPlan_16 rfl (lv_at hl 1 rfl) ?_
  refine g_callVv (o := 0) (As := []) (rest := []) ⟨hx, hb, hml, hown, hts⟩ I (mX9_loosen l g M13_2 _ _ hw) (cwV 0 hts (gd_V wm_X9_160 wi_X9_loosen wl_X9_loosen wn_X9 wc_X9_loosen) rfl rfl rfl wd_X9_loosen ⟨Nat.le_of_ble_eq_true rfl, Nat.le_of_ble_eq_true rfl⟩) (by omega) (by omega) obR_0 rfl rfl hl.1 rfl (Nat.le_of_ble_eq_true rfl) dX9_findPlan_17 ⟨Nat.zero_le _, Nat.zero_le _⟩ (fun M17_3 H locs hw I => ?_)
  refine li_iconst hx hb dX9_findPlan_20 ?_
  refine lv_istore (lv' := [(4, .int (i32 0)), (3, .int (i32 r8_1)), (0, .ref (g.2.2.2 0)), (1, .int (i32 a1)), (2, .int (i32 a2))]) hx hb dX9_findPlan_21 hl (by decide) rfl (fun ls hl => ?_)
  obtain ⟨n1, hw⟩ := hw
  exact bX9_findPlan_23 C post n1 r8_1 0 hr8_1 (by decide) _ _ _ _ hw I (lv_sub hl [2, 1, 0] rfl)
abbrev rmX9_plan : Room := { frames := 3, cells := 0, slots := 0, locals := 76 }
abbrev wtX9_plan : List Cond := Cond.code yX9_plan cX9_plan 6 (some .int) :: lw_g
set_option maxRecDepth 100000 in
set_option maxHeartbeats 4000000 in
theorem bX9_plan_33 {p : Program} {l : Launch} {e : Env} {s : State} {m : MethodId} {args : Array Value} {below : List Frame} {meth : Method} {c : Code} {g : GP} (C : Cx p m c cX9_plan 6 s args lw_g RX9 meth (some .int)) (post : Int → Mem → Prop) : ∀ (M : Mem) (H : Heap) (locs : List Loc) (ls : Array Slot), jbX9_plan_33 post  M → IR g s M H locs → lv_has ls 6 [(0, .ref (g.2.2.2 0))] → W p l e rmX9_plan s m args below meth c H locs 0 0 (QIR below args s g post) (F0 m 33 ls []) := by
  obtain ⟨⟨hx, hb, hml, hown, hts⟩, hr, hlk⟩ := id C
  intro M H locs ls hw I hl
  refine lv_bipush (v := i32 (-2)) hx hb dX9_plan_33 (by decide) ?_
  exact g_iret hx hb hr hlk I (by decide) hw dX9_plan_35
set_option maxRecDepth 100000 in
set_option maxHeartbeats 4000000 in
theorem mX9_plan (l : Launch) (g : GP) (a1 a2 a3 a4 : Int) (ha1 : inR a1) (ha2 : inR a2) (ha3 : inR a3) (ha4 : inR a4) (M : Mem) (post : Int → Mem → Prop) (sz : Nat) (hw : wpX9_plan a1 a2 a3 a4 M post) : MIR l yX9_plan wtX9_plan rmX9_plan g [.ref (g.2.2.2 0), .int (i32 a1), .int (i32 a2), .int (i32 a3), .int (i32 a4)] M sz post := by
  refine Met.ofW (cc := cX9_plan) (maxL := 6) (ret := (some .int)) (by decide) rfl ?_
  intro p e s m args below meth c s₁ B hml hv
  obtain ⟨rfl, hpre⟩ := hv
  have hsz := hpre.1
  subst hsz
  have C : Cx p m c cX9_plan 6 s _ lw_g RX9 meth (some .int) := ⟨⟨B.exec, B.bytes, hml, findClass_of_methodNamed B.named, fun w h => atoms_spec (ws := wtX9_plan) B.pre w (List.mem_cons_of_mem _ h)⟩, B.returns, B.notSynchronized⟩
  obtain ⟨⟨hx, hb, hml, hown, hts⟩, hr, hlk⟩ := id C
  have I := InG.start hpre
  have hl := lv_entry ([.ref (g.2.2.2 0), .int (i32 a1), .int (i32 a2), .int (i32 a3), .int (i32 a4)]) (n := 6) (Nat.le_of_ble_eq_true rfl)
  rw [lg_entry_eq]
  generalize (lg_sl ([.ref (g.2.2.2 0), .int (i32 a1), .int (i32 a2), .int (i32 a3), .int (i32 a4)]) ++ List.replicate (6 - (lg_sl ([.ref (g.2.2.2 0), .int (i32 a1), .int (i32 a2), .int (i32 a3), .int (i32 a4)])).length) Slot.unset).toArray = ls at hl ⊢
  have hl : lv_has ls 6 [(0, .ref (g.2.2.2 0)), (1, .int (i32 a1)), (2, .int (i32 a2)), (3, .int (i32 a3)), (4, .int (i32 a4))] := hl
  show W p l e rmX9_plan s m _ below meth c s.heap [] 0 0 (QIR below _ s g post) _
  refine lv_aload_n hx hb dX9_plan_0 rfl (lv_at hl 0 rfl) ?_
  refine lv_iload_n hx hb dX9_plan_1 rfl (lv_at hl 1 rfl) ?_
  refine g_callVi (o := 0) (As := [.int (i32 a1)]) (rest := []) ⟨hx, hb, hml, hown, hts⟩ I (mX9_isHeap l g a1 ha1 M _ _ hw) (cwV 1 hts (gd_V wm_X9_111 wi_X9_isHeap wl_X9_isHeap wn_X9 wc_X9_isHeap) rfl rfl rfl wd_X9_isHeap ⟨Nat.le_of_ble_eq_true rfl, Nat.le_of_ble_eq_true rfl⟩) (by omega) (by omega) obR_0 rfl rfl hl.1 rfl (Nat.le_of_ble_eq_true rfl) dX9_plan_2 ⟨Nat.zero_le _, Nat.zero_le _⟩ (fun r2_0 M2_0 H locs hr2_0 hw I => ?_)
  refine li_if_eq (tgt := 33) hx hb dX9_plan_5 (by decide) hr2_0 (fun c_2 => ?_) (fun c_2 => ?_)
  · replace hw := hw.1 c_2
    exact bX9_plan_33 C post _ _ _ _ hw I (lv_sub hl [0] rfl)
  · replace hw := hw.2 c_2
    refine lv_aload_n hx hb dX9_plan_8 rfl (lv_at hl 0 rfl) ?_
    refine lv_iload_n hx hb dX9_plan_9 rfl (lv_at hl 2 rfl) ?_
    refine g_callVi (o := 0) (As := [.int (i32 a2)]) (rest := []) ⟨hx, hb, hml, hown, hts⟩ I (mX9_isHeap l g a2 ha2 M2_0 _ _ hw) (cwV 1 hts (gd_V wm_X9_111 wi_X9_isHeap wl_X9_isHeap wn_X9 wc_X9_isHeap) rfl rfl rfl wd_X9_isHeap ⟨Nat.le_of_ble_eq_true rfl, Nat.le_of_ble_eq_true rfl⟩) (by omega) (by omega) obR_0 rfl rfl hl.1 rfl (Nat.le_of_ble_eq_true rfl) dX9_plan_10 ⟨Nat.zero_le _, Nat.zero_le _⟩ (fun r10_2 M10_2 H locs hr10_2 hw I => ?_)
    refine li_if_eq (tgt := 33) hx hb dX9_plan_13 (by decide) hr10_2 (fun c_4 => ?_) (fun c_4 => ?_)
    · replace hw := hw.1 c_4
      exact bX9_plan_33 C post _ _ _ _ hw I (lv_sub hl [0] rfl)
    · replace hw := hw.2 c_4
      refine lv_aload_n hx hb dX9_plan_16 rfl (lv_at hl 0 rfl) ?_
      refine lv_iload_n hx hb dX9_plan_17 rfl (lv_at hl 3 rfl) ?_
      refine g_callVi (o := 0) (As := [.int (i32 a3)]) (rest := []) ⟨hx, hb, hml, hown, hts⟩ I (mX9_isPlace l g a3 ha3 M10_2 _ _ hw) (cwV 1 hts (gd_V wm_X9_104 wi_X9_isPlace wl_X9_isPlace wn_X9 wc_X9_isPlace) rfl rfl rfl wd_X9_isPlace ⟨Nat.le_of_ble_eq_true rfl, Nat.le_of_ble_eq_true rfl⟩) (by omega) (by omega) obR_0 rfl rfl hl.1 rfl (Nat.le_of_ble_eq_true rfl) dX9_plan_18 ⟨Nat.zero_le _, Nat.zero_le _⟩ (fun r18_4 M18_4 H locs hr18_4 hw I => ?_)
      refine li_if_eq (tgt := 33) hx hb dX9_plan_21 (by decide) hr18_4 (fun c_6 => ?_) (fun c_6 => ?_)
      · replace hw := hw.1 c_6
        exact bX9_plan_33 C post _ _ _ _ hw I (lv_sub hl [0] rfl)
      · replace hw := hw.2 c_6
        refine lv_aload_n hx hb dX9_plan_24 rfl (lv_at hl 0 rfl) ?_
        refine lv_iload hx hb dX9_plan_25 (lv_at hl 4 rfl) ?_
        refine g_callVi (o := 0) (As := [.int (i32 a4)]) (rest := []) ⟨hx, hb, hml, hown, hts⟩ I (mX9_isPlace l g a4 ha4 M18_4 _ _ hw) (cwV 1 hts (gd_V wm_X9_104 wi_X9_isPlace wl_X9_isPlace wn_X9 wc_X9_isPlace) rfl rfl rfl wd_X9_isPlace ⟨Nat.le_of_ble_eq_true rfl, Nat.le_of_ble_eq_true rfl⟩) (by omega) (by omega) obR_0 rfl rfl hl.1 rfl (Nat.le_of_ble_eq_true rfl) dX9_plan_27 ⟨Nat.zero_le _, Nat.zero_le _⟩ (fun r27_6 M27_6 H locs hr27_6 hw I => ?_)
        refine li_if_ne (tgt := 36) hx hb dX9_plan_30 (by decide) hr27_6 (fun c_8 => ?_) (fun c_8 => ?_)
        · replace hw := hw.1 c_8
          refine lv_aload_n hx hb dX9_plan_36 rfl (lv_at hl 0 rfl) ?_
          refine lv_iload_n hx hb dX9_plan_37 rfl (lv_at hl 1 rfl) ?_
          refine lv_iload_n hx hb dX9_plan_38 rfl (lv_at hl 2 rfl) ?_
          refine g_callVi (o := 0) (As := [.int (i32 a1), .int (i32 a2)]) (rest := []) ⟨hx, hb, hml, hown, hts⟩ I (mX9_against l g a1 a2 ha1 ha2 M27_6 _ _ hw) (cwV 2 hts (gd_V wm_X9_146 wi_X9_against wl_X9_against wn_X9 wc_X9_against) rfl rfl rfl wd_X9_against ⟨Nat.le_of_ble_eq_true rfl, Nat.le_of_ble_eq_true rfl⟩) (by omega) (by omega) obR_0 rfl rfl hl.1 rfl (Nat.le_of_ble_eq_true rfl) dX9_plan_39 ⟨Nat.zero_le _, Nat.zero_le _⟩ (fun r39_8 M39_8 H locs hr39_8 hw I => ?_)
          refine lv_istore (lv' := [(5, .int (i32 r39_8)), (0, .ref (g.2.2.2 0)), (1, .int (i32 a1)), (2, .int (i32 a2)), (3, .int (i32 a3)), (4, .int (i32 a4))]) hx hb dX9_plan_42 hl (by decide) rfl (fun ls hl => ?_)
          refine lv_iload hx hb dX9_plan_44 (lv_at hl 0 rfl) ?_
          refine li_if_eq (tgt := 52) hx hb dX9_plan_46 (by decide) hr39_8 (fun c_10 => ?_) (fun c_10 => ?_)
          · replace hw := hw.1 c_10
            refine lv_aload_n hx hb dX9_plan_52 rfl (lv_at hl 1 rfl) ?_
            refine lv_iload_n hx hb dX9_plan_53 rfl (lv_at hl 2 rfl) ?_
            refine lv_iload_n hx hb dX9_plan_54 rfl (lv_at hl 3 rfl) ?_
            refine g_callVv (o := 0) (As := [.int (i32 a1), .int (i32 a2)]) (rest := []) ⟨hx, hb, hml, hown, hts⟩ I (mX9_findPlan l g a1 a2 ha1 ha2 M39_8 _ _ hw) (cwV 2 hts (gd_V wm_X9_169 wi_X9_findPlan wl_X9_findPlan wn_X9 wc_X9_findPlan) rfl rfl rfl wd_X9_findPlan ⟨Nat.le_of_ble_eq_true rfl, Nat.le_of_ble_eq_true rfl⟩) (by omega) (by omega) obR_0 rfl rfl hl.1 rfl (Nat.le_of_ble_eq_true rfl) dX9_plan_55 ⟨Nat.zero_le _, Nat.zero_le _⟩ (fun M55_10 H locs hw I => ?_)
            refine lv_aload_n hx hb dX9_plan_58 rfl (lv_at hl 1 rfl) ?_
            refine rg_0_15 hx hb hts wu_X9 hown I wf_X9_40 dX9_plan_59 ?_
            refine lv_bipush (v := i32 10) hx hb dX9_plan_62 (by decide) ?_
            refine lv_iload_n hx hb dX9_plan_64 rfl (lv_at hl 4 rfl) ?_
            refine li_imul hx hb dX9_plan_65 ?_
            refine lv_iload hx hb dX9_plan_66 (lv_at hl 5 rfl) ?_
            refine li_iadd hx hb dX9_plan_68 ?_
            obtain ⟨h_12, hw⟩ := hw
            refine r_iald hx hb I 11 lenR_11 (by decide) h_12 dX9_plan_69 ?_
            have h_13 := I.rng 11 ((10 * a3) + a4)
            exact g_iret hx hb hr hlk I h_13 hw dX9_plan_70
          · replace hw := hw.2 c_10
            refine lv_iload hx hb dX9_plan_49 (lv_at hl 0 rfl) ?_
            exact g_iret hx hb hr hlk I hr39_8 hw dX9_plan_51
        · replace hw := hw.2 c_8
          exact bX9_plan_33 C post _ _ _ _ hw I (lv_sub hl [0] rfl)
abbrev rmX9_alone : Room := { frames := 3, cells := 0, slots := 0, locals := 76 }
abbrev wtX9_alone : List Cond := Cond.code yX9_alone cX9_alone 6 (some .int) :: lw_g
set_option maxRecDepth 100000 in
set_option maxHeartbeats 4000000 in
theorem bX9_alone_71 {p : Program} {l : Launch} {e : Env} {s : State} {m : MethodId} {args : Array Value} {below : List Frame} {meth : Method} {c : Code} {g : GP} (C : Cx p m c cX9_alone 6 s args lw_g RX9 meth (some .int)) (post : Int → Mem → Prop) (k26 : Int → Mem → Prop) (k38 : Int → Int → Mem → Prop) (hk26 : ∀ (x4 : Int), inR x4 → ∀ (M : Mem) (H : Heap) (locs : List Loc) (ls : Array Slot), k26 x4 M → IR g s M H locs → lv_has ls 6 [(0, .ref (g.2.2.2 0)), (4, .int (i32 x4))] → W p l e rmX9_alone s m args below meth c H locs 0 0 (QIR below args s g post) (F0 m 26 ls [])) (hk38 : ∀ (x4 x5 : Int), inR x4 → inR x5 → ∀ (M : Mem) (H : Heap) (locs : List Loc) (ls : Array Slot), k38 x4 x5 M → IR g s M H locs → lv_has ls 6 [(0, .ref (g.2.2.2 0)), (4, .int (i32 x4)), (5, .int (i32 x5))] → W p l e rmX9_alone s m args below meth c H locs 0 0 (QIR below args s g post) (F0 m 38 ls [])) : ∀ (x4 x5 : Int), inR x4 → inR x5 → ∀ (M : Mem) (H : Heap) (locs : List Loc) (ls : Array Slot), jbX9_alone_71 post k26 k38 x4 x5 M → IR g s M H locs → lv_has ls 6 [(0, .ref (g.2.2.2 0)), (4, .int (i32 x4)), (5, .int (i32 x5))] → W p l e rmX9_alone s m args below meth c H locs 0 0 (QIR below args s g post) (F0 m 71 ls []) := by
  obtain ⟨⟨hx, hb, hml, hown, hts⟩, hr, hlk⟩ := id C
  intro x4 x5 h4 h5 M H locs ls hw I hl
  refine li_iinc (lv' := [(5, .int (i32 (x5 + 1))), (0, .ref (g.2.2.2 0)), (4, .int (i32 x4))]) hx hb dX9_alone_71 hl (k := 2) rfl (by decide) rfl (fun ls hl => ?_)
  refine lv_goto (tgt := 38) hx hb dX9_alone_74 (by decide) ?_
  obtain ⟨h_1, hw⟩ := hw
  exact hk38 x4 (x5 + 1) h4 h_1 _ _ _ _ hw I (lv_sub hl [1, 2, 0] rfl)
set_option maxRecDepth 100000 in
set_option maxHeartbeats 4000000 in
theorem bX9_alone_38 {p : Program} {l : Launch} {e : Env} {s : State} {m : MethodId} {args : Array Value} {below : List Frame} {meth : Method} {c : Code} {g : GP} (C : Cx p m c cX9_alone 6 s args lw_g RX9 meth (some .int)) (post : Int → Mem → Prop) (k26 : Int → Mem → Prop) (hk26 : ∀ (x4 : Int), inR x4 → ∀ (M : Mem) (H : Heap) (locs : List Loc) (ls : Array Slot), k26 x4 M → IR g s M H locs → lv_has ls 6 [(0, .ref (g.2.2.2 0)), (4, .int (i32 x4))] → W p l e rmX9_alone s m args below meth c H locs 0 0 (QIR below args s g post) (F0 m 26 ls [])) : ∀ (n : Nat), ∀ (x4 x5 : Int), inR x4 → inR x5 → ∀ (M : Mem) (H : Heap) (locs : List Loc) (ls : Array Slot), lpX9_alone_38 post k26 n x4 x5 M → IR g s M H locs → lv_has ls 6 [(0, .ref (g.2.2.2 0)), (4, .int (i32 x4)), (5, .int (i32 x5))] → W p l e rmX9_alone s m args below meth c H locs 0 0 (QIR below args s g post) (F0 m 38 ls []) := by
  obtain ⟨⟨hx, hb, hml, hown, hts⟩, hr, hlk⟩ := id C
  intro n
  induction n with
  | zero =>
    intro x4 x5 h4 h5 M H locs ls hw
    exact hw.elim
  | succ n ih =>
    intro x4 x5 h4 h5 M H locs ls hw I hl
    refine lv_iload hx hb dX9_alone_38 (lv_at hl 2 rfl) ?_
    refine lv_aload_n hx hb dX9_alone_40 rfl (lv_at hl 0 rfl) ?_
    refine rg_0_0 hx hb hts wu_X9 hown I wf_X9_86 dX9_alone_41 ?_
    have h_1 := I.rng 0 0
    refine li_icmp_ge (tgt := 77) hx hb dX9_alone_44 (by decide) h5 h_1 (fun c_2 => ?_) (fun c_2 => ?_)
    · replace hw := hw.1 c_2
      refine li_iinc (lv' := [(4, .int (i32 (x4 + 1))), (0, .ref (g.2.2.2 0)), (5, .int (i32 x5))]) hx hb dX9_alone_77 hl (k := 1) rfl (by decide) rfl (fun ls hl => ?_)
      refine lv_goto (tgt := 26) hx hb dX9_alone_80 (by decide) ?_
      obtain ⟨h_3, hw⟩ := hw
      exact hk26 (x4 + 1) h_3 _ _ _ _ hw I (lv_sub hl [1, 0] rfl)
    · replace hw := hw.2 c_2
      refine lv_aload_n hx hb dX9_alone_47 rfl (lv_at hl 0 rfl) ?_
      refine lv_iload hx hb dX9_alone_48 (lv_at hl 1 rfl) ?_
      refine lv_iload hx hb dX9_alone_50 (lv_at hl 2 rfl) ?_
      refine g_callVi (o := 0) (As := [.int (i32 x4), .int (i32 x5)]) (rest := []) ⟨hx, hb, hml, hown, hts⟩ I (mX9_isTight l g x4 x5 h4 h5 M _ _ hw) (cwV 2 hts (gd_V wm_X9_153 wi_X9_isTight wl_X9_isTight wn_X9 wc_X9_isTight) rfl rfl rfl wd_X9_isTight ⟨Nat.le_of_ble_eq_true rfl, Nat.le_of_ble_eq_true rfl⟩) (by omega) (by omega) obR_0 rfl rfl hl.1 rfl (Nat.le_of_ble_eq_true rfl) dX9_alone_52 ⟨Nat.zero_le _, Nat.zero_le _⟩ (fun r52_3 M52_3 H locs hr52_3 hw I => ?_)
      refine li_if_eq (tgt := 71) hx hb dX9_alone_55 (by decide) hr52_3 (fun c_5 => ?_) (fun c_5 => ?_)
      · replace hw := hw.1 c_5
        exact bX9_alone_71 C post k26 (fun y4 y5 N => lpX9_alone_38 post k26 n y4 y5 N) hk26 ih x4 x5 h4 h5 _ _ _ _ hw I (lv_sub hl [0, 1, 2] rfl)
      · replace hw := hw.2 c_5
        refine lv_aload_n hx hb dX9_alone_58 rfl (lv_at hl 0 rfl) ?_
        refine lv_iload hx hb dX9_alone_59 (lv_at hl 1 rfl) ?_
        refine lv_iload hx hb dX9_alone_61 (lv_at hl 2 rfl) ?_
        refine g_callVi (o := 0) (As := [.int (i32 x4), .int (i32 x5)]) (rest := []) ⟨hx, hb, hml, hown, hts⟩ I (mX9_canTurn l g x4 x5 h4 h5 M52_3 _ _ hw) (cwV 2 hts (gd_V wm_X9_163 wi_X9_canTurn wl_X9_canTurn wn_X9 wc_X9_canTurn) rfl rfl rfl wd_X9_canTurn ⟨Nat.le_of_ble_eq_true rfl, Nat.le_of_ble_eq_true rfl⟩) (by omega) (by omega) obR_0 rfl rfl hl.1 rfl (Nat.le_of_ble_eq_true rfl) dX9_alone_63 ⟨Nat.zero_le _, Nat.zero_le _⟩ (fun r63_5 M63_5 H locs hr63_5 hw I => ?_)
        refine li_if_eq (tgt := 71) hx hb dX9_alone_66 (by decide) hr63_5 (fun c_7 => ?_) (fun c_7 => ?_)
        · replace hw := hw.1 c_7
          exact bX9_alone_71 C post k26 (fun y4 y5 N => lpX9_alone_38 post k26 n y4 y5 N) hk26 ih x4 x5 h4 h5 _ _ _ _ hw I (lv_sub hl [0, 1, 2] rfl)
        · replace hw := hw.2 c_7
          refine li_iconst hx hb dX9_alone_69 ?_
          exact g_iret hx hb hr hlk I (by decide) hw dX9_alone_70
set_option maxRecDepth 100000 in
set_option maxHeartbeats 4000000 in
theorem bX9_alone_26 {p : Program} {l : Launch} {e : Env} {s : State} {m : MethodId} {args : Array Value} {below : List Frame} {meth : Method} {c : Code} {g : GP} (C : Cx p m c cX9_alone 6 s args lw_g RX9 meth (some .int)) (post : Int → Mem → Prop) : ∀ (n : Nat), ∀ (x4 : Int), inR x4 → ∀ (M : Mem) (H : Heap) (locs : List Loc) (ls : Array Slot), lpX9_alone_26 post n x4 M → IR g s M H locs → lv_has ls 6 [(0, .ref (g.2.2.2 0)), (4, .int (i32 x4))] → W p l e rmX9_alone s m args below meth c H locs 0 0 (QIR below args s g post) (F0 m 26 ls []) := by
  obtain ⟨⟨hx, hb, hml, hown, hts⟩, hr, hlk⟩ := id C
  intro n
  induction n with
  | zero =>
    intro x4 h4 M H locs ls hw
    exact hw.elim
  | succ n ih =>
    intro x4 h4 M H locs ls hw I hl
    refine lv_iload hx hb dX9_alone_26 (lv_at hl 1 rfl) ?_
    refine lv_aload_n hx hb dX9_alone_28 rfl (lv_at hl 0 rfl) ?_
    refine rg_0_0 hx hb hts wu_X9 hown I wf_X9_86 dX9_alone_29 ?_
    have h_1 := I.rng 0 0
    refine li_icmp_ge (tgt := 83) hx hb dX9_alone_32 (by decide) h4 h_1 (fun c_2 => ?_) (fun c_2 => ?_)
    · replace hw := hw.1 c_2
      refine li_iconst hx hb dX9_alone_83 ?_
      exact g_iret hx hb hr hlk I (by decide) hw dX9_alone_84
    · replace hw := hw.2 c_2
      refine li_iconst hx hb dX9_alone_35 ?_
      refine lv_istore (lv' := [(5, .int (i32 0)), (0, .ref (g.2.2.2 0)), (4, .int (i32 x4))]) hx hb dX9_alone_36 hl (by decide) rfl (fun ls hl => ?_)
      obtain ⟨n1, hw⟩ := hw
      exact bX9_alone_38 C post (fun y4 N => lpX9_alone_26 post n y4 N) ih n1 x4 0 h4 (by decide) _ _ _ _ hw I (lv_sub hl [1, 2, 0] rfl)
set_option maxRecDepth 100000 in
set_option maxHeartbeats 4000000 in
theorem mX9_alone (l : Launch) (g : GP) (a1 a2 : Int) (ha1 : inR a1) (ha2 : inR a2) (M : Mem) (post : Int → Mem → Prop) (sz : Nat) (hw : wpX9_alone a1 a2 M post) : MIR l yX9_alone wtX9_alone rmX9_alone g [.ref (g.2.2.2 0), .int (i32 a1), .int (i32 a2)] M sz post := by
  refine Met.ofW (cc := cX9_alone) (maxL := 6) (ret := (some .int)) (by decide) rfl ?_
  intro p e s m args below meth c s₁ B hml hv
  obtain ⟨rfl, hpre⟩ := hv
  have hsz := hpre.1
  subst hsz
  have C : Cx p m c cX9_alone 6 s _ lw_g RX9 meth (some .int) := ⟨⟨B.exec, B.bytes, hml, findClass_of_methodNamed B.named, fun w h => atoms_spec (ws := wtX9_alone) B.pre w (List.mem_cons_of_mem _ h)⟩, B.returns, B.notSynchronized⟩
  obtain ⟨⟨hx, hb, hml, hown, hts⟩, hr, hlk⟩ := id C
  have I := InG.start hpre
  have hl := lv_entry ([.ref (g.2.2.2 0), .int (i32 a1), .int (i32 a2)]) (n := 6) (Nat.le_of_ble_eq_true rfl)
  rw [lg_entry_eq]
  generalize (lg_sl ([.ref (g.2.2.2 0), .int (i32 a1), .int (i32 a2)]) ++ List.replicate (6 - (lg_sl ([.ref (g.2.2.2 0), .int (i32 a1), .int (i32 a2)])).length) Slot.unset).toArray = ls at hl ⊢
  have hl : lv_has ls 6 [(0, .ref (g.2.2.2 0)), (1, .int (i32 a1)), (2, .int (i32 a2))] := hl
  show W p l e rmX9_alone s m _ below meth c s.heap [] 0 0 (QIR below _ s g post) _
  refine lv_aload_n hx hb dX9_alone_0 rfl (lv_at hl 0 rfl) ?_
  refine lv_iload_n hx hb dX9_alone_1 rfl (lv_at hl 1 rfl) ?_
  refine lv_iload_n hx hb dX9_alone_2 rfl (lv_at hl 2 rfl) ?_
  refine g_callVi (o := 0) (As := [.int (i32 a1), .int (i32 a2)]) (rest := []) ⟨hx, hb, hml, hown, hts⟩ I (mX9_against l g a1 a2 ha1 ha2 M _ _ hw) (cwV 2 hts (gd_V wm_X9_146 wi_X9_against wl_X9_against wn_X9 wc_X9_against) rfl rfl rfl wd_X9_against ⟨Nat.le_of_ble_eq_true rfl, Nat.le_of_ble_eq_true rfl⟩) (by omega) (by omega) obR_0 rfl rfl hl.1 rfl (Nat.le_of_ble_eq_true rfl) dX9_alone_3 ⟨Nat.zero_le _, Nat.zero_le _⟩ (fun r3_0 M3_0 H locs hr3_0 hw I => ?_)
  refine lv_istore_n (lv' := [(3, .int (i32 r3_0)), (0, .ref (g.2.2.2 0)), (1, .int (i32 a1)), (2, .int (i32 a2))]) hx hb dX9_alone_6 rfl hl (by decide) rfl (fun ls hl => ?_)
  refine lv_iload_n hx hb dX9_alone_7 rfl (lv_at hl 0 rfl) ?_
  refine li_if_eq (tgt := 13) hx hb dX9_alone_8 (by decide) hr3_0 (fun c_2 => ?_) (fun c_2 => ?_)
  · replace hw := hw.1 c_2
    refine lv_aload_n hx hb dX9_alone_13 rfl (lv_at hl 1 rfl) ?_
    refine lv_iload_n hx hb dX9_alone_14 rfl (lv_at hl 2 rfl) ?_
    refine lv_iload_n hx hb dX9_alone_15 rfl (lv_at hl 3 rfl) ?_
    refine g_callVv (o := 0) (As := [.int (i32 a1), .int (i32 a2)]) (rest := []) ⟨hx, hb, hml, hown, hts⟩ I (mX9_findPlan l g a1 a2 ha1 ha2 M3_0 _ _ hw) (cwV 2 hts (gd_V wm_X9_169 wi_X9_findPlan wl_X9_findPlan wn_X9 wc_X9_findPlan) rfl rfl rfl wd_X9_findPlan ⟨Nat.le_of_ble_eq_true rfl, Nat.le_of_ble_eq_true rfl⟩) (by omega) (by omega) obR_0 rfl rfl hl.1 rfl (Nat.le_of_ble_eq_true rfl) dX9_alone_16 ⟨Nat.zero_le _, Nat.zero_le _⟩ (fun M16_2 H locs hw I => ?_)
    refine lv_aload_n hx hb dX9_alone_19 rfl (lv_at hl 1 rfl) ?_
    refine g_callVv (o := 0) (As := []) (rest := []) ⟨hx, hb, hml, hown, hts⟩ I (mX9_loosen l g M16_2 _ _ hw) (cwV 0 hts (gd_V wm_X9_160 wi_X9_loosen wl_X9_loosen wn_X9 wc_X9_loosen) rfl rfl rfl wd_X9_loosen ⟨Nat.le_of_ble_eq_true rfl, Nat.le_of_ble_eq_true rfl⟩) (by omega) (by omega) obR_0 rfl rfl hl.1 rfl (Nat.le_of_ble_eq_true rfl) dX9_alone_20 ⟨Nat.zero_le _, Nat.zero_le _⟩ (fun M20_3 H locs hw I => ?_)
    refine li_iconst hx hb dX9_alone_23 ?_
    refine lv_istore (lv' := [(4, .int (i32 0)), (3, .int (i32 r3_0)), (0, .ref (g.2.2.2 0)), (1, .int (i32 a1)), (2, .int (i32 a2))]) hx hb dX9_alone_24 hl (by decide) rfl (fun ls hl => ?_)
    obtain ⟨n1, hw⟩ := hw
    exact bX9_alone_26 C post n1 0 (by decide) _ _ _ _ hw I (lv_sub hl [2, 0] rfl)
  · replace hw := hw.2 c_2
    refine lv_iload_n hx hb dX9_alone_11 rfl (lv_at hl 0 rfl) ?_
    exact g_iret hx hb hr hlk I hr3_0 hw dX9_alone_12
abbrev rmX9_height : Room := { frames := 3, cells := 0, slots := 0, locals := 68 }
abbrev wtX9_height : List Cond := Cond.code yX9_height cX9_height 5 (some .int) :: lw_g
set_option maxRecDepth 100000 in
set_option maxHeartbeats 4000000 in
theorem bX9_height_17 {p : Program} {l : Launch} {e : Env} {s : State} {m : MethodId} {args : Array Value} {below : List Frame} {meth : Method} {c : Code} {g : GP} (C : Cx p m c cX9_height 5 s args lw_g RX9 meth (some .int)) (post : Int → Mem → Prop) : ∀ (M : Mem) (H : Heap) (locs : List Loc) (ls : Array Slot), jbX9_height_17 post  M → IR g s M H locs → lv_has ls 5 [(0, .ref (g.2.2.2 0))] → W p l e rmX9_height s m args below meth c H locs 0 0 (QIR below args s g post) (F0 m 17 ls []) := by
  obtain ⟨⟨hx, hb, hml, hown, hts⟩, hr, hlk⟩ := id C
  intro M H locs ls hw I hl
  refine lv_ldc (v := i32 (-2147483648)) hx hb hown (hts _ wk_X9_172) dX9_height_17 ?_
  exact g_iret hx hb hr hlk I (by decide) hw dX9_height_19
set_option maxRecDepth 100000 in
set_option maxHeartbeats 4000000 in
theorem bX9_height_53 {p : Program} {l : Launch} {e : Env} {s : State} {m : MethodId} {args : Array Value} {below : List Frame} {meth : Method} {c : Code} {g : GP} (C : Cx p m c cX9_height 5 s args lw_g RX9 meth (some .int)) (post : Int → Mem → Prop) : ∀ (t0 : Int), inR t0 → ∀ (M : Mem) (H : Heap) (locs : List Loc) (ls : Array Slot), jbX9_height_53 post t0 M → IR g s M H locs → lv_has ls 5 [(0, .ref (g.2.2.2 0))] → W p l e rmX9_height s m args below meth c H locs 0 0 (QIR below args s g post) (F0 m 53 ls [.int (i32 t0)]) := by
  obtain ⟨⟨hx, hb, hml, hown, hts⟩, hr, hlk⟩ := id C
  intro t0 ht0 M H locs ls hw I hl
  exact g_iret hx hb hr hlk I ht0 hw dX9_height_53
set_option maxRecDepth 100000 in
set_option maxHeartbeats 4000000 in
theorem mX9_height (l : Launch) (g : GP) (a1 a2 a3 : Int) (ha1 : inR a1) (ha2 : inR a2) (ha3 : inR a3) (M : Mem) (post : Int → Mem → Prop) (sz : Nat) (hw : wpX9_height a1 a2 a3 M post) : MIR l yX9_height wtX9_height rmX9_height g [.ref (g.2.2.2 0), .int (i32 a1), .int (i32 a2), .int (i32 a3)] M sz post := by
  refine Met.ofW (cc := cX9_height) (maxL := 5) (ret := (some .int)) (by decide) rfl ?_
  intro p e s m args below meth c s₁ B hml hv
  obtain ⟨rfl, hpre⟩ := hv
  have hsz := hpre.1
  subst hsz
  have C : Cx p m c cX9_height 5 s _ lw_g RX9 meth (some .int) := ⟨⟨B.exec, B.bytes, hml, findClass_of_methodNamed B.named, fun w h => atoms_spec (ws := wtX9_height) B.pre w (List.mem_cons_of_mem _ h)⟩, B.returns, B.notSynchronized⟩
  obtain ⟨⟨hx, hb, hml, hown, hts⟩, hr, hlk⟩ := id C
  have I := InG.start hpre
  have hl := lv_entry ([.ref (g.2.2.2 0), .int (i32 a1), .int (i32 a2), .int (i32 a3)]) (n := 5) (Nat.le_of_ble_eq_true rfl)
  rw [lg_entry_eq]
  generalize (lg_sl ([.ref (g.2.2.2 0), .int (i32 a1), .int (i32 a2), .int (i32 a3)]) ++ List.replicate (5 - (lg_sl ([.ref (g.2.2.2 0), .int (i32 a1), .int (i32 a2), .int (i32 a3)])).length) Slot.unset).toArray = ls at hl ⊢
  have hl : lv_has ls 5 [(0, .ref (g.2.2.2 0)), (1, .int (i32 a1)), (2, .int (i32 a2)), (3, .int (i32 a3))] := hl
  show W p l e rmX9_height s m _ below meth c s.heap [] 0 0 (QIR below _ s g post) _
  refine lv_aload_n hx hb dX9_height_0 rfl (lv_at hl 0 rfl) ?_
  refine lv_iload_n hx hb dX9_height_1 rfl (lv_at hl 3 rfl) ?_
  refine g_callVi (o := 0) (As := [.int (i32 a3)]) (rest := []) ⟨hx, hb, hml, hown, hts⟩ I (mX9_isPlace l g a3 ha3 M _ _ hw) (cwV 1 hts (gd_V wm_X9_104 wi_X9_isPlace wl_X9_isPlace wn_X9 wc_X9_isPlace) rfl rfl rfl wd_X9_isPlace ⟨Nat.le_of_ble_eq_true rfl, Nat.le_of_ble_eq_true rfl⟩) (by omega) (by omega) obR_0 rfl rfl hl.1 rfl (Nat.le_of_ble_eq_true rfl) dX9_height_2 ⟨Nat.zero_le _, Nat.zero_le _⟩ (fun r2_0 M2_0 H locs hr2_0 hw I => ?_)
  refine li_if_eq (tgt := 17) hx hb dX9_height_5 (by decide) hr2_0 (fun c_2 => ?_) (fun c_2 => ?_)
  · replace hw := hw.1 c_2
    exact bX9_height_17 C post _ _ _ _ hw I (lv_sub hl [0] rfl)
  · replace hw := hw.2 c_2
    refine lv_aload_n hx hb dX9_height_8 rfl (lv_at hl 0 rfl) ?_
    refine lv_iload_n hx hb dX9_height_9 rfl (lv_at hl 1 rfl) ?_
    refine lv_iload_n hx hb dX9_height_10 rfl (lv_at hl 2 rfl) ?_
    refine g_callVi (o := 0) (As := [.int (i32 a1), .int (i32 a2)]) (rest := []) ⟨hx, hb, hml, hown, hts⟩ I (mX9_against l g a1 a2 ha1 ha2 M2_0 _ _ hw) (cwV 2 hts (gd_V wm_X9_146 wi_X9_against wl_X9_against wn_X9 wc_X9_against) rfl rfl rfl wd_X9_against ⟨Nat.le_of_ble_eq_true rfl, Nat.le_of_ble_eq_true rfl⟩) (by omega) (by omega) obR_0 rfl rfl hl.1 rfl (Nat.le_of_ble_eq_true rfl) dX9_height_11 ⟨Nat.zero_le _, Nat.zero_le _⟩ (fun r11_2 M11_2 H locs hr11_2 hw I => ?_)
    refine li_if_eq (tgt := 20) hx hb dX9_height_14 (by decide) hr11_2 (fun c_4 => ?_) (fun c_4 => ?_)
    · replace hw := hw.1 c_4
      refine lv_aload_n hx hb dX9_height_20 rfl (lv_at hl 0 rfl) ?_
      refine lv_iload_n hx hb dX9_height_21 rfl (lv_at hl 1 rfl) ?_
      refine lv_iload_n hx hb dX9_height_22 rfl (lv_at hl 2 rfl) ?_
      refine lv_aload_n hx hb dX9_height_23 rfl (lv_at hl 0 rfl) ?_
      refine lv_iload_n hx hb dX9_height_24 rfl (lv_at hl 1 rfl) ?_
      refine g_callVi (o := 0) (As := [.int (i32 a1)]) (rest := [.int (i32 a2), .int (i32 a1), .ref (g.2.2.2 0)]) ⟨hx, hb, hml, hown, hts⟩ I (mX9_sumOf l g a1 ha1 M11_2 _ _ hw) (cwV 1 hts (gd_V wm_X9_123 wi_X9_sumOf wl_X9_sumOf wn_X9 wc_X9_sumOf) rfl rfl rfl wd_X9_sumOf ⟨Nat.le_of_ble_eq_true rfl, Nat.le_of_ble_eq_true rfl⟩) (by omega) (by omega) obR_0 rfl rfl hl.1 rfl (Nat.le_of_ble_eq_true rfl) dX9_height_25 ⟨Nat.zero_le _, Nat.zero_le _⟩ (fun r25_4 M25_4 H locs hr25_4 hw I => ?_)
      refine g_callVi (o := 0) (As := [.int (i32 a1), .int (i32 a2), .int (i32 r25_4)]) (rest := []) ⟨hx, hb, hml, hown, hts⟩ I (mX9_solve l g a1 a2 r25_4 ha1 ha2 hr25_4 M25_4 _ _ hw) (cwV 3 hts (gd_V wm_X9_149 wi_X9_solve wl_X9_solve wn_X9 wc_X9_solve) rfl rfl rfl wd_X9_solve ⟨Nat.le_of_ble_eq_true rfl, Nat.le_of_ble_eq_true rfl⟩) (by omega) (by omega) obR_0 rfl rfl hl.1 rfl (Nat.le_of_ble_eq_true rfl) dX9_height_28 ⟨Nat.zero_le _, Nat.zero_le _⟩ (fun r28_5 M28_5 H locs hr28_5 hw I => ?_)
      refine lv_istore (lv' := [(4, .int (i32 r28_5)), (0, .ref (g.2.2.2 0)), (1, .int (i32 a1)), (2, .int (i32 a2)), (3, .int (i32 a3))]) hx hb dX9_height_31 hl (by decide) rfl (fun ls hl => ?_)
      refine lv_aload_n hx hb dX9_height_33 rfl (lv_at hl 1 rfl) ?_
      refine g_callVv (o := 0) (As := []) (rest := []) ⟨hx, hb, hml, hown, hts⟩ I (mX9_findHeights l g M28_5 _ _ hw) (cwV 0 hts (gd_V wm_X9_157 wi_X9_findHeights wl_X9_findHeights wn_X9 wc_X9_findHeights) rfl rfl rfl wd_X9_findHeights ⟨Nat.le_of_ble_eq_true rfl, Nat.le_of_ble_eq_true rfl⟩) (by omega) (by omega) obR_0 rfl rfl hl.1 rfl (Nat.le_of_ble_eq_true rfl) dX9_height_34 ⟨Nat.zero_le _, Nat.zero_le _⟩ (fun M34_6 H locs hw I => ?_)
      refine lv_iload hx hb dX9_height_37 (lv_at hl 0 rfl) ?_
      refine li_if_ge (tgt := 47) hx hb dX9_height_39 (by decide) hr28_5 (fun c_8 => ?_) (fun c_8 => ?_)
      · replace hw := hw.1 c_8
        refine lv_aload_n hx hb dX9_height_47 rfl (lv_at hl 1 rfl) ?_
        refine rg_0_18 hx hb hts wu_X9 hown I wf_X9_49 dX9_height_48 ?_
        refine lv_iload_n hx hb dX9_height_51 rfl (lv_at hl 4 rfl) ?_
        obtain ⟨h_9, hw⟩ := hw
        refine r_iald hx hb I 14 lenR_14 (by decide) h_9 dX9_height_52 ?_
        have h_10 := I.rng 14 a3
        exact bX9_height_53 C post (M34_6 14 a3) h_10 _ _ _ _ hw I (lv_sub hl [1] rfl)
      · replace hw := hw.2 c_8
        refine lv_ldc (v := i32 (-2147483648)) hx hb hown (hts _ wk_X9_172) dX9_height_42 ?_
        refine lv_goto (tgt := 53) hx hb dX9_height_44 (by decide) ?_
        exact bX9_height_53 C post (-2147483648) (by decide) _ _ _ _ hw I (lv_sub hl [1] rfl)
    · replace hw := hw.2 c_4
      exact bX9_height_17 C post _ _ _ _ hw I (lv_sub hl [0] rfl)
abbrev rmX9_load : Room := { frames := 3, cells := 0, slots := 0, locals := 76 }
abbrev wtX9_load : List Cond := Cond.code yX9_load cX9_load 11 (some .int) :: lw_g
set_option maxRecDepth 100000 in
set_option maxHeartbeats 4000000 in
theorem bX9_load_33 {p : Program} {l : Launch} {e : Env} {s : State} {m : MethodId} {args : Array Value} {below : List Frame} {meth : Method} {c : Code} {g : GP} (C : Cx p m c cX9_load 11 s args lw_g RX9 meth (some .int)) (post : Int → Mem → Prop) : ∀ (M : Mem) (H : Heap) (locs : List Loc) (ls : Array Slot), jbX9_load_33 post  M → IR g s M H locs → lv_has ls 11 [(0, .ref (g.2.2.2 0))] → W p l e rmX9_load s m args below meth c H locs 0 0 (QIR below args s g post) (F0 m 33 ls []) := by
  obtain ⟨⟨hx, hb, hml, hown, hts⟩, hr, hlk⟩ := id C
  intro M H locs ls hw I hl
  refine lv_bipush (v := i32 (-2)) hx hb dX9_load_33 (by decide) ?_
  exact g_iret hx hb hr hlk I (by decide) hw dX9_load_35
set_option maxRecDepth 100000 in
set_option maxHeartbeats 4000000 in
theorem bX9_load_164 {p : Program} {l : Launch} {e : Env} {s : State} {m : MethodId} {args : Array Value} {below : List Frame} {meth : Method} {c : Code} {g : GP} (C : Cx p m c cX9_load 11 s args lw_g RX9 meth (some .int)) (post : Int → Mem → Prop) (k64 : Int → Int → Int → Int → Mem → Prop) (k76 : Int → Int → Int → Int → Int → Mem → Prop) (hk64 : ∀ (x3 x4 x6 x7 : Int), inR x3 → inR x4 → inR x6 → inR x7 → ∀ (M : Mem) (H : Heap) (locs : List Loc) (ls : Array Slot), k64 x3 x4 x6 x7 M → IR g s M H locs → lv_has ls 11 [(0, .ref (g.2.2.2 0)), (3, .int (i32 x3)), (4, .int (i32 x4)), (6, .int (i32 x6)), (7, .int (i32 x7))] → W p l e rmX9_load s m args below meth c H locs 0 0 (QIR below args s g post) (F0 m 64 ls [])) (hk76 : ∀ (x3 x4 x6 x7 x8 : Int), inR x3 → inR x4 → inR x6 → inR x7 → inR x8 → ∀ (M : Mem) (H : Heap) (locs : List Loc) (ls : Array Slot), k76 x3 x4 x6 x7 x8 M → IR g s M H locs → lv_has ls 11 [(0, .ref (g.2.2.2 0)), (3, .int (i32 x3)), (4, .int (i32 x4)), (6, .int (i32 x6)), (7, .int (i32 x7)), (8, .int (i32 x8))] → W p l e rmX9_load s m args below meth c H locs 0 0 (QIR below args s g post) (F0 m 76 ls [])) : ∀ (x3 x4 x6 x7 x8 : Int), inR x3 → inR x4 → inR x6 → inR x7 → inR x8 → ∀ (M : Mem) (H : Heap) (locs : List Loc) (ls : Array Slot), jbX9_load_164 post k64 k76 x3 x4 x6 x7 x8 M → IR g s M H locs → lv_has ls 11 [(0, .ref (g.2.2.2 0)), (3, .int (i32 x3)), (4, .int (i32 x4)), (6, .int (i32 x6)), (7, .int (i32 x7)), (8, .int (i32 x8))] → W p l e rmX9_load s m args below meth c H locs 0 0 (QIR below args s g post) (F0 m 164 ls []) := by
  obtain ⟨⟨hx, hb, hml, hown, hts⟩, hr, hlk⟩ := id C
  intro x3 x4 x6 x7 x8 h3 h4 h6 h7 h8 M H locs ls hw I hl
  refine li_iinc (lv' := [(8, .int (i32 (x8 + 1))), (0, .ref (g.2.2.2 0)), (3, .int (i32 x3)), (4, .int (i32 x4)), (6, .int (i32 x6)), (7, .int (i32 x7))]) hx hb dX9_load_164 hl (k := 5) rfl (by decide) rfl (fun ls hl => ?_)
  refine lv_goto (tgt := 76) hx hb dX9_load_167 (by decide) ?_
  obtain ⟨h_1, hw⟩ := hw
  exact hk76 x3 x4 x6 x7 (x8 + 1) h3 h4 h6 h7 h_1 _ _ _ _ hw I (lv_sub hl [1, 2, 3, 4, 5, 0] rfl)
set_option maxRecDepth 100000 in
set_option maxHeartbeats 4000000 in
theorem bX9_load_154 {p : Program} {l : Launch} {e : Env} {s : State} {m : MethodId} {args : Array Value} {below : List Frame} {meth : Method} {c : Code} {g : GP} (C : Cx p m c cX9_load 11 s args lw_g RX9 meth (some .int)) (post : Int → Mem → Prop) (k64 : Int → Int → Int → Int → Mem → Prop) (k76 : Int → Int → Int → Int → Int → Mem → Prop) (k89 : Int → Int → Int → Int → Int → Int → Mem → Prop) (hk64 : ∀ (x3 x4 x6 x7 : Int), inR x3 → inR x4 → inR x6 → inR x7 → ∀ (M : Mem) (H : Heap) (locs : List Loc) (ls : Array Slot), k64 x3 x4 x6 x7 M → IR g s M H locs → lv_has ls 11 [(0, .ref (g.2.2.2 0)), (3, .int (i32 x3)), (4, .int (i32 x4)), (6, .int (i32 x6)), (7, .int (i32 x7))] → W p l e rmX9_load s m args below meth c H locs 0 0 (QIR below args s g post) (F0 m 64 ls [])) (hk76 : ∀ (x3 x4 x6 x7 x8 : Int), inR x3 → inR x4 → inR x6 → inR x7 → inR x8 → ∀ (M : Mem) (H : Heap) (locs : List Loc) (ls : Array Slot), k76 x3 x4 x6 x7 x8 M → IR g s M H locs → lv_has ls 11 [(0, .ref (g.2.2.2 0)), (3, .int (i32 x3)), (4, .int (i32 x4)), (6, .int (i32 x6)), (7, .int (i32 x7)), (8, .int (i32 x8))] → W p l e rmX9_load s m args below meth c H locs 0 0 (QIR below args s g post) (F0 m 76 ls [])) (hk89 : ∀ (x3 x4 x6 x7 x8 x9 : Int), inR x3 → inR x4 → inR x6 → inR x7 → inR x8 → inR x9 → ∀ (M : Mem) (H : Heap) (locs : List Loc) (ls : Array Slot), k89 x3 x4 x6 x7 x8 x9 M → IR g s M H locs → lv_has ls 11 [(0, .ref (g.2.2.2 0)), (3, .int (i32 x3)), (4, .int (i32 x4)), (6, .int (i32 x6)), (7, .int (i32 x7)), (8, .int (i32 x8)), (9, .int (i32 x9))] → W p l e rmX9_load s m args below meth c H locs 0 0 (QIR below args s g post) (F0 m 89 ls [])) : ∀ (x3 x4 x7 x8 x10 t0 t1 : Int), inR x3 → inR x4 → inR x7 → inR x8 → inR x10 → inR t0 → inR t1 → ∀ (M : Mem) (H : Heap) (locs : List Loc) (ls : Array Slot), jbX9_load_154 post k64 k76 k89 x3 x4 x7 x8 x10 t0 t1 M → IR g s M H locs → lv_has ls 11 [(0, .ref (g.2.2.2 0)), (3, .int (i32 x3)), (4, .int (i32 x4)), (7, .int (i32 x7)), (8, .int (i32 x8)), (10, .int (i32 x10))] → W p l e rmX9_load s m args below meth c H locs 0 0 (QIR below args s g post) (F0 m 154 ls [.int (i32 t0), .int (i32 t1)]) := by
  obtain ⟨⟨hx, hb, hml, hown, hts⟩, hr, hlk⟩ := id C
  intro x3 x4 x7 x8 x10 t0 t1 h3 h4 h7 h8 h10 ht0 ht1 M H locs ls hw I hl
  refine li_iadd hx hb dX9_load_154 ?_
  obtain ⟨h_1, hw⟩ := hw
  refine li_name (fun v155_1 ev155_1 => ?_)
  replace hw := hw v155_1 ev155_1
  have hv155_1 : inR v155_1 := ev155_1 ▸ h_1
  refine lv_istore (lv' := [(6, .int (i32 v155_1)), (0, .ref (g.2.2.2 0)), (3, .int (i32 x3)), (4, .int (i32 x4)), (7, .int (i32 x7)), (8, .int (i32 x8)), (10, .int (i32 x10))]) hx hb dX9_load_155 hl (by decide) rfl (fun ls hl => ?_)
  refine lv_iload hx hb dX9_load_157 (lv_at hl 6 rfl) ?_
  refine lv_istore (lv' := [(9, .int (i32 x10)), (6, .int (i32 v155_1)), (0, .ref (g.2.2.2 0)), (3, .int (i32 x3)), (4, .int (i32 x4)), (7, .int (i32 x7)), (8, .int (i32 x8)), (10, .int (i32 x10))]) hx hb dX9_load_159 hl (by decide) rfl (fun ls hl => ?_)
  refine lv_goto (tgt := 89) hx hb dX9_load_161 (by decide) ?_
  exact hk89 x3 x4 v155_1 x7 x8 x10 h3 h4 hv155_1 h7 h8 h10 _ _ _ _ hw I (lv_sub hl [2, 3, 4, 1, 5, 6, 0] rfl)
set_option maxRecDepth 100000 in
set_option maxHeartbeats 4000000 in
theorem bX9_load_153 {p : Program} {l : Launch} {e : Env} {s : State} {m : MethodId} {args : Array Value} {below : List Frame} {meth : Method} {c : Code} {g : GP} (C : Cx p m c cX9_load 11 s args lw_g RX9 meth (some .int)) (post : Int → Mem → Prop) (k64 : Int → Int → Int → Int → Mem → Prop) (k76 : Int → Int → Int → Int → Int → Mem → Prop) (k89 : Int → Int → Int → Int → Int → Int → Mem → Prop) (hk64 : ∀ (x3 x4 x6 x7 : Int), inR x3 → inR x4 → inR x6 → inR x7 → ∀ (M : Mem) (H : Heap) (locs : List Loc) (ls : Array Slot), k64 x3 x4 x6 x7 M → IR g s M H locs → lv_has ls 11 [(0, .ref (g.2.2.2 0)), (3, .int (i32 x3)), (4, .int (i32 x4)), (6, .int (i32 x6)), (7, .int (i32 x7))] → W p l e rmX9_load s m args below meth c H locs 0 0 (QIR below args s g post) (F0 m 64 ls [])) (hk76 : ∀ (x3 x4 x6 x7 x8 : Int), inR x3 → inR x4 → inR x6 → inR x7 → inR x8 → ∀ (M : Mem) (H : Heap) (locs : List Loc) (ls : Array Slot), k76 x3 x4 x6 x7 x8 M → IR g s M H locs → lv_has ls 11 [(0, .ref (g.2.2.2 0)), (3, .int (i32 x3)), (4, .int (i32 x4)), (6, .int (i32 x6)), (7, .int (i32 x7)), (8, .int (i32 x8))] → W p l e rmX9_load s m args below meth c H locs 0 0 (QIR below args s g post) (F0 m 76 ls [])) (hk89 : ∀ (x3 x4 x6 x7 x8 x9 : Int), inR x3 → inR x4 → inR x6 → inR x7 → inR x8 → inR x9 → ∀ (M : Mem) (H : Heap) (locs : List Loc) (ls : Array Slot), k89 x3 x4 x6 x7 x8 x9 M → IR g s M H locs → lv_has ls 11 [(0, .ref (g.2.2.2 0)), (3, .int (i32 x3)), (4, .int (i32 x4)), (6, .int (i32 x6)), (7, .int (i32 x7)), (8, .int (i32 x8)), (9, .int (i32 x9))] → W p l e rmX9_load s m args below meth c H locs 0 0 (QIR below args s g post) (F0 m 89 ls [])) : ∀ (x3 x4 x7 x8 x10 t0 : Int), inR x3 → inR x4 → inR x7 → inR x8 → inR x10 → inR t0 → ∀ (M : Mem) (H : Heap) (locs : List Loc) (ls : Array Slot), jbX9_load_153 post k64 k76 k89 x3 x4 x7 x8 x10 t0 M → IR g s M H locs → lv_has ls 11 [(0, .ref (g.2.2.2 0)), (3, .int (i32 x3)), (4, .int (i32 x4)), (7, .int (i32 x7)), (8, .int (i32 x8)), (10, .int (i32 x10))] → W p l e rmX9_load s m args below meth c H locs 0 0 (QIR below args s g post) (F0 m 153 ls [.int (i32 t0)]) := by
  obtain ⟨⟨hx, hb, hml, hown, hts⟩, hr, hlk⟩ := id C
  intro x3 x4 x7 x8 x10 t0 h3 h4 h7 h8 h10 ht0 M H locs ls hw I hl
  refine li_iconst hx hb dX9_load_153 ?_
  exact bX9_load_154 C post k64 k76 k89 hk64 hk76 hk89 x3 x4 x7 x8 x10 0 t0 h3 h4 h7 h8 h10 (by decide) ht0 _ _ _ _ hw I (lv_sub hl [0, 1, 2, 3, 4, 5] rfl)
set_option maxRecDepth 100000 in
set_option maxHeartbeats 4000000 in
theorem bX9_load_89 {p : Program} {l : Launch} {e : Env} {s : State} {m : MethodId} {args : Array Value} {below : List Frame} {meth : Method} {c : Code} {g : GP} (C : Cx p m c cX9_load 11 s args lw_g RX9 meth (some .int)) (post : Int → Mem → Prop) (k64 : Int → Int → Int → Int → Mem → Prop) (k76 : Int → Int → Int → Int → Int → Mem → Prop) (hk64 : ∀ (x3 x4 x6 x7 : Int), inR x3 → inR x4 → inR x6 → inR x7 → ∀ (M : Mem) (H : Heap) (locs : List Loc) (ls : Array Slot), k64 x3 x4 x6 x7 M → IR g s M H locs → lv_has ls 11 [(0, .ref (g.2.2.2 0)), (3, .int (i32 x3)), (4, .int (i32 x4)), (6, .int (i32 x6)), (7, .int (i32 x7))] → W p l e rmX9_load s m args below meth c H locs 0 0 (QIR below args s g post) (F0 m 64 ls [])) (hk76 : ∀ (x3 x4 x6 x7 x8 : Int), inR x3 → inR x4 → inR x6 → inR x7 → inR x8 → ∀ (M : Mem) (H : Heap) (locs : List Loc) (ls : Array Slot), k76 x3 x4 x6 x7 x8 M → IR g s M H locs → lv_has ls 11 [(0, .ref (g.2.2.2 0)), (3, .int (i32 x3)), (4, .int (i32 x4)), (6, .int (i32 x6)), (7, .int (i32 x7)), (8, .int (i32 x8))] → W p l e rmX9_load s m args below meth c H locs 0 0 (QIR below args s g post) (F0 m 76 ls [])) : ∀ (n : Nat), ∀ (x3 x4 x6 x7 x8 x9 : Int), inR x3 → inR x4 → inR x6 → inR x7 → inR x8 → inR x9 → ∀ (M : Mem) (H : Heap) (locs : List Loc) (ls : Array Slot), lpX9_load_89 post k64 k76 n x3 x4 x6 x7 x8 x9 M → IR g s M H locs → lv_has ls 11 [(0, .ref (g.2.2.2 0)), (3, .int (i32 x3)), (4, .int (i32 x4)), (6, .int (i32 x6)), (7, .int (i32 x7)), (8, .int (i32 x8)), (9, .int (i32 x9))] → W p l e rmX9_load s m args below meth c H locs 0 0 (QIR below args s g post) (F0 m 89 ls []) := by
  obtain ⟨⟨hx, hb, hml, hown, hts⟩, hr, hlk⟩ := id C
  intro n
  induction n with
  | zero =>
    intro x3 x4 x6 x7 x8 x9 h3 h4 h6 h7 h8 h9 M H locs ls hw
    exact hw.elim
  | succ n ih =>
    intro x3 x4 x6 x7 x8 x9 h3 h4 h6 h7 h8 h9 M H locs ls hw I hl
    refine lv_aload_n hx hb dX9_load_89 rfl (lv_at hl 0 rfl) ?_
    refine rg_0_15 hx hb hts wu_X9 hown I wf_X9_40 dX9_load_90 ?_
    refine lv_bipush (v := i32 10) hx hb dX9_load_93 (by decide) ?_
    refine lv_iload hx hb dX9_load_95 (lv_at hl 4 rfl) ?_
    refine li_imul hx hb dX9_load_97 ?_
    refine lv_iload hx hb dX9_load_98 (lv_at hl 5 rfl) ?_
    refine li_iadd hx hb dX9_load_100 ?_
    obtain ⟨h_1, hw⟩ := hw
    refine r_iald hx hb I 11 lenR_11 (by decide) h_1 dX9_load_101 ?_
    have h_2 := I.rng 11 ((10 * x7) + x8)
    refine li_if_le (tgt := 164) hx hb dX9_load_102 (by decide) h_2 (fun c_3 => ?_) (fun c_3 => ?_)
    · replace hw := hw.1 c_3
      exact bX9_load_164 C post k64 k76 hk64 hk76 x3 x4 x6 x7 x8 h3 h4 h6 h7 h8 _ _ _ _ hw I (lv_sub hl [0, 1, 2, 3, 4, 5] rfl)
    · replace hw := hw.2 c_3
      refine lv_iload hx hb dX9_load_105 (lv_at hl 6 rfl) ?_
      refine lv_iload hx hb dX9_load_107 (lv_at hl 5 rfl) ?_
      refine li_icmp_eq (tgt := 164) hx hb dX9_load_109 (by decide) h9 h8 (fun c_4 => ?_) (fun c_4 => ?_)
      · replace hw := hw.1 c_4
        exact bX9_load_164 C post k64 k76 hk64 hk76 x3 x4 x6 x7 x8 h3 h4 h6 h7 h8 _ _ _ _ hw I (lv_sub hl [0, 1, 2, 3, 4, 5] rfl)
      · replace hw := hw.2 c_4
        refine lv_aload_n hx hb dX9_load_112 rfl (lv_at hl 0 rfl) ?_
        refine lv_iload hx hb dX9_load_113 (lv_at hl 6 rfl) ?_
        refine lv_iload hx hb dX9_load_115 (lv_at hl 5 rfl) ?_
        refine g_callVi (o := 0) (As := [.int (i32 x9), .int (i32 x8)]) (rest := []) ⟨hx, hb, hml, hown, hts⟩ I (mX9_nextTo l g x9 x8 h9 h8 M _ _ hw) (cwV 2 hts (gd_V wm_X9_119 wi_X9_nextTo wl_X9_nextTo wn_X9 wc_X9_nextTo) rfl rfl rfl wd_X9_nextTo ⟨Nat.le_of_ble_eq_true rfl, Nat.le_of_ble_eq_true rfl⟩) (by omega) (by omega) obR_0 rfl rfl hl.1 rfl (Nat.le_of_ble_eq_true rfl) dX9_load_117 ⟨Nat.zero_le _, Nat.zero_le _⟩ (fun r117_4 M117_4 H locs hr117_4 hw I => ?_)
        refine lv_istore (lv' := [(10, .int (i32 r117_4)), (0, .ref (g.2.2.2 0)), (3, .int (i32 x3)), (4, .int (i32 x4)), (6, .int (i32 x6)), (7, .int (i32 x7)), (8, .int (i32 x8)), (9, .int (i32 x9))]) hx hb dX9_load_120 hl (by decide) rfl (fun ls hl => ?_)
        refine lv_iload hx hb dX9_load_122 (lv_at hl 4 rfl) ?_
        refine lv_iload hx hb dX9_load_124 (lv_at hl 7 rfl) ?_
        refine lv_iload_n hx hb dX9_load_126 rfl (lv_at hl 2 rfl) ?_
        refine li_icmp_ne (tgt := 153) hx hb dX9_load_127 (by decide) h9 h3 (fun c_6 => ?_) (fun c_6 => ?_)
        · replace hw := hw.1 c_6
          exact bX9_load_153 C post k64 k76 (fun y3 y4 y6 y7 y8 y9 N => lpX9_load_89 post k64 k76 n y3 y4 y6 y7 y8 y9 N) hk64 hk76 ih x3 x4 x7 x8 r117_4 x6 h3 h4 h7 h8 hr117_4 h6 _ _ _ _ hw I (lv_sub hl [1, 2, 3, 5, 6, 0] rfl)
        · replace hw := hw.2 c_6
          refine lv_iload hx hb dX9_load_130 (lv_at hl 0 rfl) ?_
          refine lv_iload hx hb dX9_load_132 (lv_at hl 3 rfl) ?_
          refine li_icmp_ne (tgt := 153) hx hb dX9_load_134 (by decide) hr117_4 h4 (fun c_7 => ?_) (fun c_7 => ?_)
          · replace hw := hw.1 c_7
            exact bX9_load_153 C post k64 k76 (fun y3 y4 y6 y7 y8 y9 N => lpX9_load_89 post k64 k76 n y3 y4 y6 y7 y8 y9 N) hk64 hk76 ih x3 x4 x7 x8 r117_4 x6 h3 h4 h7 h8 hr117_4 h6 _ _ _ _ hw I (lv_sub hl [1, 2, 3, 5, 6, 0] rfl)
          · replace hw := hw.2 c_7
            refine lv_aload_n hx hb dX9_load_137 rfl (lv_at hl 1 rfl) ?_
            refine rg_0_15 hx hb hts wu_X9 hown I wf_X9_40 dX9_load_138 ?_
            refine lv_bipush (v := i32 10) hx hb dX9_load_141 (by decide) ?_
            refine lv_iload hx hb dX9_load_143 (lv_at hl 5 rfl) ?_
            refine li_imul hx hb dX9_load_145 ?_
            refine lv_iload hx hb dX9_load_146 (lv_at hl 6 rfl) ?_
            refine li_iadd hx hb dX9_load_148 ?_
            obtain ⟨h_8, hw⟩ := hw
            refine r_iald hx hb I 11 lenR_11 (by decide) h_8 dX9_load_149 ?_
            have h_9 := I.rng 11 ((10 * x7) + x8)
            refine lv_goto (tgt := 154) hx hb dX9_load_150 (by decide) ?_
            exact bX9_load_154 C post k64 k76 (fun y3 y4 y6 y7 y8 y9 N => lpX9_load_89 post k64 k76 n y3 y4 y6 y7 y8 y9 N) hk64 hk76 ih x3 x4 x7 x8 r117_4 (M117_4 11 ((10 * x7) + x8)) x6 h3 h4 h7 h8 hr117_4 h_9 h6 _ _ _ _ hw I (lv_sub hl [1, 2, 3, 5, 6, 0] rfl)
set_option maxRecDepth 100000 in
set_option maxHeartbeats 4000000 in
theorem bX9_load_76 {p : Program} {l : Launch} {e : Env} {s : State} {m : MethodId} {args : Array Value} {below : List Frame} {meth : Method} {c : Code} {g : GP} (C : Cx p m c cX9_load 11 s args lw_g RX9 meth (some .int)) (post : Int → Mem → Prop) (k64 : Int → Int → Int → Int → Mem → Prop) (hk64 : ∀ (x3 x4 x6 x7 : Int), inR x3 → inR x4 → inR x6 → inR x7 → ∀ (M : Mem) (H : Heap) (locs : List Loc) (ls : Array Slot), k64 x3 x4 x6 x7 M → IR g s M H locs → lv_has ls 11 [(0, .ref (g.2.2.2 0)), (3, .int (i32 x3)), (4, .int (i32 x4)), (6, .int (i32 x6)), (7, .int (i32 x7))] → W p l e rmX9_load s m args below meth c H locs 0 0 (QIR below args s g post) (F0 m 64 ls [])) : ∀ (n : Nat), ∀ (x3 x4 x6 x7 x8 : Int), inR x3 → inR x4 → inR x6 → inR x7 → inR x8 → ∀ (M : Mem) (H : Heap) (locs : List Loc) (ls : Array Slot), lpX9_load_76 post k64 n x3 x4 x6 x7 x8 M → IR g s M H locs → lv_has ls 11 [(0, .ref (g.2.2.2 0)), (3, .int (i32 x3)), (4, .int (i32 x4)), (6, .int (i32 x6)), (7, .int (i32 x7)), (8, .int (i32 x8))] → W p l e rmX9_load s m args below meth c H locs 0 0 (QIR below args s g post) (F0 m 76 ls []) := by
  obtain ⟨⟨hx, hb, hml, hown, hts⟩, hr, hlk⟩ := id C
  intro n
  induction n with
  | zero =>
    intro x3 x4 x6 x7 x8 h3 h4 h6 h7 h8 M H locs ls hw
    exact hw.elim
  | succ n ih =>
    intro x3 x4 x6 x7 x8 h3 h4 h6 h7 h8 M H locs ls hw I hl
    refine lv_iload hx hb dX9_load_76 (lv_at hl 5 rfl) ?_
    refine lv_aload_n hx hb dX9_load_78 rfl (lv_at hl 0 rfl) ?_
    refine rg_0_0 hx hb hts wu_X9 hown I wf_X9_86 dX9_load_79 ?_
    have h_1 := I.rng 0 0
    refine li_icmp_ge (tgt := 170) hx hb dX9_load_82 (by decide) h8 h_1 (fun c_2 => ?_) (fun c_2 => ?_)
    · replace hw := hw.1 c_2
      refine li_iinc (lv' := [(7, .int (i32 (x7 + 1))), (0, .ref (g.2.2.2 0)), (3, .int (i32 x3)), (4, .int (i32 x4)), (6, .int (i32 x6)), (8, .int (i32 x8))]) hx hb dX9_load_170 hl (k := 4) rfl (by decide) rfl (fun ls hl => ?_)
      refine lv_goto (tgt := 64) hx hb dX9_load_173 (by decide) ?_
      obtain ⟨h_3, hw⟩ := hw
      exact hk64 x3 x4 x6 (x7 + 1) h3 h4 h6 h_3 _ _ _ _ hw I (lv_sub hl [1, 2, 3, 4, 0] rfl)
    · replace hw := hw.2 c_2
      refine lv_iload hx hb dX9_load_85 (lv_at hl 4 rfl) ?_
      refine lv_istore (lv' := [(9, .int (i32 x7)), (0, .ref (g.2.2.2 0)), (3, .int (i32 x3)), (4, .int (i32 x4)), (6, .int (i32 x6)), (7, .int (i32 x7)), (8, .int (i32 x8))]) hx hb dX9_load_87 hl (by decide) rfl (fun ls hl => ?_)
      obtain ⟨n1, hw⟩ := hw
      exact bX9_load_89 C post k64 (fun y3 y4 y6 y7 y8 N => lpX9_load_76 post k64 n y3 y4 y6 y7 y8 N) hk64 ih n1 x3 x4 x6 x7 x8 x7 h3 h4 h6 h7 h8 h7 _ _ _ _ hw I (lv_sub hl [1, 2, 3, 4, 5, 6, 0] rfl)
set_option maxRecDepth 100000 in
set_option maxHeartbeats 4000000 in
theorem bX9_load_64 {p : Program} {l : Launch} {e : Env} {s : State} {m : MethodId} {args : Array Value} {below : List Frame} {meth : Method} {c : Code} {g : GP} (C : Cx p m c cX9_load 11 s args lw_g RX9 meth (some .int)) (post : Int → Mem → Prop) : ∀ (n : Nat), ∀ (x3 x4 x6 x7 : Int), inR x3 → inR x4 → inR x6 → inR x7 → ∀ (M : Mem) (H : Heap) (locs : List Loc) (ls : Array Slot), lpX9_load_64 post n x3 x4 x6 x7 M → IR g s M H locs → lv_has ls 11 [(0, .ref (g.2.2.2 0)), (3, .int (i32 x3)), (4, .int (i32 x4)), (6, .int (i32 x6)), (7, .int (i32 x7))] → W p l e rmX9_load s m args below meth c H locs 0 0 (QIR below args s g post) (F0 m 64 ls []) := by
  obtain ⟨⟨hx, hb, hml, hown, hts⟩, hr, hlk⟩ := id C
  intro n
  induction n with
  | zero =>
    intro x3 x4 x6 x7 h3 h4 h6 h7 M H locs ls hw
    exact hw.elim
  | succ n ih =>
    intro x3 x4 x6 x7 h3 h4 h6 h7 M H locs ls hw I hl
    refine lv_iload hx hb dX9_load_64 (lv_at hl 4 rfl) ?_
    refine lv_aload_n hx hb dX9_load_66 rfl (lv_at hl 0 rfl) ?_
    refine rg_0_0 hx hb hts wu_X9 hown I wf_X9_86 dX9_load_67 ?_
    have h_1 := I.rng 0 0
    refine li_icmp_ge (tgt := 176) hx hb dX9_load_70 (by decide) h7 h_1 (fun c_2 => ?_) (fun c_2 => ?_)
    · replace hw := hw.1 c_2
      refine lv_iload hx hb dX9_load_176 (lv_at hl 3 rfl) ?_
      exact g_iret hx hb hr hlk I h6 hw dX9_load_178
    · replace hw := hw.2 c_2
      refine li_iconst hx hb dX9_load_73 ?_
      refine lv_istore (lv' := [(8, .int (i32 0)), (0, .ref (g.2.2.2 0)), (3, .int (i32 x3)), (4, .int (i32 x4)), (6, .int (i32 x6)), (7, .int (i32 x7))]) hx hb dX9_load_74 hl (by decide) rfl (fun ls hl => ?_)
      obtain ⟨n1, hw⟩ := hw
      exact bX9_load_76 C post (fun y3 y4 y6 y7 N => lpX9_load_64 post n y3 y4 y6 y7 N) ih n1 x3 x4 x6 x7 0 h3 h4 h6 h7 (by decide) _ _ _ _ hw I (lv_sub hl [1, 2, 3, 4, 5, 0] rfl)
set_option maxRecDepth 100000 in
set_option maxHeartbeats 4000000 in
theorem mX9_load (l : Launch) (g : GP) (a1 a2 a3 a4 : Int) (ha1 : inR a1) (ha2 : inR a2) (ha3 : inR a3) (ha4 : inR a4) (M : Mem) (post : Int → Mem → Prop) (sz : Nat) (hw : wpX9_load a1 a2 a3 a4 M post) : MIR l yX9_load wtX9_load rmX9_load g [.ref (g.2.2.2 0), .int (i32 a1), .int (i32 a2), .int (i32 a3), .int (i32 a4)] M sz post := by
  refine Met.ofW (cc := cX9_load) (maxL := 11) (ret := (some .int)) (by decide) rfl ?_
  intro p e s m args below meth c s₁ B hml hv
  obtain ⟨rfl, hpre⟩ := hv
  have hsz := hpre.1
  subst hsz
  have C : Cx p m c cX9_load 11 s _ lw_g RX9 meth (some .int) := ⟨⟨B.exec, B.bytes, hml, findClass_of_methodNamed B.named, fun w h => atoms_spec (ws := wtX9_load) B.pre w (List.mem_cons_of_mem _ h)⟩, B.returns, B.notSynchronized⟩
  obtain ⟨⟨hx, hb, hml, hown, hts⟩, hr, hlk⟩ := id C
  have I := InG.start hpre
  have hl := lv_entry ([.ref (g.2.2.2 0), .int (i32 a1), .int (i32 a2), .int (i32 a3), .int (i32 a4)]) (n := 11) (Nat.le_of_ble_eq_true rfl)
  rw [lg_entry_eq]
  generalize (lg_sl ([.ref (g.2.2.2 0), .int (i32 a1), .int (i32 a2), .int (i32 a3), .int (i32 a4)]) ++ List.replicate (11 - (lg_sl ([.ref (g.2.2.2 0), .int (i32 a1), .int (i32 a2), .int (i32 a3), .int (i32 a4)])).length) Slot.unset).toArray = ls at hl ⊢
  have hl : lv_has ls 11 [(0, .ref (g.2.2.2 0)), (1, .int (i32 a1)), (2, .int (i32 a2)), (3, .int (i32 a3)), (4, .int (i32 a4))] := hl
  show W p l e rmX9_load s m _ below meth c s.heap [] 0 0 (QIR below _ s g post) _
  refine lv_aload_n hx hb dX9_load_0 rfl (lv_at hl 0 rfl) ?_
  refine lv_iload_n hx hb dX9_load_1 rfl (lv_at hl 1 rfl) ?_
  refine g_callVi (o := 0) (As := [.int (i32 a1)]) (rest := []) ⟨hx, hb, hml, hown, hts⟩ I (mX9_isHeap l g a1 ha1 M _ _ hw) (cwV 1 hts (gd_V wm_X9_111 wi_X9_isHeap wl_X9_isHeap wn_X9 wc_X9_isHeap) rfl rfl rfl wd_X9_isHeap ⟨Nat.le_of_ble_eq_true rfl, Nat.le_of_ble_eq_true rfl⟩) (by omega) (by omega) obR_0 rfl rfl hl.1 rfl (Nat.le_of_ble_eq_true rfl) dX9_load_2 ⟨Nat.zero_le _, Nat.zero_le _⟩ (fun r2_0 M2_0 H locs hr2_0 hw I => ?_)
  refine li_if_eq (tgt := 33) hx hb dX9_load_5 (by decide) hr2_0 (fun c_2 => ?_) (fun c_2 => ?_)
  · replace hw := hw.1 c_2
    exact bX9_load_33 C post _ _ _ _ hw I (lv_sub hl [0] rfl)
  · replace hw := hw.2 c_2
    refine lv_aload_n hx hb dX9_load_8 rfl (lv_at hl 0 rfl) ?_
    refine lv_iload_n hx hb dX9_load_9 rfl (lv_at hl 2 rfl) ?_
    refine g_callVi (o := 0) (As := [.int (i32 a2)]) (rest := []) ⟨hx, hb, hml, hown, hts⟩ I (mX9_isHeap l g a2 ha2 M2_0 _ _ hw) (cwV 1 hts (gd_V wm_X9_111 wi_X9_isHeap wl_X9_isHeap wn_X9 wc_X9_isHeap) rfl rfl rfl wd_X9_isHeap ⟨Nat.le_of_ble_eq_true rfl, Nat.le_of_ble_eq_true rfl⟩) (by omega) (by omega) obR_0 rfl rfl hl.1 rfl (Nat.le_of_ble_eq_true rfl) dX9_load_10 ⟨Nat.zero_le _, Nat.zero_le _⟩ (fun r10_2 M10_2 H locs hr10_2 hw I => ?_)
    refine li_if_eq (tgt := 33) hx hb dX9_load_13 (by decide) hr10_2 (fun c_4 => ?_) (fun c_4 => ?_)
    · replace hw := hw.1 c_4
      exact bX9_load_33 C post _ _ _ _ hw I (lv_sub hl [0] rfl)
    · replace hw := hw.2 c_4
      refine lv_aload_n hx hb dX9_load_16 rfl (lv_at hl 0 rfl) ?_
      refine lv_iload_n hx hb dX9_load_17 rfl (lv_at hl 3 rfl) ?_
      refine g_callVi (o := 0) (As := [.int (i32 a3)]) (rest := []) ⟨hx, hb, hml, hown, hts⟩ I (mX9_isPlace l g a3 ha3 M10_2 _ _ hw) (cwV 1 hts (gd_V wm_X9_104 wi_X9_isPlace wl_X9_isPlace wn_X9 wc_X9_isPlace) rfl rfl rfl wd_X9_isPlace ⟨Nat.le_of_ble_eq_true rfl, Nat.le_of_ble_eq_true rfl⟩) (by omega) (by omega) obR_0 rfl rfl hl.1 rfl (Nat.le_of_ble_eq_true rfl) dX9_load_18 ⟨Nat.zero_le _, Nat.zero_le _⟩ (fun r18_4 M18_4 H locs hr18_4 hw I => ?_)
      refine li_if_eq (tgt := 33) hx hb dX9_load_21 (by decide) hr18_4 (fun c_6 => ?_) (fun c_6 => ?_)
      · replace hw := hw.1 c_6
        exact bX9_load_33 C post _ _ _ _ hw I (lv_sub hl [0] rfl)
      · replace hw := hw.2 c_6
        refine lv_aload_n hx hb dX9_load_24 rfl (lv_at hl 0 rfl) ?_
        refine lv_iload hx hb dX9_load_25 (lv_at hl 4 rfl) ?_
        refine g_callVi (o := 0) (As := [.int (i32 a4)]) (rest := []) ⟨hx, hb, hml, hown, hts⟩ I (mX9_isPlace l g a4 ha4 M18_4 _ _ hw) (cwV 1 hts (gd_V wm_X9_104 wi_X9_isPlace wl_X9_isPlace wn_X9 wc_X9_isPlace) rfl rfl rfl wd_X9_isPlace ⟨Nat.le_of_ble_eq_true rfl, Nat.le_of_ble_eq_true rfl⟩) (by omega) (by omega) obR_0 rfl rfl hl.1 rfl (Nat.le_of_ble_eq_true rfl) dX9_load_27 ⟨Nat.zero_le _, Nat.zero_le _⟩ (fun r27_6 M27_6 H locs hr27_6 hw I => ?_)
        refine li_if_ne (tgt := 36) hx hb dX9_load_30 (by decide) hr27_6 (fun c_8 => ?_) (fun c_8 => ?_)
        · replace hw := hw.1 c_8
          refine lv_aload_n hx hb dX9_load_36 rfl (lv_at hl 0 rfl) ?_
          refine lv_iload_n hx hb dX9_load_37 rfl (lv_at hl 1 rfl) ?_
          refine lv_iload_n hx hb dX9_load_38 rfl (lv_at hl 2 rfl) ?_
          refine g_callVi (o := 0) (As := [.int (i32 a1), .int (i32 a2)]) (rest := []) ⟨hx, hb, hml, hown, hts⟩ I (mX9_against l g a1 a2 ha1 ha2 M27_6 _ _ hw) (cwV 2 hts (gd_V wm_X9_146 wi_X9_against wl_X9_against wn_X9 wc_X9_against) rfl rfl rfl wd_X9_against ⟨Nat.le_of_ble_eq_true rfl, Nat.le_of_ble_eq_true rfl⟩) (by omega) (by omega) obR_0 rfl rfl hl.1 rfl (Nat.le_of_ble_eq_true rfl) dX9_load_39 ⟨Nat.zero_le _, Nat.zero_le _⟩ (fun r39_8 M39_8 H locs hr39_8 hw I => ?_)
          refine lv_istore (lv' := [(5, .int (i32 r39_8)), (0, .ref (g.2.2.2 0)), (1, .int (i32 a1)), (2, .int (i32 a2)), (3, .int (i32 a3)), (4, .int (i32 a4))]) hx hb dX9_load_42 hl (by decide) rfl (fun ls hl => ?_)
          refine lv_iload hx hb dX9_load_44 (lv_at hl 0 rfl) ?_
          refine li_if_eq (tgt := 52) hx hb dX9_load_46 (by decide) hr39_8 (fun c_10 => ?_) (fun c_10 => ?_)
          · replace hw := hw.1 c_10
            refine lv_aload_n hx hb dX9_load_52 rfl (lv_at hl 1 rfl) ?_
            refine lv_iload_n hx hb dX9_load_53 rfl (lv_at hl 2 rfl) ?_
            refine lv_iload_n hx hb dX9_load_54 rfl (lv_at hl 3 rfl) ?_
            refine g_callVv (o := 0) (As := [.int (i32 a1), .int (i32 a2)]) (rest := []) ⟨hx, hb, hml, hown, hts⟩ I (mX9_findPlan l g a1 a2 ha1 ha2 M39_8 _ _ hw) (cwV 2 hts (gd_V wm_X9_169 wi_X9_findPlan wl_X9_findPlan wn_X9 wc_X9_findPlan) rfl rfl rfl wd_X9_findPlan ⟨Nat.le_of_ble_eq_true rfl, Nat.le_of_ble_eq_true rfl⟩) (by omega) (by omega) obR_0 rfl rfl hl.1 rfl (Nat.le_of_ble_eq_true rfl) dX9_load_55 ⟨Nat.zero_le _, Nat.zero_le _⟩ (fun M55_10 H locs hw I => ?_)
            refine li_iconst hx hb dX9_load_58 ?_
            refine lv_istore (lv' := [(6, .int (i32 0)), (5, .int (i32 r39_8)), (0, .ref (g.2.2.2 0)), (1, .int (i32 a1)), (2, .int (i32 a2)), (3, .int (i32 a3)), (4, .int (i32 a4))]) hx hb dX9_load_59 hl (by decide) rfl (fun ls hl => ?_)
            refine li_iconst hx hb dX9_load_61 ?_
            refine lv_istore (lv' := [(7, .int (i32 0)), (6, .int (i32 0)), (5, .int (i32 r39_8)), (0, .ref (g.2.2.2 0)), (1, .int (i32 a1)), (2, .int (i32 a2)), (3, .int (i32 a3)), (4, .int (i32 a4))]) hx hb dX9_load_62 hl (by decide) rfl (fun ls hl => ?_)
            obtain ⟨n1, hw⟩ := hw
            exact bX9_load_64 C post n1 a3 a4 0 0 ha3 ha4 (by decide) (by decide) _ _ _ _ hw I (lv_sub hl [3, 6, 7, 1, 0] rfl)
          · replace hw := hw.2 c_10
            refine lv_iload hx hb dX9_load_49 (lv_at hl 0 rfl) ?_
            exact g_iret hx hb hr hlk I hr39_8 hw dX9_load_51
        · replace hw := hw.2 c_8
          exact bX9_load_33 C post _ _ _ _ hw I (lv_sub hl [0] rfl)
abbrev rmX9_reach : Room := { frames := 0, cells := 0, slots := 0, locals := 0 }
abbrev wtX9_reach : List Cond := Cond.code yX9_reach cX9_reach 8 (some .int) :: lw_g
set_option maxRecDepth 100000 in
set_option maxHeartbeats 4000000 in
theorem bX9_reach_305 {p : Program} {l : Launch} {e : Env} {s : State} {m : MethodId} {args : Array Value} {below : List Frame} {meth : Method} {c : Code} {g : GP} (C : Cx p m c cX9_reach 8 s args lw_g RX9 meth (some .int)) (post : Int → Mem → Prop) (k270 : Int → Mem → Prop) (hk270 : ∀ (x4 : Int), inR x4 → ∀ (M : Mem) (H : Heap) (locs : List Loc) (ls : Array Slot), k270 x4 M → IR g s M H locs → lv_has ls 8 [(0, .ref (g.2.2.2 0)), (4, .int (i32 x4))] → W p l e rmX9_reach s m args below meth c H locs 0 0 (QIR below args s g post) (F0 m 270 ls [])) : ∀ (x4 : Int), inR x4 → ∀ (M : Mem) (H : Heap) (locs : List Loc) (ls : Array Slot), jbX9_reach_305 post k270 x4 M → IR g s M H locs → lv_has ls 8 [(0, .ref (g.2.2.2 0)), (4, .int (i32 x4))] → W p l e rmX9_reach s m args below meth c H locs 0 0 (QIR below args s g post) (F0 m 305 ls []) := by
  obtain ⟨⟨hx, hb, hml, hown, hts⟩, hr, hlk⟩ := id C
  intro x4 h4 M H locs ls hw I hl
  refine li_iinc (lv' := [(4, .int (i32 (x4 + 1))), (0, .ref (g.2.2.2 0))]) hx hb dX9_reach_305 hl (k := 1) rfl (by decide) rfl (fun ls hl => ?_)
  refine lv_goto (tgt := 270) hx hb dX9_reach_308 (by decide) ?_
  obtain ⟨h_1, hw⟩ := hw
  exact hk270 (x4 + 1) h_1 _ _ _ _ hw I (lv_sub hl [1, 0] rfl)
set_option maxRecDepth 100000 in
set_option maxHeartbeats 4000000 in
theorem bX9_reach_270 {p : Program} {l : Launch} {e : Env} {s : State} {m : MethodId} {args : Array Value} {below : List Frame} {meth : Method} {c : Code} {g : GP} (C : Cx p m c cX9_reach 8 s args lw_g RX9 meth (some .int)) (post : Int → Mem → Prop) : ∀ (n : Nat), ∀ (x4 : Int), inR x4 → ∀ (M : Mem) (H : Heap) (locs : List Loc) (ls : Array Slot), lpX9_reach_270 post n x4 M → IR g s M H locs → lv_has ls 8 [(0, .ref (g.2.2.2 0)), (4, .int (i32 x4))] → W p l e rmX9_reach s m args below meth c H locs 0 0 (QIR below args s g post) (F0 m 270 ls []) := by
  obtain ⟨⟨hx, hb, hml, hown, hts⟩, hr, hlk⟩ := id C
  intro n
  induction n with
  | zero =>
    intro x4 h4 M H locs ls hw
    exact hw.elim
  | succ n ih =>
    intro x4 h4 M H locs ls hw I hl
    refine lv_iload hx hb dX9_reach_270 (lv_at hl 1 rfl) ?_
    refine lv_aload_n hx hb dX9_reach_272 rfl (lv_at hl 0 rfl) ?_
    refine rg_0_0 hx hb hts wu_X9 hown I wf_X9_86 dX9_reach_273 ?_
    have h_1 := I.rng 0 0
    refine li_icmp_ge (tgt := 311) hx hb dX9_reach_276 (by decide) h4 h_1 (fun c_2 => ?_) (fun c_2 => ?_)
    · replace hw := hw.1 c_2
      refine li_iconst hx hb dX9_reach_311 ?_
      exact g_iret hx hb hr hlk I (by decide) hw dX9_reach_312
    · replace hw := hw.2 c_2
      refine lv_aload_n hx hb dX9_reach_279 rfl (lv_at hl 0 rfl) ?_
      refine rg_0_22 hx hb hts wu_X9 hown I wf_X9_62 dX9_reach_280 ?_
      refine lv_bipush (v := i32 10) hx hb dX9_reach_283 (by decide) ?_
      refine lv_iload hx hb dX9_reach_285 (lv_at hl 1 rfl) ?_
      refine li_iadd hx hb dX9_reach_287 ?_
      obtain ⟨h_3, hw⟩ := hw
      refine r_zald hx hb I 18 lenR_18 (by decide) h_3 dX9_reach_288 ?_
      have h_4 := I.rng 18 (10 + x4)
      refine li_if_eq (tgt := 305) hx hb dX9_reach_289 (by decide) h_4 (fun c_5 => ?_) (fun c_5 => ?_)
      · replace hw := hw.1 c_5
        exact bX9_reach_305 C post (fun y4 N => lpX9_reach_270 post n y4 N) ih x4 h4 _ _ _ _ hw I (lv_sub hl [0, 1] rfl)
      · replace hw := hw.2 c_5
        refine lv_aload_n hx hb dX9_reach_292 rfl (lv_at hl 0 rfl) ?_
        refine rg_0_17 hx hb hts wu_X9 hown I wf_X9_46 dX9_reach_293 ?_
        refine lv_iload hx hb dX9_reach_296 (lv_at hl 1 rfl) ?_
        obtain ⟨h_6, hw⟩ := hw
        refine r_iald hx hb I 13 lenR_13 (by decide) h_6 dX9_reach_298 ?_
        have h_7 := I.rng 13 x4
        refine li_if_le (tgt := 305) hx hb dX9_reach_299 (by decide) h_7 (fun c_8 => ?_) (fun c_8 => ?_)
        · replace hw := hw.1 c_8
          exact bX9_reach_305 C post (fun y4 N => lpX9_reach_270 post n y4 N) ih x4 h4 _ _ _ _ hw I (lv_sub hl [0, 1] rfl)
        · replace hw := hw.2 c_8
          refine lv_iload hx hb dX9_reach_302 (lv_at hl 1 rfl) ?_
          exact g_iret hx hb hr hlk I h4 hw dX9_reach_304
set_option maxRecDepth 100000 in
set_option maxHeartbeats 4000000 in
theorem bX9_reach_258 {p : Program} {l : Launch} {e : Env} {s : State} {m : MethodId} {args : Array Value} {below : List Frame} {meth : Method} {c : Code} {g : GP} (C : Cx p m c cX9_reach 8 s args lw_g RX9 meth (some .int)) (post : Int → Mem → Prop) (k95 : Int → Int → Int → Mem → Prop) (k114 : Int → Int → Int → Int → Int → Mem → Prop) (hk95 : ∀ (x1 x2 x3 : Int), inR x1 → inR x2 → inR x3 → ∀ (M : Mem) (H : Heap) (locs : List Loc) (ls : Array Slot), k95 x1 x2 x3 M → IR g s M H locs → lv_has ls 8 [(0, .ref (g.2.2.2 0)), (1, .int (i32 x1)), (2, .int (i32 x2)), (3, .int (i32 x3))] → W p l e rmX9_reach s m args below meth c H locs 0 0 (QIR below args s g post) (F0 m 95 ls [])) (hk114 : ∀ (x1 x2 x3 x4 x5 : Int), inR x1 → inR x2 → inR x3 → inR x4 → inR x5 → ∀ (M : Mem) (H : Heap) (locs : List Loc) (ls : Array Slot), k114 x1 x2 x3 x4 x5 M → IR g s M H locs → lv_has ls 8 [(0, .ref (g.2.2.2 0)), (1, .int (i32 x1)), (2, .int (i32 x2)), (3, .int (i32 x3)), (4, .int (i32 x4)), (5, .int (i32 x5))] → W p l e rmX9_reach s m args below meth c H locs 0 0 (QIR below args s g post) (F0 m 114 ls [])) : ∀ (x1 x2 x3 x4 x5 : Int), inR x1 → inR x2 → inR x3 → inR x4 → inR x5 → ∀ (M : Mem) (H : Heap) (locs : List Loc) (ls : Array Slot), jbX9_reach_258 post k95 k114 x1 x2 x3 x4 x5 M → IR g s M H locs → lv_has ls 8 [(0, .ref (g.2.2.2 0)), (1, .int (i32 x1)), (2, .int (i32 x2)), (3, .int (i32 x3)), (4, .int (i32 x4)), (5, .int (i32 x5))] → W p l e rmX9_reach s m args below meth c H locs 0 0 (QIR below args s g post) (F0 m 258 ls []) := by
  obtain ⟨⟨hx, hb, hml, hown, hts⟩, hr, hlk⟩ := id C
  intro x1 x2 x3 x4 x5 h1 h2 h3 h4 h5 M H locs ls hw I hl
  refine li_iinc (lv' := [(5, .int (i32 (x5 + 1))), (0, .ref (g.2.2.2 0)), (1, .int (i32 x1)), (2, .int (i32 x2)), (3, .int (i32 x3)), (4, .int (i32 x4))]) hx hb dX9_reach_258 hl (k := 5) rfl (by decide) rfl (fun ls hl => ?_)
  refine lv_goto (tgt := 114) hx hb dX9_reach_261 (by decide) ?_
  obtain ⟨h_1, hw⟩ := hw
  exact hk114 x1 x2 x3 x4 (x5 + 1) h1 h2 h3 h4 h_1 _ _ _ _ hw I (lv_sub hl [1, 2, 3, 4, 5, 0] rfl)
set_option maxRecDepth 100000 in
set_option maxHeartbeats 4000000 in
theorem bX9_reach_246 {p : Program} {l : Launch} {e : Env} {s : State} {m : MethodId} {args : Array Value} {below : List Frame} {meth : Method} {c : Code} {g : GP} (C : Cx p m c cX9_reach 8 s args lw_g RX9 meth (some .int)) (post : Int → Mem → Prop) (k95 : Int → Int → Int → Mem → Prop) (k114 : Int → Int → Int → Int → Int → Mem → Prop) (hk95 : ∀ (x1 x2 x3 : Int), inR x1 → inR x2 → inR x3 → ∀ (M : Mem) (H : Heap) (locs : List Loc) (ls : Array Slot), k95 x1 x2 x3 M → IR g s M H locs → lv_has ls 8 [(0, .ref (g.2.2.2 0)), (1, .int (i32 x1)), (2, .int (i32 x2)), (3, .int (i32 x3))] → W p l e rmX9_reach s m args below meth c H locs 0 0 (QIR below args s g post) (F0 m 95 ls [])) (hk114 : ∀ (x1 x2 x3 x4 x5 : Int), inR x1 → inR x2 → inR x3 → inR x4 → inR x5 → ∀ (M : Mem) (H : Heap) (locs : List Loc) (ls : Array Slot), k114 x1 x2 x3 x4 x5 M → IR g s M H locs → lv_has ls 8 [(0, .ref (g.2.2.2 0)), (1, .int (i32 x1)), (2, .int (i32 x2)), (3, .int (i32 x3)), (4, .int (i32 x4)), (5, .int (i32 x5))] → W p l e rmX9_reach s m args below meth c H locs 0 0 (QIR below args s g post) (F0 m 114 ls [])) : ∀ (x1 x2 x3 x4 x5 x6 t0 t1 : Int), inR x1 → inR x2 → inR x3 → inR x4 → inR x5 → inR x6 → inR t0 → inR t1 → ∀ (M : Mem) (H : Heap) (locs : List Loc) (ls : Array Slot), jbX9_reach_246 post k95 k114 x1 x2 x3 x4 x5 x6 t0 t1 M → IR g s M H locs → lv_has ls 8 [(0, .ref (g.2.2.2 0)), (1, .int (i32 x1)), (2, .int (i32 x2)), (3, .int (i32 x3)), (4, .int (i32 x4)), (5, .int (i32 x5)), (6, .int (i32 x6))] → W p l e rmX9_reach s m args below meth c H locs 0 0 (QIR below args s g post) (F0 m 246 ls [.int (i32 t0), .int (i32 t1), .ref (g.2.2.2 16)]) := by
  obtain ⟨⟨hx, hb, hml, hown, hts⟩, hr, hlk⟩ := id C
  intro x1 x2 x3 x4 x5 x6 t0 t1 h1 h2 h3 h4 h5 h6 ht0 ht1 M H locs ls hw I hl
  obtain ⟨h_1, hw⟩ := hw
  refine r_iast hx hb I 16 lenR_16 (by decide) h_1 ht0 dX9_reach_246 (fun H locs M246_1 eM246_1 I => ?_)
  replace hw := hw M246_1 eM246_1
  refine lv_aload_n hx hb dX9_reach_247 rfl (lv_at hl 0 rfl) ?_
  refine rg_0_23 hx hb hts wu_X9 hown I wf_X9_65 dX9_reach_248 ?_
  refine lv_iload_n hx hb dX9_reach_251 rfl (lv_at hl 3 rfl) ?_
  refine lv_iload hx hb dX9_reach_252 (lv_at hl 6 rfl) ?_
  obtain ⟨h_3, hw⟩ := hw
  refine r_iast hx hb I 19 lenR_19 (by decide) h_3 h6 dX9_reach_254 (fun H locs M254_3 eM254_3 I => ?_)
  replace hw := hw M254_3 eM254_3
  refine li_iinc (lv' := [(3, .int (i32 (x3 + 1))), (0, .ref (g.2.2.2 0)), (1, .int (i32 x1)), (2, .int (i32 x2)), (4, .int (i32 x4)), (5, .int (i32 x5)), (6, .int (i32 x6))]) hx hb dX9_reach_255 hl (k := 3) rfl (by decide) rfl (fun ls hl => ?_)
  obtain ⟨h_5, hw⟩ := hw
  exact bX9_reach_258 C post k95 k114 hk95 hk114 x1 x2 (x3 + 1) x4 x5 h1 h2 h_5 h4 h5 _ _ _ _ hw I (lv_sub hl [1, 2, 3, 0, 4, 5] rfl)
set_option maxRecDepth 100000 in
set_option maxHeartbeats 4000000 in
theorem bX9_reach_198 {p : Program} {l : Launch} {e : Env} {s : State} {m : MethodId} {args : Array Value} {below : List Frame} {meth : Method} {c : Code} {g : GP} (C : Cx p m c cX9_reach 8 s args lw_g RX9 meth (some .int)) (post : Int → Mem → Prop) (k95 : Int → Int → Int → Mem → Prop) (k114 : Int → Int → Int → Int → Int → Mem → Prop) (hk95 : ∀ (x1 x2 x3 : Int), inR x1 → inR x2 → inR x3 → ∀ (M : Mem) (H : Heap) (locs : List Loc) (ls : Array Slot), k95 x1 x2 x3 M → IR g s M H locs → lv_has ls 8 [(0, .ref (g.2.2.2 0)), (1, .int (i32 x1)), (2, .int (i32 x2)), (3, .int (i32 x3))] → W p l e rmX9_reach s m args below meth c H locs 0 0 (QIR below args s g post) (F0 m 95 ls [])) (hk114 : ∀ (x1 x2 x3 x4 x5 : Int), inR x1 → inR x2 → inR x3 → inR x4 → inR x5 → ∀ (M : Mem) (H : Heap) (locs : List Loc) (ls : Array Slot), k114 x1 x2 x3 x4 x5 M → IR g s M H locs → lv_has ls 8 [(0, .ref (g.2.2.2 0)), (1, .int (i32 x1)), (2, .int (i32 x2)), (3, .int (i32 x3)), (4, .int (i32 x4)), (5, .int (i32 x5))] → W p l e rmX9_reach s m args below meth c H locs 0 0 (QIR below args s g post) (F0 m 114 ls [])) : ∀ (x1 x2 x3 x4 x5 x6 t0 : Int), inR x1 → inR x2 → inR x3 → inR x4 → inR x5 → inR x6 → inR t0 → ∀ (M : Mem) (H : Heap) (locs : List Loc) (ls : Array Slot), jbX9_reach_198 post k95 k114 x1 x2 x3 x4 x5 x6 t0 M → IR g s M H locs → lv_has ls 8 [(0, .ref (g.2.2.2 0)), (1, .int (i32 x1)), (2, .int (i32 x2)), (3, .int (i32 x3)), (4, .int (i32 x4)), (5, .int (i32 x5)), (6, .int (i32 x6))] → W p l e rmX9_reach s m args below meth c H locs 0 0 (QIR below args s g post) (F0 m 198 ls [.int (i32 t0)]) := by
  obtain ⟨⟨hx, hb, hml, hown, hts⟩, hr, hlk⟩ := id C
  intro x1 x2 x3 x4 x5 x6 t0 h1 h2 h3 h4 h5 h6 ht0 M H locs ls hw I hl
  refine lv_istore (lv' := [(7, .int (i32 t0)), (0, .ref (g.2.2.2 0)), (1, .int (i32 x1)), (2, .int (i32 x2)), (3, .int (i32 x3)), (4, .int (i32 x4)), (5, .int (i32 x5)), (6, .int (i32 x6))]) hx hb dX9_reach_198 hl (by decide) rfl (fun ls hl => ?_)
  refine lv_iload hx hb dX9_reach_200 (lv_at hl 0 rfl) ?_
  refine li_if_eq (tgt := 258) hx hb dX9_reach_202 (by decide) ht0 (fun c_1 => ?_) (fun c_1 => ?_)
  · replace hw := hw.1 c_1
    exact bX9_reach_258 C post k95 k114 hk95 hk114 x1 x2 x3 x4 x5 h1 h2 h3 h4 h5 _ _ _ _ hw I (lv_sub hl [1, 2, 3, 4, 5, 6] rfl)
  · replace hw := hw.2 c_1
    refine lv_aload_n hx hb dX9_reach_205 rfl (lv_at hl 1 rfl) ?_
    refine rg_0_22 hx hb hts wu_X9 hown I wf_X9_62 dX9_reach_206 ?_
    refine lv_iload hx hb dX9_reach_209 (lv_at hl 7 rfl) ?_
    obtain ⟨h_2, hw⟩ := hw
    refine r_zald hx hb I 18 lenR_18 (by decide) h_2 dX9_reach_211 ?_
    have h_3 := I.rng 18 x6
    refine li_if_ne (tgt := 258) hx hb dX9_reach_212 (by decide) h_3 (fun c_4 => ?_) (fun c_4 => ?_)
    · replace hw := hw.1 c_4
      exact bX9_reach_258 C post k95 k114 hk95 hk114 x1 x2 x3 x4 x5 h1 h2 h3 h4 h5 _ _ _ _ hw I (lv_sub hl [1, 2, 3, 4, 5, 6] rfl)
    · replace hw := hw.2 c_4
      refine lv_aload_n hx hb dX9_reach_215 rfl (lv_at hl 1 rfl) ?_
      refine rg_0_22 hx hb hts wu_X9 hown I wf_X9_62 dX9_reach_216 ?_
      refine lv_iload hx hb dX9_reach_219 (lv_at hl 7 rfl) ?_
      refine li_iconst hx hb dX9_reach_221 ?_
      obtain ⟨h_5, hw⟩ := hw
      refine r_zast hx hb I 18 lenR_18 (by decide) h_5 (Or.inr rfl) dX9_reach_222 (fun H locs M222_5 eM222_5 I => ?_)
      replace hw := hw M222_5 eM222_5
      refine lv_aload_n hx hb dX9_reach_223 rfl (lv_at hl 1 rfl) ?_
      refine rg_0_20 hx hb hts wu_X9 hown I wf_X9_55 dX9_reach_224 ?_
      refine lv_iload hx hb dX9_reach_227 (lv_at hl 7 rfl) ?_
      refine lv_iload hx hb dX9_reach_229 (lv_at hl 5 rfl) ?_
      refine lv_bipush (v := i32 10) hx hb dX9_reach_231 (by decide) ?_
      refine li_icmp_ge (tgt := 241) hx hb dX9_reach_233 (by decide) h4 (by decide) (fun c_7 => ?_) (fun c_7 => ?_)
      · replace hw := hw.1 c_7
        refine lv_iload hx hb dX9_reach_241 (lv_at hl 5 rfl) ?_
        refine lv_bipush (v := i32 10) hx hb dX9_reach_243 (by decide) ?_
        refine li_isub hx hb dX9_reach_245 ?_
        obtain ⟨h_8, hw⟩ := hw
        exact bX9_reach_246 C post k95 k114 hk95 hk114 x1 x2 x3 x4 x5 x6 (x4 - 10) x6 h1 h2 h3 h4 h5 h6 h_8 h6 _ _ _ _ hw I (lv_sub hl [1, 2, 3, 4, 5, 6, 7] rfl)
      · replace hw := hw.2 c_7
        refine lv_iload hx hb dX9_reach_236 (lv_at hl 5 rfl) ?_
        refine lv_goto (tgt := 246) hx hb dX9_reach_238 (by decide) ?_
        exact bX9_reach_246 C post k95 k114 hk95 hk114 x1 x2 x3 x4 x5 x6 x4 x6 h1 h2 h3 h4 h5 h6 h4 h6 _ _ _ _ hw I (lv_sub hl [1, 2, 3, 4, 5, 6, 7] rfl)
set_option maxRecDepth 100000 in
set_option maxHeartbeats 4000000 in
theorem bX9_reach_140 {p : Program} {l : Launch} {e : Env} {s : State} {m : MethodId} {args : Array Value} {below : List Frame} {meth : Method} {c : Code} {g : GP} (C : Cx p m c cX9_reach 8 s args lw_g RX9 meth (some .int)) (post : Int → Mem → Prop) (k95 : Int → Int → Int → Mem → Prop) (k114 : Int → Int → Int → Int → Int → Mem → Prop) (hk95 : ∀ (x1 x2 x3 : Int), inR x1 → inR x2 → inR x3 → ∀ (M : Mem) (H : Heap) (locs : List Loc) (ls : Array Slot), k95 x1 x2 x3 M → IR g s M H locs → lv_has ls 8 [(0, .ref (g.2.2.2 0)), (1, .int (i32 x1)), (2, .int (i32 x2)), (3, .int (i32 x3))] → W p l e rmX9_reach s m args below meth c H locs 0 0 (QIR below args s g post) (F0 m 95 ls [])) (hk114 : ∀ (x1 x2 x3 x4 x5 : Int), inR x1 → inR x2 → inR x3 → inR x4 → inR x5 → ∀ (M : Mem) (H : Heap) (locs : List Loc) (ls : Array Slot), k114 x1 x2 x3 x4 x5 M → IR g s M H locs → lv_has ls 8 [(0, .ref (g.2.2.2 0)), (1, .int (i32 x1)), (2, .int (i32 x2)), (3, .int (i32 x3)), (4, .int (i32 x4)), (5, .int (i32 x5))] → W p l e rmX9_reach s m args below meth c H locs 0 0 (QIR below args s g post) (F0 m 114 ls [])) : ∀ (x1 x2 x3 x4 x5 t0 : Int), inR x1 → inR x2 → inR x3 → inR x4 → inR x5 → inR t0 → ∀ (M : Mem) (H : Heap) (locs : List Loc) (ls : Array Slot), jbX9_reach_140 post k95 k114 x1 x2 x3 x4 x5 t0 M → IR g s M H locs → lv_has ls 8 [(0, .ref (g.2.2.2 0)), (1, .int (i32 x1)), (2, .int (i32 x2)), (3, .int (i32 x3)), (4, .int (i32 x4)), (5, .int (i32 x5))] → W p l e rmX9_reach s m args below meth c H locs 0 0 (QIR below args s g post) (F0 m 140 ls [.int (i32 t0)]) := by
  obtain ⟨⟨hx, hb, hml, hown, hts⟩, hr, hlk⟩ := id C
  intro x1 x2 x3 x4 x5 t0 h1 h2 h3 h4 h5 ht0 M H locs ls hw I hl
  refine lv_istore (lv' := [(6, .int (i32 t0)), (0, .ref (g.2.2.2 0)), (1, .int (i32 x1)), (2, .int (i32 x2)), (3, .int (i32 x3)), (4, .int (i32 x4)), (5, .int (i32 x5))]) hx hb dX9_reach_140 hl (by decide) rfl (fun ls hl => ?_)
  refine lv_iload hx hb dX9_reach_142 (lv_at hl 5 rfl) ?_
  refine lv_bipush (v := i32 10) hx hb dX9_reach_144 (by decide) ?_
  refine li_icmp_ge (tgt := 174) hx hb dX9_reach_146 (by decide) h4 (by decide) (fun c_1 => ?_) (fun c_1 => ?_)
  · replace hw := hw.1 c_1
    refine lv_aload_n hx hb dX9_reach_174 rfl (lv_at hl 1 rfl) ?_
    refine rg_0_15 hx hb hts wu_X9 hown I wf_X9_40 dX9_reach_175 ?_
    refine lv_bipush (v := i32 10) hx hb dX9_reach_178 (by decide) ?_
    refine lv_iload hx hb dX9_reach_180 (lv_at hl 6 rfl) ?_
    refine li_imul hx hb dX9_reach_182 ?_
    refine lv_iload hx hb dX9_reach_183 (lv_at hl 5 rfl) ?_
    refine li_iadd hx hb dX9_reach_185 ?_
    refine lv_bipush (v := i32 10) hx hb dX9_reach_186 (by decide) ?_
    refine li_isub hx hb dX9_reach_188 ?_
    obtain ⟨h_2, hw⟩ := hw
    refine r_iald hx hb I 11 lenR_11 (by decide) h_2 dX9_reach_189 ?_
    have h_3 := I.rng 11 (((10 * x5) + x4) - 10)
    refine li_if_le (tgt := 197) hx hb dX9_reach_190 (by decide) h_3 (fun c_4 => ?_) (fun c_4 => ?_)
    · replace hw := hw.1 c_4
      refine li_iconst hx hb dX9_reach_197 ?_
      exact bX9_reach_198 C post k95 k114 hk95 hk114 x1 x2 x3 x4 x5 t0 0 h1 h2 h3 h4 h5 ht0 (by decide) _ _ _ _ hw I (lv_sub hl [1, 2, 3, 4, 5, 6, 0] rfl)
    · replace hw := hw.2 c_4
      refine li_iconst hx hb dX9_reach_193 ?_
      refine lv_goto (tgt := 198) hx hb dX9_reach_194 (by decide) ?_
      exact bX9_reach_198 C post k95 k114 hk95 hk114 x1 x2 x3 x4 x5 t0 1 h1 h2 h3 h4 h5 ht0 (by decide) _ _ _ _ hw I (lv_sub hl [1, 2, 3, 4, 5, 6, 0] rfl)
  · replace hw := hw.2 c_1
    refine lv_aload_n hx hb dX9_reach_149 rfl (lv_at hl 1 rfl) ?_
    refine rg_0_14 hx hb hts wu_X9 hown I wf_X9_37 dX9_reach_150 ?_
    refine lv_bipush (v := i32 10) hx hb dX9_reach_153 (by decide) ?_
    refine lv_iload hx hb dX9_reach_155 (lv_at hl 5 rfl) ?_
    refine li_imul hx hb dX9_reach_157 ?_
    refine lv_iload hx hb dX9_reach_158 (lv_at hl 6 rfl) ?_
    refine li_iadd hx hb dX9_reach_160 ?_
    obtain ⟨h_5, hw⟩ := hw
    refine r_iald hx hb I 10 lenR_10 (by decide) h_5 dX9_reach_161 ?_
    have h_6 := I.rng 10 ((10 * x4) + x5)
    refine lv_iload_n hx hb dX9_reach_162 rfl (lv_at hl 2 rfl) ?_
    refine li_icmp_gt (tgt := 170) hx hb dX9_reach_163 (by decide) h_6 h1 (fun c_7 => ?_) (fun c_7 => ?_)
    · replace hw := hw.1 c_7
      refine li_iconst hx hb dX9_reach_170 ?_
      refine lv_goto (tgt := 198) hx hb dX9_reach_171 (by decide) ?_
      exact bX9_reach_198 C post k95 k114 hk95 hk114 x1 x2 x3 x4 x5 t0 0 h1 h2 h3 h4 h5 ht0 (by decide) _ _ _ _ hw I (lv_sub hl [1, 2, 3, 4, 5, 6, 0] rfl)
    · replace hw := hw.2 c_7
      refine li_iconst hx hb dX9_reach_166 ?_
      refine lv_goto (tgt := 198) hx hb dX9_reach_167 (by decide) ?_
      exact bX9_reach_198 C post k95 k114 hk95 hk114 x1 x2 x3 x4 x5 t0 1 h1 h2 h3 h4 h5 ht0 (by decide) _ _ _ _ hw I (lv_sub hl [1, 2, 3, 4, 5, 6, 0] rfl)
set_option maxRecDepth 100000 in
set_option maxHeartbeats 4000000 in
theorem bX9_reach_114 {p : Program} {l : Launch} {e : Env} {s : State} {m : MethodId} {args : Array Value} {below : List Frame} {meth : Method} {c : Code} {g : GP} (C : Cx p m c cX9_reach 8 s args lw_g RX9 meth (some .int)) (post : Int → Mem → Prop) (k95 : Int → Int → Int → Mem → Prop) (hk95 : ∀ (x1 x2 x3 : Int), inR x1 → inR x2 → inR x3 → ∀ (M : Mem) (H : Heap) (locs : List Loc) (ls : Array Slot), k95 x1 x2 x3 M → IR g s M H locs → lv_has ls 8 [(0, .ref (g.2.2.2 0)), (1, .int (i32 x1)), (2, .int (i32 x2)), (3, .int (i32 x3))] → W p l e rmX9_reach s m args below meth c H locs 0 0 (QIR below args s g post) (F0 m 95 ls [])) : ∀ (n : Nat), ∀ (x1 x2 x3 x4 x5 : Int), inR x1 → inR x2 → inR x3 → inR x4 → inR x5 → ∀ (M : Mem) (H : Heap) (locs : List Loc) (ls : Array Slot), lpX9_reach_114 post k95 n x1 x2 x3 x4 x5 M → IR g s M H locs → lv_has ls 8 [(0, .ref (g.2.2.2 0)), (1, .int (i32 x1)), (2, .int (i32 x2)), (3, .int (i32 x3)), (4, .int (i32 x4)), (5, .int (i32 x5))] → W p l e rmX9_reach s m args below meth c H locs 0 0 (QIR below args s g post) (F0 m 114 ls []) := by
  obtain ⟨⟨hx, hb, hml, hown, hts⟩, hr, hlk⟩ := id C
  intro n
  induction n with
  | zero =>
    intro x1 x2 x3 x4 x5 h1 h2 h3 h4 h5 M H locs ls hw
    exact hw.elim
  | succ n ih =>
    intro x1 x2 x3 x4 x5 h1 h2 h3 h4 h5 M H locs ls hw I hl
    refine lv_iload hx hb dX9_reach_114 (lv_at hl 5 rfl) ?_
    refine lv_aload_n hx hb dX9_reach_116 rfl (lv_at hl 0 rfl) ?_
    refine rg_0_0 hx hb hts wu_X9 hown I wf_X9_86 dX9_reach_117 ?_
    have h_1 := I.rng 0 0
    refine li_icmp_ge (tgt := 264) hx hb dX9_reach_120 (by decide) h5 h_1 (fun c_2 => ?_) (fun c_2 => ?_)
    · replace hw := hw.1 c_2
      refine lv_goto (tgt := 95) hx hb dX9_reach_264 (by decide) ?_
      exact hk95 x1 x2 x3 h1 h2 h3 _ _ _ _ hw I (lv_sub hl [0, 1, 2, 3] rfl)
    · replace hw := hw.2 c_2
      refine lv_iload hx hb dX9_reach_123 (lv_at hl 4 rfl) ?_
      refine lv_bipush (v := i32 10) hx hb dX9_reach_125 (by decide) ?_
      refine li_icmp_ge (tgt := 138) hx hb dX9_reach_127 (by decide) h4 (by decide) (fun c_3 => ?_) (fun c_3 => ?_)
      · replace hw := hw.1 c_3
        refine lv_iload hx hb dX9_reach_138 (lv_at hl 5 rfl) ?_
        exact bX9_reach_140 C post k95 (fun y1 y2 y3 y4 y5 N => lpX9_reach_114 post k95 n y1 y2 y3 y4 y5 N) hk95 ih x1 x2 x3 x4 x5 x5 h1 h2 h3 h4 h5 h5 _ _ _ _ hw I (lv_sub hl [0, 1, 2, 3, 4, 5] rfl)
      · replace hw := hw.2 c_3
        refine lv_bipush (v := i32 10) hx hb dX9_reach_130 (by decide) ?_
        refine lv_iload hx hb dX9_reach_132 (lv_at hl 5 rfl) ?_
        refine li_iadd hx hb dX9_reach_134 ?_
        refine lv_goto (tgt := 140) hx hb dX9_reach_135 (by decide) ?_
        obtain ⟨h_4, hw⟩ := hw
        exact bX9_reach_140 C post k95 (fun y1 y2 y3 y4 y5 N => lpX9_reach_114 post k95 n y1 y2 y3 y4 y5 N) hk95 ih x1 x2 x3 x4 x5 (10 + x5) h1 h2 h3 h4 h5 h_4 _ _ _ _ hw I (lv_sub hl [0, 1, 2, 3, 4, 5] rfl)
set_option maxRecDepth 100000 in
set_option maxHeartbeats 4000000 in
theorem bX9_reach_95 {p : Program} {l : Launch} {e : Env} {s : State} {m : MethodId} {args : Array Value} {below : List Frame} {meth : Method} {c : Code} {g : GP} (C : Cx p m c cX9_reach 8 s args lw_g RX9 meth (some .int)) (post : Int → Mem → Prop) : ∀ (n : Nat), ∀ (x1 x2 x3 : Int), inR x1 → inR x2 → inR x3 → ∀ (M : Mem) (H : Heap) (locs : List Loc) (ls : Array Slot), lpX9_reach_95 post n x1 x2 x3 M → IR g s M H locs → lv_has ls 8 [(0, .ref (g.2.2.2 0)), (1, .int (i32 x1)), (2, .int (i32 x2)), (3, .int (i32 x3))] → W p l e rmX9_reach s m args below meth c H locs 0 0 (QIR below args s g post) (F0 m 95 ls []) := by
  obtain ⟨⟨hx, hb, hml, hown, hts⟩, hr, hlk⟩ := id C
  intro n
  induction n with
  | zero =>
    intro x1 x2 x3 h1 h2 h3 M H locs ls hw
    exact hw.elim
  | succ n ih =>
    intro x1 x2 x3 h1 h2 h3 M H locs ls hw I hl
    refine lv_iload_n hx hb dX9_reach_95 rfl (lv_at hl 2 rfl) ?_
    refine lv_iload_n hx hb dX9_reach_96 rfl (lv_at hl 3 rfl) ?_
    refine li_icmp_ge (tgt := 267) hx hb dX9_reach_97 (by decide) h2 h3 (fun c_1 => ?_) (fun c_1 => ?_)
    · replace hw := hw.1 c_1
      refine li_iconst hx hb dX9_reach_267 ?_
      refine lv_istore (lv' := [(4, .int (i32 0)), (0, .ref (g.2.2.2 0)), (1, .int (i32 x1)), (2, .int (i32 x2)), (3, .int (i32 x3))]) hx hb dX9_reach_268 hl (by decide) rfl (fun ls hl => ?_)
      obtain ⟨n1, hw⟩ := hw
      exact bX9_reach_270 C post n1 0 (by decide) _ _ _ _ hw I (lv_sub hl [1, 0] rfl)
    · replace hw := hw.2 c_1
      refine lv_aload_n hx hb dX9_reach_100 rfl (lv_at hl 0 rfl) ?_
      refine rg_0_23 hx hb hts wu_X9 hown I wf_X9_65 dX9_reach_101 ?_
      refine lv_iload_n hx hb dX9_reach_104 rfl (lv_at hl 2 rfl) ?_
      obtain ⟨h_2, hw⟩ := hw
      refine r_iald hx hb I 19 lenR_19 (by decide) h_2 dX9_reach_105 ?_
      have h_3 := I.rng 19 x2
      refine li_name (fun v106_3 ev106_3 => ?_)
      replace hw := hw v106_3 ev106_3
      have hv106_3 : inR v106_3 := ev106_3 ▸ h_3
      refine lv_istore (lv' := [(4, .int (i32 v106_3)), (0, .ref (g.2.2.2 0)), (1, .int (i32 x1)), (2, .int (i32 x2)), (3, .int (i32 x3))]) hx hb dX9_reach_106 hl (by decide) rfl (fun ls hl => ?_)
      refine li_iinc (lv' := [(2, .int (i32 (x2 + 1))), (4, .int (i32 v106_3)), (0, .ref (g.2.2.2 0)), (1, .int (i32 x1)), (3, .int (i32 x3))]) hx hb dX9_reach_108 hl (k := 3) rfl (by decide) rfl (fun ls hl => ?_)
      refine li_iconst hx hb dX9_reach_111 ?_
      refine lv_istore (lv' := [(5, .int (i32 0)), (2, .int (i32 (x2 + 1))), (4, .int (i32 v106_3)), (0, .ref (g.2.2.2 0)), (1, .int (i32 x1)), (3, .int (i32 x3))]) hx hb dX9_reach_112 hl (by decide) rfl (fun ls hl => ?_)
      obtain ⟨h_5, hw⟩ := hw
      obtain ⟨n1, hw⟩ := hw
      exact bX9_reach_114 C post (fun y1 y2 y3 N => lpX9_reach_95 post n y1 y2 y3 N) ih n1 x1 (x2 + 1) x3 v106_3 0 h1 h_5 h3 hv106_3 (by decide) _ _ _ _ hw I (lv_sub hl [3, 4, 1, 5, 2, 0] rfl)
set_option maxRecDepth 100000 in
set_option maxHeartbeats 4000000 in
theorem bX9_reach_89 {p : Program} {l : Launch} {e : Env} {s : State} {m : MethodId} {args : Array Value} {below : List Frame} {meth : Method} {c : Code} {g : GP} (C : Cx p m c cX9_reach 8 s args lw_g RX9 meth (some .int)) (post : Int → Mem → Prop) (k7 : Int → Int → Int → Int → Mem → Prop) (hk7 : ∀ (x1 x2 x3 x4 : Int), inR x1 → inR x2 → inR x3 → inR x4 → ∀ (M : Mem) (H : Heap) (locs : List Loc) (ls : Array Slot), k7 x1 x2 x3 x4 M → IR g s M H locs → lv_has ls 8 [(0, .ref (g.2.2.2 0)), (1, .int (i32 x1)), (2, .int (i32 x2)), (3, .int (i32 x3)), (4, .int (i32 x4))] → W p l e rmX9_reach s m args below meth c H locs 0 0 (QIR below args s g post) (F0 m 7 ls [])) : ∀ (x1 x2 x3 x4 : Int), inR x1 → inR x2 → inR x3 → inR x4 → ∀ (M : Mem) (H : Heap) (locs : List Loc) (ls : Array Slot), jbX9_reach_89 post k7 x1 x2 x3 x4 M → IR g s M H locs → lv_has ls 8 [(0, .ref (g.2.2.2 0)), (1, .int (i32 x1)), (2, .int (i32 x2)), (3, .int (i32 x3)), (4, .int (i32 x4))] → W p l e rmX9_reach s m args below meth c H locs 0 0 (QIR below args s g post) (F0 m 89 ls []) := by
  obtain ⟨⟨hx, hb, hml, hown, hts⟩, hr, hlk⟩ := id C
  intro x1 x2 x3 x4 h1 h2 h3 h4 M H locs ls hw I hl
  refine li_iinc (lv' := [(4, .int (i32 (x4 + 1))), (0, .ref (g.2.2.2 0)), (1, .int (i32 x1)), (2, .int (i32 x2)), (3, .int (i32 x3))]) hx hb dX9_reach_89 hl (k := 4) rfl (by decide) rfl (fun ls hl => ?_)
  refine lv_goto (tgt := 7) hx hb dX9_reach_92 (by decide) ?_
  obtain ⟨h_1, hw⟩ := hw
  exact hk7 x1 x2 x3 (x4 + 1) h1 h2 h3 h_1 _ _ _ _ hw I (lv_sub hl [1, 2, 3, 4, 0] rfl)
set_option maxRecDepth 100000 in
set_option maxHeartbeats 4000000 in
theorem bX9_reach_37 {p : Program} {l : Launch} {e : Env} {s : State} {m : MethodId} {args : Array Value} {below : List Frame} {meth : Method} {c : Code} {g : GP} (C : Cx p m c cX9_reach 8 s args lw_g RX9 meth (some .int)) (post : Int → Mem → Prop) (k7 : Int → Int → Int → Int → Mem → Prop) (hk7 : ∀ (x1 x2 x3 x4 : Int), inR x1 → inR x2 → inR x3 → inR x4 → ∀ (M : Mem) (H : Heap) (locs : List Loc) (ls : Array Slot), k7 x1 x2 x3 x4 M → IR g s M H locs → lv_has ls 8 [(0, .ref (g.2.2.2 0)), (1, .int (i32 x1)), (2, .int (i32 x2)), (3, .int (i32 x3)), (4, .int (i32 x4))] → W p l e rmX9_reach s m args below meth c H locs 0 0 (QIR below args s g post) (F0 m 7 ls [])) : ∀ (x1 x2 x3 x4 t0 t1 : Int), inR x1 → inR x2 → inR x3 → inR x4 → inR t0 → inR t1 → ∀ (M : Mem) (H : Heap) (locs : List Loc) (ls : Array Slot), jbX9_reach_37 post k7 x1 x2 x3 x4 t0 t1 M → IR g s M H locs → lv_has ls 8 [(0, .ref (g.2.2.2 0)), (1, .int (i32 x1)), (2, .int (i32 x2)), (3, .int (i32 x3)), (4, .int (i32 x4))] → W p l e rmX9_reach s m args below meth c H locs 0 0 (QIR below args s g post) (F0 m 37 ls [.int (i32 t0), .int (i32 t1), .ref (g.2.2.2 18)]) := by
  obtain ⟨⟨hx, hb, hml, hown, hts⟩, hr, hlk⟩ := id C
  intro x1 x2 x3 x4 t0 t1 h1 h2 h3 h4 ht0 ht1 M H locs ls hw I hl
  obtain ⟨h_1, hw⟩ := hw
  obtain ⟨h_2, hw⟩ := hw
  refine r_zast hx hb I 18 lenR_18 (by decide) h_1 h_2 dX9_reach_37 (fun H locs M37_2 eM37_2 I => ?_)
  replace hw := hw M37_2 eM37_2
  refine lv_aload_n hx hb dX9_reach_38 rfl (lv_at hl 0 rfl) ?_
  refine rg_0_22 hx hb hts wu_X9 hown I wf_X9_62 dX9_reach_39 ?_
  refine lv_bipush (v := i32 10) hx hb dX9_reach_42 (by decide) ?_
  refine lv_iload hx hb dX9_reach_44 (lv_at hl 4 rfl) ?_
  refine li_iadd hx hb dX9_reach_46 ?_
  refine li_iconst hx hb dX9_reach_47 ?_
  obtain ⟨h_4, hw⟩ := hw
  refine r_zast hx hb I 18 lenR_18 (by decide) h_4 (Or.inl rfl) dX9_reach_48 (fun H locs M48_4 eM48_4 I => ?_)
  replace hw := hw M48_4 eM48_4
  refine lv_aload_n hx hb dX9_reach_49 rfl (lv_at hl 0 rfl) ?_
  refine rg_0_20 hx hb hts wu_X9 hown I wf_X9_55 dX9_reach_50 ?_
  refine lv_iload hx hb dX9_reach_53 (lv_at hl 4 rfl) ?_
  refine li_iconst hx hb dX9_reach_55 ?_
  obtain ⟨h_6, hw⟩ := hw
  refine r_iast hx hb I 16 lenR_16 (by decide) h_6 (by decide) dX9_reach_56 (fun H locs M56_6 eM56_6 I => ?_)
  replace hw := hw M56_6 eM56_6
  refine lv_aload_n hx hb dX9_reach_57 rfl (lv_at hl 0 rfl) ?_
  refine rg_0_20 hx hb hts wu_X9 hown I wf_X9_55 dX9_reach_58 ?_
  refine lv_bipush (v := i32 10) hx hb dX9_reach_61 (by decide) ?_
  refine lv_iload hx hb dX9_reach_63 (lv_at hl 4 rfl) ?_
  refine li_iadd hx hb dX9_reach_65 ?_
  refine li_iconst hx hb dX9_reach_66 ?_
  obtain ⟨h_8, hw⟩ := hw
  refine r_iast hx hb I 16 lenR_16 (by decide) h_8 (by decide) dX9_reach_67 (fun H locs M67_8 eM67_8 I => ?_)
  replace hw := hw M67_8 eM67_8
  refine lv_aload_n hx hb dX9_reach_68 rfl (lv_at hl 0 rfl) ?_
  refine rg_0_22 hx hb hts wu_X9 hown I wf_X9_62 dX9_reach_69 ?_
  refine lv_iload hx hb dX9_reach_72 (lv_at hl 4 rfl) ?_
  obtain ⟨h_10, hw⟩ := hw
  refine r_zald hx hb I 18 lenR_18 (by decide) h_10 dX9_reach_74 ?_
  have h_11 := I.rng 18 x4
  refine li_if_eq (tgt := 89) hx hb dX9_reach_75 (by decide) h_11 (fun c_12 => ?_) (fun c_12 => ?_)
  · replace hw := hw.1 c_12
    exact bX9_reach_89 C post k7 hk7 x1 x2 x3 x4 h1 h2 h3 h4 _ _ _ _ hw I (lv_sub hl [0, 1, 2, 3, 4] rfl)
  · replace hw := hw.2 c_12
    refine lv_aload_n hx hb dX9_reach_78 rfl (lv_at hl 0 rfl) ?_
    refine rg_0_23 hx hb hts wu_X9 hown I wf_X9_65 dX9_reach_79 ?_
    refine lv_iload_n hx hb dX9_reach_82 rfl (lv_at hl 3 rfl) ?_
    refine lv_iload hx hb dX9_reach_83 (lv_at hl 4 rfl) ?_
    obtain ⟨h_13, hw⟩ := hw
    refine r_iast hx hb I 19 lenR_19 (by decide) h_13 h4 dX9_reach_85 (fun H locs M85_13 eM85_13 I => ?_)
    replace hw := hw M85_13 eM85_13
    refine li_iinc (lv' := [(3, .int (i32 (x3 + 1))), (0, .ref (g.2.2.2 0)), (1, .int (i32 x1)), (2, .int (i32 x2)), (4, .int (i32 x4))]) hx hb dX9_reach_86 hl (k := 3) rfl (by decide) rfl (fun ls hl => ?_)
    obtain ⟨h_15, hw⟩ := hw
    exact bX9_reach_89 C post k7 hk7 x1 x2 (x3 + 1) x4 h1 h2 h_15 h4 _ _ _ _ hw I (lv_sub hl [1, 2, 3, 0, 4] rfl)
set_option maxRecDepth 100000 in
set_option maxHeartbeats 4000000 in
theorem bX9_reach_7 {p : Program} {l : Launch} {e : Env} {s : State} {m : MethodId} {args : Array Value} {below : List Frame} {meth : Method} {c : Code} {g : GP} (C : Cx p m c cX9_reach 8 s args lw_g RX9 meth (some .int)) (post : Int → Mem → Prop) : ∀ (n : Nat), ∀ (x1 x2 x3 x4 : Int), inR x1 → inR x2 → inR x3 → inR x4 → ∀ (M : Mem) (H : Heap) (locs : List Loc) (ls : Array Slot), lpX9_reach_7 post n x1 x2 x3 x4 M → IR g s M H locs → lv_has ls 8 [(0, .ref (g.2.2.2 0)), (1, .int (i32 x1)), (2, .int (i32 x2)), (3, .int (i32 x3)), (4, .int (i32 x4))] → W p l e rmX9_reach s m args below meth c H locs 0 0 (QIR below args s g post) (F0 m 7 ls []) := by
  obtain ⟨⟨hx, hb, hml, hown, hts⟩, hr, hlk⟩ := id C
  intro n
  induction n with
  | zero =>
    intro x1 x2 x3 x4 h1 h2 h3 h4 M H locs ls hw
    exact hw.elim
  | succ n ih =>
    intro x1 x2 x3 x4 h1 h2 h3 h4 M H locs ls hw I hl
    refine lv_iload hx hb dX9_reach_7 (lv_at hl 4 rfl) ?_
    refine lv_aload_n hx hb dX9_reach_9 rfl (lv_at hl 0 rfl) ?_
    refine rg_0_0 hx hb hts wu_X9 hown I wf_X9_86 dX9_reach_10 ?_
    have h_1 := I.rng 0 0
    refine li_icmp_ge (tgt := 95) hx hb dX9_reach_13 (by decide) h4 h_1 (fun c_2 => ?_) (fun c_2 => ?_)
    · replace hw := hw.1 c_2
      obtain ⟨n1, hw⟩ := hw
      exact bX9_reach_95 C post n1 x1 x2 x3 h1 h2 h3 _ _ _ _ hw I (lv_sub hl [0, 1, 2, 3] rfl)
    · replace hw := hw.2 c_2
      refine lv_aload_n hx hb dX9_reach_16 rfl (lv_at hl 0 rfl) ?_
      refine rg_0_22 hx hb hts wu_X9 hown I wf_X9_62 dX9_reach_17 ?_
      refine lv_iload hx hb dX9_reach_20 (lv_at hl 4 rfl) ?_
      refine lv_aload_n hx hb dX9_reach_22 rfl (lv_at hl 0 rfl) ?_
      refine rg_0_16 hx hb hts wu_X9 hown I wf_X9_43 dX9_reach_23 ?_
      refine lv_iload hx hb dX9_reach_26 (lv_at hl 4 rfl) ?_
      obtain ⟨h_3, hw⟩ := hw
      refine r_iald hx hb I 12 lenR_12 (by decide) h_3 dX9_reach_28 ?_
      have h_4 := I.rng 12 x4
      refine li_if_le (tgt := 36) hx hb dX9_reach_29 (by decide) h_4 (fun c_5 => ?_) (fun c_5 => ?_)
      · replace hw := hw.1 c_5
        refine li_iconst hx hb dX9_reach_36 ?_
        exact bX9_reach_37 C post (fun y1 y2 y3 y4 N => lpX9_reach_7 post n y1 y2 y3 y4 N) ih x1 x2 x3 x4 0 x4 h1 h2 h3 h4 (by decide) h4 _ _ _ _ hw I (lv_sub hl [0, 1, 2, 3, 4] rfl)
      · replace hw := hw.2 c_5
        refine li_iconst hx hb dX9_reach_32 ?_
        refine lv_goto (tgt := 37) hx hb dX9_reach_33 (by decide) ?_
        exact bX9_reach_37 C post (fun y1 y2 y3 y4 N => lpX9_reach_7 post n y1 y2 y3 y4 N) ih x1 x2 x3 x4 1 x4 h1 h2 h3 h4 (by decide) h4 _ _ _ _ hw I (lv_sub hl [0, 1, 2, 3, 4] rfl)
set_option maxRecDepth 100000 in
set_option maxHeartbeats 4000000 in
theorem mX9_reach (l : Launch) (g : GP) (a1 : Int) (ha1 : inR a1) (M : Mem) (post : Int → Mem → Prop) (sz : Nat) (hw : wpX9_reach a1 M post) : MIR l yX9_reach wtX9_reach rmX9_reach g [.ref (g.2.2.2 0), .int (i32 a1)] M sz post := by
  refine Met.ofW (cc := cX9_reach) (maxL := 8) (ret := (some .int)) (by decide) rfl ?_
  intro p e s m args below meth c s₁ B hml hv
  obtain ⟨rfl, hpre⟩ := hv
  have hsz := hpre.1
  subst hsz
  have C : Cx p m c cX9_reach 8 s _ lw_g RX9 meth (some .int) := ⟨⟨B.exec, B.bytes, hml, findClass_of_methodNamed B.named, fun w h => atoms_spec (ws := wtX9_reach) B.pre w (List.mem_cons_of_mem _ h)⟩, B.returns, B.notSynchronized⟩
  obtain ⟨⟨hx, hb, hml, hown, hts⟩, hr, hlk⟩ := id C
  have I := InG.start hpre
  have hl := lv_entry ([.ref (g.2.2.2 0), .int (i32 a1)]) (n := 8) (Nat.le_of_ble_eq_true rfl)
  rw [lg_entry_eq]
  generalize (lg_sl ([.ref (g.2.2.2 0), .int (i32 a1)]) ++ List.replicate (8 - (lg_sl ([.ref (g.2.2.2 0), .int (i32 a1)])).length) Slot.unset).toArray = ls at hl ⊢
  have hl : lv_has ls 8 [(0, .ref (g.2.2.2 0)), (1, .int (i32 a1))] := hl
  show W p l e rmX9_reach s m _ below meth c s.heap [] 0 0 (QIR below _ s g post) _
  refine li_iconst hx hb dX9_reach_0 ?_
  refine lv_istore_n (lv' := [(2, .int (i32 0)), (0, .ref (g.2.2.2 0)), (1, .int (i32 a1))]) hx hb dX9_reach_1 rfl hl (by decide) rfl (fun ls hl => ?_)
  refine li_iconst hx hb dX9_reach_2 ?_
  refine lv_istore_n (lv' := [(3, .int (i32 0)), (2, .int (i32 0)), (0, .ref (g.2.2.2 0)), (1, .int (i32 a1))]) hx hb dX9_reach_3 rfl hl (by decide) rfl (fun ls hl => ?_)
  refine li_iconst hx hb dX9_reach_4 ?_
  refine lv_istore (lv' := [(4, .int (i32 0)), (3, .int (i32 0)), (2, .int (i32 0)), (0, .ref (g.2.2.2 0)), (1, .int (i32 a1))]) hx hb dX9_reach_5 hl (by decide) rfl (fun ls hl => ?_)
  obtain ⟨n1, hw⟩ := hw
  exact bX9_reach_7 C post n1 a1 0 0 0 ha1 (by decide) (by decide) (by decide) _ _ _ _ hw I (lv_sub hl [3, 4, 2, 1, 0] rfl)
abbrev rmX9_fits : Room := { frames := 1, cells := 0, slots := 0, locals := 27 }
abbrev wtX9_fits : List Cond := Cond.code yX9_fits cX9_fits 7 (some .boolean) :: lw_g
set_option maxRecDepth 100000 in
set_option maxHeartbeats 4000000 in
theorem bX9_fits_83 {p : Program} {l : Launch} {e : Env} {s : State} {m : MethodId} {args : Array Value} {below : List Frame} {meth : Method} {c : Code} {g : GP} (C : Cx p m c cX9_fits 7 s args lw_g RX9 meth (some .boolean)) (post : Int → Mem → Prop) (k54 : Int → Int → Mem → Prop) (hk54 : ∀ (x5 x6 : Int), inR x5 → inR x6 → ∀ (M : Mem) (H : Heap) (locs : List Loc) (ls : Array Slot), k54 x5 x6 M → IR g s M H locs → lv_has ls 7 [(0, .ref (g.2.2.2 0)), (5, .int (i32 x5)), (6, .int (i32 x6))] → W p l e rmX9_fits s m args below meth c H locs 0 0 (QIR below args s g post) (F0 m 54 ls [])) : ∀ (x6 t0 : Int), inR x6 → inR t0 → ∀ (M : Mem) (H : Heap) (locs : List Loc) (ls : Array Slot), jbX9_fits_83 post k54 x6 t0 M → IR g s M H locs → lv_has ls 7 [(0, .ref (g.2.2.2 0)), (6, .int (i32 x6))] → W p l e rmX9_fits s m args below meth c H locs 0 0 (QIR below args s g post) (F0 m 83 ls [.int (i32 t0)]) := by
  obtain ⟨⟨hx, hb, hml, hown, hts⟩, hr, hlk⟩ := id C
  intro x6 t0 h6 ht0 M H locs ls hw I hl
  refine lv_istore (lv' := [(5, .int (i32 t0)), (0, .ref (g.2.2.2 0)), (6, .int (i32 x6))]) hx hb dX9_fits_83 hl (by decide) rfl (fun ls hl => ?_)
  refine li_iinc (lv' := [(6, .int (i32 (x6 + 1))), (5, .int (i32 t0)), (0, .ref (g.2.2.2 0))]) hx hb dX9_fits_85 hl (k := 2) rfl (by decide) rfl (fun ls hl => ?_)
  refine lv_goto (tgt := 54) hx hb dX9_fits_88 (by decide) ?_
  obtain ⟨h_1, hw⟩ := hw
  exact hk54 t0 (x6 + 1) ht0 h_1 _ _ _ _ hw I (lv_sub hl [2, 1, 0] rfl)
set_option maxRecDepth 100000 in
set_option maxHeartbeats 4000000 in
theorem bX9_fits_82 {p : Program} {l : Launch} {e : Env} {s : State} {m : MethodId} {args : Array Value} {below : List Frame} {meth : Method} {c : Code} {g : GP} (C : Cx p m c cX9_fits 7 s args lw_g RX9 meth (some .boolean)) (post : Int → Mem → Prop) (k54 : Int → Int → Mem → Prop) (hk54 : ∀ (x5 x6 : Int), inR x5 → inR x6 → ∀ (M : Mem) (H : Heap) (locs : List Loc) (ls : Array Slot), k54 x5 x6 M → IR g s M H locs → lv_has ls 7 [(0, .ref (g.2.2.2 0)), (5, .int (i32 x5)), (6, .int (i32 x6))] → W p l e rmX9_fits s m args below meth c H locs 0 0 (QIR below args s g post) (F0 m 54 ls [])) : ∀ (x6 : Int), inR x6 → ∀ (M : Mem) (H : Heap) (locs : List Loc) (ls : Array Slot), jbX9_fits_82 post k54 x6 M → IR g s M H locs → lv_has ls 7 [(0, .ref (g.2.2.2 0)), (6, .int (i32 x6))] → W p l e rmX9_fits s m args below meth c H locs 0 0 (QIR below args s g post) (F0 m 82 ls []) := by
  obtain ⟨⟨hx, hb, hml, hown, hts⟩, hr, hlk⟩ := id C
  intro x6 h6 M H locs ls hw I hl
  refine li_iconst hx hb dX9_fits_82 ?_
  exact bX9_fits_83 C post k54 hk54 x6 0 h6 (by decide) _ _ _ _ hw I (lv_sub hl [0, 1] rfl)
set_option maxRecDepth 100000 in
set_option maxHeartbeats 4000000 in
theorem bX9_fits_54 {p : Program} {l : Launch} {e : Env} {s : State} {m : MethodId} {args : Array Value} {below : List Frame} {meth : Method} {c : Code} {g : GP} (C : Cx p m c cX9_fits 7 s args lw_g RX9 meth (some .boolean)) (post : Int → Mem → Prop) : ∀ (n : Nat), ∀ (x5 x6 : Int), inR x5 → inR x6 → ∀ (M : Mem) (H : Heap) (locs : List Loc) (ls : Array Slot), lpX9_fits_54 post n x5 x6 M → IR g s M H locs → lv_has ls 7 [(0, .ref (g.2.2.2 0)), (5, .int (i32 x5)), (6, .int (i32 x6))] → W p l e rmX9_fits s m args below meth c H locs 0 0 (QIR below args s g post) (F0 m 54 ls []) := by
  obtain ⟨⟨hx, hb, hml, hown, hts⟩, hr, hlk⟩ := id C
  intro n
  induction n with
  | zero =>
    intro x5 x6 h5 h6 M H locs ls hw
    exact hw.elim
  | succ n ih =>
    intro x5 x6 h5 h6 M H locs ls hw I hl
    refine lv_iload hx hb dX9_fits_54 (lv_at hl 2 rfl) ?_
    refine lv_aload_n hx hb dX9_fits_56 rfl (lv_at hl 0 rfl) ?_
    refine rg_0_0 hx hb hts wu_X9 hown I wf_X9_86 dX9_fits_57 ?_
    have h_1 := I.rng 0 0
    refine li_icmp_ge (tgt := 91) hx hb dX9_fits_60 (by decide) h6 h_1 (fun c_2 => ?_) (fun c_2 => ?_)
    · replace hw := hw.1 c_2
      refine lv_iload hx hb dX9_fits_91 (lv_at hl 1 rfl) ?_
      obtain ⟨h_3, hw⟩ := hw
      exact g_zret hx hb hr hlk I h_3 hw dX9_fits_93
    · replace hw := hw.2 c_2
      refine lv_iload hx hb dX9_fits_63 (lv_at hl 1 rfl) ?_
      refine li_if_eq (tgt := 82) hx hb dX9_fits_65 (by decide) h5 (fun c_4 => ?_) (fun c_4 => ?_)
      · replace hw := hw.1 c_4
        exact bX9_fits_82 C post (fun y5 y6 N => lpX9_fits_54 post n y5 y6 N) ih x6 h6 _ _ _ _ hw I (lv_sub hl [0, 2] rfl)
      · replace hw := hw.2 c_4
        refine lv_aload_n hx hb dX9_fits_68 rfl (lv_at hl 0 rfl) ?_
        refine rg_0_16 hx hb hts wu_X9 hown I wf_X9_43 dX9_fits_69 ?_
        refine lv_iload hx hb dX9_fits_72 (lv_at hl 2 rfl) ?_
        obtain ⟨h_5, hw⟩ := hw
        refine r_iald hx hb I 12 lenR_12 (by decide) h_5 dX9_fits_74 ?_
        have h_6 := I.rng 12 x6
        refine li_if_ne (tgt := 82) hx hb dX9_fits_75 (by decide) h_6 (fun c_7 => ?_) (fun c_7 => ?_)
        · replace hw := hw.1 c_7
          exact bX9_fits_82 C post (fun y5 y6 N => lpX9_fits_54 post n y5 y6 N) ih x6 h6 _ _ _ _ hw I (lv_sub hl [0, 2] rfl)
        · replace hw := hw.2 c_7
          refine li_iconst hx hb dX9_fits_78 ?_
          refine lv_goto (tgt := 83) hx hb dX9_fits_79 (by decide) ?_
          exact bX9_fits_83 C post (fun y5 y6 N => lpX9_fits_54 post n y5 y6 N) ih x6 1 h6 (by decide) _ _ _ _ hw I (lv_sub hl [0, 2] rfl)
set_option maxRecDepth 100000 in
set_option maxHeartbeats 4000000 in
theorem bX9_fits_43 {p : Program} {l : Launch} {e : Env} {s : State} {m : MethodId} {args : Array Value} {below : List Frame} {meth : Method} {c : Code} {g : GP} (C : Cx p m c cX9_fits 7 s args lw_g RX9 meth (some .boolean)) (post : Int → Mem → Prop) (k13 : Int → Int → Mem → Prop) (hk13 : ∀ (x3 x4 : Int), inR x3 → inR x4 → ∀ (M : Mem) (H : Heap) (locs : List Loc) (ls : Array Slot), k13 x3 x4 M → IR g s M H locs → lv_has ls 7 [(0, .ref (g.2.2.2 0)), (3, .int (i32 x3)), (4, .int (i32 x4))] → W p l e rmX9_fits s m args below meth c H locs 0 0 (QIR below args s g post) (F0 m 13 ls [])) : ∀ (x3 t0 : Int), inR x3 → inR t0 → ∀ (M : Mem) (H : Heap) (locs : List Loc) (ls : Array Slot), jbX9_fits_43 post k13 x3 t0 M → IR g s M H locs → lv_has ls 7 [(0, .ref (g.2.2.2 0)), (3, .int (i32 x3))] → W p l e rmX9_fits s m args below meth c H locs 0 0 (QIR below args s g post) (F0 m 43 ls [.int (i32 t0)]) := by
  obtain ⟨⟨hx, hb, hml, hown, hts⟩, hr, hlk⟩ := id C
  intro x3 t0 h3 ht0 M H locs ls hw I hl
  refine lv_istore (lv' := [(4, .int (i32 t0)), (0, .ref (g.2.2.2 0)), (3, .int (i32 x3))]) hx hb dX9_fits_43 hl (by decide) rfl (fun ls hl => ?_)
  refine lv_goto (tgt := 13) hx hb dX9_fits_45 (by decide) ?_
  exact hk13 x3 t0 h3 ht0 _ _ _ _ hw I (lv_sub hl [1, 2, 0] rfl)
set_option maxRecDepth 100000 in
set_option maxHeartbeats 4000000 in
theorem bX9_fits_13 {p : Program} {l : Launch} {e : Env} {s : State} {m : MethodId} {args : Array Value} {below : List Frame} {meth : Method} {c : Code} {g : GP} (C : Cx p m c cX9_fits 7 s args lw_g RX9 meth (some .boolean)) (post : Int → Mem → Prop) : ∀ (n : Nat), ∀ (x3 x4 : Int), inR x3 → inR x4 → ∀ (M : Mem) (H : Heap) (locs : List Loc) (ls : Array Slot), lpX9_fits_13 post n x3 x4 M → IR g s M H locs → lv_has ls 7 [(0, .ref (g.2.2.2 0)), (3, .int (i32 x3)), (4, .int (i32 x4))] → W p l e rmX9_fits s m args below meth c H locs 0 0 (QIR below args s g post) (F0 m 13 ls []) := by
  obtain ⟨⟨hx, hb, hml, hown, hts⟩, hr, hlk⟩ := id C
  intro n
  induction n with
  | zero =>
    intro x3 x4 h3 h4 M H locs ls hw
    exact hw.elim
  | succ n ih =>
    intro x3 x4 h3 h4 M H locs ls hw I hl
    refine lv_iload hx hb dX9_fits_13 (lv_at hl 2 rfl) ?_
    refine li_iconst hx hb dX9_fits_15 ?_
    refine li_icmp_eq (tgt := 48) hx hb dX9_fits_16 (by decide) h4 (by decide) (fun c_1 => ?_) (fun c_1 => ?_)
    · replace hw := hw.1 c_1
      refine li_iconst hx hb dX9_fits_48 ?_
      refine lv_istore (lv' := [(5, .int (i32 1)), (0, .ref (g.2.2.2 0)), (3, .int (i32 x3)), (4, .int (i32 x4))]) hx hb dX9_fits_49 hl (by decide) rfl (fun ls hl => ?_)
      refine li_iconst hx hb dX9_fits_51 ?_
      refine lv_istore (lv' := [(6, .int (i32 0)), (5, .int (i32 1)), (0, .ref (g.2.2.2 0)), (3, .int (i32 x3)), (4, .int (i32 x4))]) hx hb dX9_fits_52 hl (by decide) rfl (fun ls hl => ?_)
      obtain ⟨n1, hw⟩ := hw
      exact bX9_fits_54 C post n1 1 0 (by decide) (by decide) _ _ _ _ hw I (lv_sub hl [2, 1, 0] rfl)
    · replace hw := hw.2 c_1
      refine lv_aload_n hx hb dX9_fits_19 rfl (lv_at hl 0 rfl) ?_
      refine lv_iload hx hb dX9_fits_20 (lv_at hl 2 rfl) ?_
      refine lv_ldc (v := i32 1000000000) hx hb hown (hts _ wk_X9_115) dX9_fits_22 ?_
      refine g_callVi (o := 0) (As := [.int (i32 x4), .int (i32 1000000000)]) (rest := []) ⟨hx, hb, hml, hown, hts⟩ I (mX9_go l g x4 1000000000 h4 (by decide) M _ _ hw) (cwV 2 hts (gd_V wm_X9_135 wi_X9_go wl_X9_go wn_X9 wc_X9_go) rfl rfl rfl wd_X9_go ⟨Nat.le_of_ble_eq_true rfl, Nat.le_of_ble_eq_true rfl⟩) (by omega) (by omega) obR_0 rfl rfl hl.1 rfl (Nat.le_of_ble_eq_true rfl) dX9_fits_24 ⟨Nat.zero_le _, Nat.zero_le _⟩ (fun r24_1 M24_1 H locs hr24_1 hw I => ?_)
      refine lv_istore (lv' := [(5, .int (i32 r24_1)), (0, .ref (g.2.2.2 0)), (3, .int (i32 x3)), (4, .int (i32 x4))]) hx hb dX9_fits_27 hl (by decide) rfl (fun ls hl => ?_)
      refine lv_iload hx hb dX9_fits_29 (lv_at hl 0 rfl) ?_
      refine li_if_le (tgt := 42) hx hb dX9_fits_31 (by decide) hr24_1 (fun c_3 => ?_) (fun c_3 => ?_)
      · replace hw := hw.1 c_3
        refine li_iconst hx hb dX9_fits_42 ?_
        exact bX9_fits_43 C post (fun y3 y4 N => lpX9_fits_13 post n y3 y4 N) ih x3 (-1) h3 (by decide) _ _ _ _ hw I (lv_sub hl [1, 2] rfl)
      · replace hw := hw.2 c_3
        refine lv_aload_n hx hb dX9_fits_34 rfl (lv_at hl 1 rfl) ?_
        refine lv_iload_n hx hb dX9_fits_35 rfl (lv_at hl 2 rfl) ?_
        refine g_callVi (o := 0) (As := [.int (i32 x3)]) (rest := []) ⟨hx, hb, hml, hown, hts⟩ I (mX9_reach l g x3 h3 M24_1 _ _ hw) (cwV 1 hts (gd_V wm_X9_173 wi_X9_reach wl_X9_reach wn_X9 wc_X9_reach) rfl rfl rfl wd_X9_reach ⟨Nat.le_of_ble_eq_true rfl, Nat.le_of_ble_eq_true rfl⟩) (by omega) (by omega) obR_0 rfl rfl hl.1 rfl (Nat.le_of_ble_eq_true rfl) dX9_fits_36 ⟨Nat.zero_le _, Nat.zero_le _⟩ (fun r36_3 M36_3 H locs hr36_3 hw I => ?_)
        refine lv_goto (tgt := 43) hx hb dX9_fits_39 (by decide) ?_
        exact bX9_fits_43 C post (fun y3 y4 N => lpX9_fits_13 post n y3 y4 N) ih x3 r36_3 h3 hr36_3 _ _ _ _ hw I (lv_sub hl [1, 2] rfl)
set_option maxRecDepth 100000 in
set_option maxHeartbeats 4000000 in
theorem mX9_fits (l : Launch) (g : GP) (a1 a2 a3 : Int) (ha1 : inR a1) (ha2 : inR a2) (ha3 : inR a3) (M : Mem) (post : Int → Mem → Prop) (sz : Nat) (hw : wpX9_fits a1 a2 a3 M post) : MIR l yX9_fits wtX9_fits rmX9_fits g [.ref (g.2.2.2 0), .int (i32 a1), .int (i32 a2), .int (i32 a3)] M sz post := by
  refine Met.ofW (cc := cX9_fits) (maxL := 7) (ret := (some .boolean)) (by decide) rfl ?_
  intro p e s m args below meth c s₁ B hml hv
  obtain ⟨rfl, hpre⟩ := hv
  have hsz := hpre.1
  subst hsz
  have C : Cx p m c cX9_fits 7 s _ lw_g RX9 meth (some .boolean) := ⟨⟨B.exec, B.bytes, hml, findClass_of_methodNamed B.named, fun w h => atoms_spec (ws := wtX9_fits) B.pre w (List.mem_cons_of_mem _ h)⟩, B.returns, B.notSynchronized⟩
  obtain ⟨⟨hx, hb, hml, hown, hts⟩, hr, hlk⟩ := id C
  have I := InG.start hpre
  have hl := lv_entry ([.ref (g.2.2.2 0), .int (i32 a1), .int (i32 a2), .int (i32 a3)]) (n := 7) (Nat.le_of_ble_eq_true rfl)
  rw [lg_entry_eq]
  generalize (lg_sl ([.ref (g.2.2.2 0), .int (i32 a1), .int (i32 a2), .int (i32 a3)]) ++ List.replicate (7 - (lg_sl ([.ref (g.2.2.2 0), .int (i32 a1), .int (i32 a2), .int (i32 a3)])).length) Slot.unset).toArray = ls at hl ⊢
  have hl : lv_has ls 7 [(0, .ref (g.2.2.2 0)), (1, .int (i32 a1)), (2, .int (i32 a2)), (3, .int (i32 a3))] := hl
  show W p l e rmX9_fits s m _ below meth c s.heap [] 0 0 (QIR below _ s g post) _
  refine lv_aload_n hx hb dX9_fits_0 rfl (lv_at hl 0 rfl) ?_
  refine lv_iload_n hx hb dX9_fits_1 rfl (lv_at hl 1 rfl) ?_
  refine lv_iload_n hx hb dX9_fits_2 rfl (lv_at hl 2 rfl) ?_
  refine g_callVv (o := 0) (As := [.int (i32 a1), .int (i32 a2)]) (rest := []) ⟨hx, hb, hml, hown, hts⟩ I (mX9_begin l g a1 a2 ha1 ha2 M _ _ hw) (cwV 2 hts (gd_V wm_X9_127 wi_X9_begin wl_X9_begin wn_X9 wc_X9_begin) rfl rfl rfl wd_X9_begin ⟨Nat.le_of_ble_eq_true rfl, Nat.le_of_ble_eq_true rfl⟩) (by omega) (by omega) obR_0 rfl rfl hl.1 rfl (Nat.le_of_ble_eq_true rfl) dX9_fits_3 ⟨Nat.zero_le _, Nat.zero_le _⟩ (fun M3_0 H locs hw I => ?_)
  refine lv_aload_n hx hb dX9_fits_6 rfl (lv_at hl 0 rfl) ?_
  refine lv_iload_n hx hb dX9_fits_7 rfl (lv_at hl 3 rfl) ?_
  refine g_callVi (o := 0) (As := [.int (i32 a3)]) (rest := []) ⟨hx, hb, hml, hown, hts⟩ I (mX9_reach l g a3 ha3 M3_0 _ _ hw) (cwV 1 hts (gd_V wm_X9_173 wi_X9_reach wl_X9_reach wn_X9 wc_X9_reach) rfl rfl rfl wd_X9_reach ⟨Nat.le_of_ble_eq_true rfl, Nat.le_of_ble_eq_true rfl⟩) (by omega) (by omega) obR_0 rfl rfl hl.1 rfl (Nat.le_of_ble_eq_true rfl) dX9_fits_8 ⟨Nat.zero_le _, Nat.zero_le _⟩ (fun r8_1 M8_1 H locs hr8_1 hw I => ?_)
  refine lv_istore (lv' := [(4, .int (i32 r8_1)), (0, .ref (g.2.2.2 0)), (1, .int (i32 a1)), (2, .int (i32 a2)), (3, .int (i32 a3))]) hx hb dX9_fits_11 hl (by decide) rfl (fun ls hl => ?_)
  obtain ⟨n1, hw⟩ := hw
  exact bX9_fits_13 C post n1 a3 r8_1 ha3 hr8_1 _ _ _ _ hw I (lv_sub hl [1, 4, 0] rfl)
abbrev rmX9_findFarthest : Room := { frames := 2, cells := 0, slots := 0, locals := 53 }
abbrev wtX9_findFarthest : List Cond := Cond.code yX9_findFarthest cX9_findFarthest 8 (some .int) :: lw_g
set_option maxRecDepth 100000 in
set_option maxHeartbeats 4000000 in
theorem bX9_findFarthest_75 {p : Program} {l : Launch} {e : Env} {s : State} {m : MethodId} {args : Array Value} {below : List Frame} {meth : Method} {c : Code} {g : GP} (C : Cx p m c cX9_findFarthest 8 s args lw_g RX9 meth (some .int)) (post : Int → Mem → Prop) (k2 : Int → Int → Int → Mem → Prop) (k19 : Int → Int → Int → Int → Int → Mem → Prop) (k31 : Int → Int → Int → Int → Int → Int → Mem → Prop) (hk2 : ∀ (x1 x2 x3 : Int), inR x1 → inR x2 → inR x3 → ∀ (M : Mem) (H : Heap) (locs : List Loc) (ls : Array Slot), k2 x1 x2 x3 M → IR g s M H locs → lv_has ls 8 [(0, .ref (g.2.2.2 0)), (1, .int (i32 x1)), (2, .int (i32 x2)), (3, .int (i32 x3))] → W p l e rmX9_findFarthest s m args below meth c H locs 0 0 (QIR below args s g post) (F0 m 2 ls [])) (hk19 : ∀ (x1 x2 x3 x4 x5 : Int), inR x1 → inR x2 → inR x3 → inR x4 → inR x5 → ∀ (M : Mem) (H : Heap) (locs : List Loc) (ls : Array Slot), k19 x1 x2 x3 x4 x5 M → IR g s M H locs → lv_has ls 8 [(0, .ref (g.2.2.2 0)), (1, .int (i32 x1)), (2, .int (i32 x2)), (3, .int (i32 x3)), (4, .int (i32 x4)), (5, .int (i32 x5))] → W p l e rmX9_findFarthest s m args below meth c H locs 0 0 (QIR below args s g post) (F0 m 19 ls [])) (hk31 : ∀ (x1 x2 x3 x4 x5 x6 : Int), inR x1 → inR x2 → inR x3 → inR x4 → inR x5 → inR x6 → ∀ (M : Mem) (H : Heap) (locs : List Loc) (ls : Array Slot), k31 x1 x2 x3 x4 x5 x6 M → IR g s M H locs → lv_has ls 8 [(0, .ref (g.2.2.2 0)), (1, .int (i32 x1)), (2, .int (i32 x2)), (3, .int (i32 x3)), (4, .int (i32 x4)), (5, .int (i32 x5)), (6, .int (i32 x6))] → W p l e rmX9_findFarthest s m args below meth c H locs 0 0 (QIR below args s g post) (F0 m 31 ls [])) : ∀ (x1 x2 x3 x5 x6 t0 : Int), inR x1 → inR x2 → inR x3 → inR x5 → inR x6 → inR t0 → ∀ (M : Mem) (H : Heap) (locs : List Loc) (ls : Array Slot), jbX9_findFarthest_75 post k2 k19 k31 x1 x2 x3 x5 x6 t0 M → IR g s M H locs → lv_has ls 8 [(0, .ref (g.2.2.2 0)), (1, .int (i32 x1)), (2, .int (i32 x2)), (3, .int (i32 x3)), (5, .int (i32 x5)), (6, .int (i32 x6))] → W p l e rmX9_findFarthest s m args below meth c H locs 0 0 (QIR below args s g post) (F0 m 75 ls [.int (i32 t0)]) := by
  obtain ⟨⟨hx, hb, hml, hown, hts⟩, hr, hlk⟩ := id C
  intro x1 x2 x3 x5 x6 t0 h1 h2 h3 h5 h6 ht0 M H locs ls hw I hl
  refine lv_istore (lv' := [(4, .int (i32 t0)), (0, .ref (g.2.2.2 0)), (1, .int (i32 x1)), (2, .int (i32 x2)), (3, .int (i32 x3)), (5, .int (i32 x5)), (6, .int (i32 x6))]) hx hb dX9_findFarthest_75 hl (by decide) rfl (fun ls hl => ?_)
  refine li_iinc (lv' := [(6, .int (i32 (x6 + 1))), (4, .int (i32 t0)), (0, .ref (g.2.2.2 0)), (1, .int (i32 x1)), (2, .int (i32 x2)), (3, .int (i32 x3)), (5, .int (i32 x5))]) hx hb dX9_findFarthest_77 hl (k := 6) rfl (by decide) rfl (fun ls hl => ?_)
  refine lv_goto (tgt := 31) hx hb dX9_findFarthest_80 (by decide) ?_
  obtain ⟨h_1, hw⟩ := hw
  exact hk31 x1 x2 x3 t0 x5 (x6 + 1) h1 h2 h3 ht0 h5 h_1 _ _ _ _ hw I (lv_sub hl [2, 3, 4, 5, 1, 6, 0] rfl)
set_option maxRecDepth 100000 in
set_option maxHeartbeats 4000000 in
theorem bX9_findFarthest_73 {p : Program} {l : Launch} {e : Env} {s : State} {m : MethodId} {args : Array Value} {below : List Frame} {meth : Method} {c : Code} {g : GP} (C : Cx p m c cX9_findFarthest 8 s args lw_g RX9 meth (some .int)) (post : Int → Mem → Prop) (k2 : Int → Int → Int → Mem → Prop) (k19 : Int → Int → Int → Int → Int → Mem → Prop) (k31 : Int → Int → Int → Int → Int → Int → Mem → Prop) (hk2 : ∀ (x1 x2 x3 : Int), inR x1 → inR x2 → inR x3 → ∀ (M : Mem) (H : Heap) (locs : List Loc) (ls : Array Slot), k2 x1 x2 x3 M → IR g s M H locs → lv_has ls 8 [(0, .ref (g.2.2.2 0)), (1, .int (i32 x1)), (2, .int (i32 x2)), (3, .int (i32 x3))] → W p l e rmX9_findFarthest s m args below meth c H locs 0 0 (QIR below args s g post) (F0 m 2 ls [])) (hk19 : ∀ (x1 x2 x3 x4 x5 : Int), inR x1 → inR x2 → inR x3 → inR x4 → inR x5 → ∀ (M : Mem) (H : Heap) (locs : List Loc) (ls : Array Slot), k19 x1 x2 x3 x4 x5 M → IR g s M H locs → lv_has ls 8 [(0, .ref (g.2.2.2 0)), (1, .int (i32 x1)), (2, .int (i32 x2)), (3, .int (i32 x3)), (4, .int (i32 x4)), (5, .int (i32 x5))] → W p l e rmX9_findFarthest s m args below meth c H locs 0 0 (QIR below args s g post) (F0 m 19 ls [])) (hk31 : ∀ (x1 x2 x3 x4 x5 x6 : Int), inR x1 → inR x2 → inR x3 → inR x4 → inR x5 → inR x6 → ∀ (M : Mem) (H : Heap) (locs : List Loc) (ls : Array Slot), k31 x1 x2 x3 x4 x5 x6 M → IR g s M H locs → lv_has ls 8 [(0, .ref (g.2.2.2 0)), (1, .int (i32 x1)), (2, .int (i32 x2)), (3, .int (i32 x3)), (4, .int (i32 x4)), (5, .int (i32 x5)), (6, .int (i32 x6))] → W p l e rmX9_findFarthest s m args below meth c H locs 0 0 (QIR below args s g post) (F0 m 31 ls [])) : ∀ (x1 x2 x3 x4 x5 x6 : Int), inR x1 → inR x2 → inR x3 → inR x4 → inR x5 → inR x6 → ∀ (M : Mem) (H : Heap) (locs : List Loc) (ls : Array Slot), jbX9_findFarthest_73 post k2 k19 k31 x1 x2 x3 x4 x5 x6 M → IR g s M H locs → lv_has ls 8 [(0, .ref (g.2.2.2 0)), (1, .int (i32 x1)), (2, .int (i32 x2)), (3, .int (i32 x3)), (4, .int (i32 x4)), (5, .int (i32 x5)), (6, .int (i32 x6))] → W p l e rmX9_findFarthest s m args below meth c H locs 0 0 (QIR below args s g post) (F0 m 73 ls []) := by
  obtain ⟨⟨hx, hb, hml, hown, hts⟩, hr, hlk⟩ := id C
  intro x1 x2 x3 x4 x5 x6 h1 h2 h3 h4 h5 h6 M H locs ls hw I hl
  refine lv_iload hx hb dX9_findFarthest_73 (lv_at hl 4 rfl) ?_
  exact bX9_findFarthest_75 C post k2 k19 k31 hk2 hk19 hk31 x1 x2 x3 x5 x6 x4 h1 h2 h3 h5 h6 h4 _ _ _ _ hw I (lv_sub hl [0, 1, 2, 3, 5, 6] rfl)
set_option maxRecDepth 100000 in
set_option maxHeartbeats 4000000 in
theorem bX9_findFarthest_31 {p : Program} {l : Launch} {e : Env} {s : State} {m : MethodId} {args : Array Value} {below : List Frame} {meth : Method} {c : Code} {g : GP} (C : Cx p m c cX9_findFarthest 8 s args lw_g RX9 meth (some .int)) (post : Int → Mem → Prop) (k2 : Int → Int → Int → Mem → Prop) (k19 : Int → Int → Int → Int → Int → Mem → Prop) (hk2 : ∀ (x1 x2 x3 : Int), inR x1 → inR x2 → inR x3 → ∀ (M : Mem) (H : Heap) (locs : List Loc) (ls : Array Slot), k2 x1 x2 x3 M → IR g s M H locs → lv_has ls 8 [(0, .ref (g.2.2.2 0)), (1, .int (i32 x1)), (2, .int (i32 x2)), (3, .int (i32 x3))] → W p l e rmX9_findFarthest s m args below meth c H locs 0 0 (QIR below args s g post) (F0 m 2 ls [])) (hk19 : ∀ (x1 x2 x3 x4 x5 : Int), inR x1 → inR x2 → inR x3 → inR x4 → inR x5 → ∀ (M : Mem) (H : Heap) (locs : List Loc) (ls : Array Slot), k19 x1 x2 x3 x4 x5 M → IR g s M H locs → lv_has ls 8 [(0, .ref (g.2.2.2 0)), (1, .int (i32 x1)), (2, .int (i32 x2)), (3, .int (i32 x3)), (4, .int (i32 x4)), (5, .int (i32 x5))] → W p l e rmX9_findFarthest s m args below meth c H locs 0 0 (QIR below args s g post) (F0 m 19 ls [])) : ∀ (n : Nat), ∀ (x1 x2 x3 x4 x5 x6 : Int), inR x1 → inR x2 → inR x3 → inR x4 → inR x5 → inR x6 → ∀ (M : Mem) (H : Heap) (locs : List Loc) (ls : Array Slot), lpX9_findFarthest_31 post k2 k19 n x1 x2 x3 x4 x5 x6 M → IR g s M H locs → lv_has ls 8 [(0, .ref (g.2.2.2 0)), (1, .int (i32 x1)), (2, .int (i32 x2)), (3, .int (i32 x3)), (4, .int (i32 x4)), (5, .int (i32 x5)), (6, .int (i32 x6))] → W p l e rmX9_findFarthest s m args below meth c H locs 0 0 (QIR below args s g post) (F0 m 31 ls []) := by
  obtain ⟨⟨hx, hb, hml, hown, hts⟩, hr, hlk⟩ := id C
  intro n
  induction n with
  | zero =>
    intro x1 x2 x3 x4 x5 x6 h1 h2 h3 h4 h5 h6 M H locs ls hw
    exact hw.elim
  | succ n ih =>
    intro x1 x2 x3 x4 x5 x6 h1 h2 h3 h4 h5 h6 M H locs ls hw I hl
    refine lv_iload hx hb dX9_findFarthest_31 (lv_at hl 6 rfl) ?_
    refine lv_aload_n hx hb dX9_findFarthest_33 rfl (lv_at hl 0 rfl) ?_
    refine rg_0_0 hx hb hts wu_X9 hown I wf_X9_86 dX9_findFarthest_34 ?_
    have h_1 := I.rng 0 0
    refine li_icmp_ge (tgt := 83) hx hb dX9_findFarthest_37 (by decide) h6 h_1 (fun c_2 => ?_) (fun c_2 => ?_)
    · replace hw := hw.1 c_2
      refine li_iinc (lv' := [(5, .int (i32 (x5 + 1))), (0, .ref (g.2.2.2 0)), (1, .int (i32 x1)), (2, .int (i32 x2)), (3, .int (i32 x3)), (4, .int (i32 x4)), (6, .int (i32 x6))]) hx hb dX9_findFarthest_83 hl (k := 5) rfl (by decide) rfl (fun ls hl => ?_)
      refine lv_goto (tgt := 19) hx hb dX9_findFarthest_86 (by decide) ?_
      obtain ⟨h_3, hw⟩ := hw
      exact hk19 x1 x2 x3 x4 (x5 + 1) h1 h2 h3 h4 h_3 _ _ _ _ hw I (lv_sub hl [1, 2, 3, 4, 5, 0] rfl)
    · replace hw := hw.2 c_2
      refine lv_aload_n hx hb dX9_findFarthest_40 rfl (lv_at hl 0 rfl) ?_
      refine rg_0_14 hx hb hts wu_X9 hown I wf_X9_37 dX9_findFarthest_41 ?_
      refine lv_bipush (v := i32 10) hx hb dX9_findFarthest_44 (by decide) ?_
      refine lv_iload hx hb dX9_findFarthest_46 (lv_at hl 5 rfl) ?_
      refine li_imul hx hb dX9_findFarthest_48 ?_
      refine lv_iload hx hb dX9_findFarthest_49 (lv_at hl 6 rfl) ?_
      refine li_iadd hx hb dX9_findFarthest_51 ?_
      obtain ⟨h_4, hw⟩ := hw
      refine r_iald hx hb I 10 lenR_10 (by decide) h_4 dX9_findFarthest_52 ?_
      have h_5 := I.rng 10 ((10 * x5) + x6)
      refine li_name (fun v53_5 ev53_5 => ?_)
      replace hw := hw v53_5 ev53_5
      have hv53_5 : inR v53_5 := ev53_5 ▸ h_5
      refine lv_istore (lv' := [(7, .int (i32 v53_5)), (0, .ref (g.2.2.2 0)), (1, .int (i32 x1)), (2, .int (i32 x2)), (3, .int (i32 x3)), (4, .int (i32 x4)), (5, .int (i32 x5)), (6, .int (i32 x6))]) hx hb dX9_findFarthest_53 hl (by decide) rfl (fun ls hl => ?_)
      refine lv_iload hx hb dX9_findFarthest_55 (lv_at hl 0 rfl) ?_
      refine lv_iload_n hx hb dX9_findFarthest_57 rfl (lv_at hl 4 rfl) ?_
      refine li_icmp_le (tgt := 73) hx hb dX9_findFarthest_58 (by decide) hv53_5 h3 (fun c_7 => ?_) (fun c_7 => ?_)
      · replace hw := hw.1 c_7
        exact bX9_findFarthest_73 C post k2 k19 (fun y1 y2 y3 y4 y5 y6 N => lpX9_findFarthest_31 post k2 k19 n y1 y2 y3 y4 y5 y6 N) hk2 hk19 ih x1 x2 x3 x4 x5 x6 h1 h2 h3 h4 h5 h6 _ _ _ _ hw I (lv_sub hl [1, 2, 3, 4, 5, 6, 7] rfl)
      · replace hw := hw.2 c_7
        refine lv_iload hx hb dX9_findFarthest_61 (lv_at hl 0 rfl) ?_
        refine lv_iload hx hb dX9_findFarthest_63 (lv_at hl 5 rfl) ?_
        refine li_icmp_ge (tgt := 73) hx hb dX9_findFarthest_65 (by decide) hv53_5 h4 (fun c_8 => ?_) (fun c_8 => ?_)
        · replace hw := hw.1 c_8
          exact bX9_findFarthest_73 C post k2 k19 (fun y1 y2 y3 y4 y5 y6 N => lpX9_findFarthest_31 post k2 k19 n y1 y2 y3 y4 y5 y6 N) hk2 hk19 ih x1 x2 x3 x4 x5 x6 h1 h2 h3 h4 h5 h6 _ _ _ _ hw I (lv_sub hl [1, 2, 3, 4, 5, 6, 7] rfl)
        · replace hw := hw.2 c_8
          refine lv_iload hx hb dX9_findFarthest_68 (lv_at hl 0 rfl) ?_
          refine lv_goto (tgt := 75) hx hb dX9_findFarthest_70 (by decide) ?_
          exact bX9_findFarthest_75 C post k2 k19 (fun y1 y2 y3 y4 y5 y6 N => lpX9_findFarthest_31 post k2 k19 n y1 y2 y3 y4 y5 y6 N) hk2 hk19 ih x1 x2 x3 x5 x6 v53_5 h1 h2 h3 h5 h6 hv53_5 _ _ _ _ hw I (lv_sub hl [1, 2, 3, 4, 6, 7] rfl)
set_option maxRecDepth 100000 in
set_option maxHeartbeats 4000000 in
theorem bX9_findFarthest_19 {p : Program} {l : Launch} {e : Env} {s : State} {m : MethodId} {args : Array Value} {below : List Frame} {meth : Method} {c : Code} {g : GP} (C : Cx p m c cX9_findFarthest 8 s args lw_g RX9 meth (some .int)) (post : Int → Mem → Prop) (k2 : Int → Int → Int → Mem → Prop) (hk2 : ∀ (x1 x2 x3 : Int), inR x1 → inR x2 → inR x3 → ∀ (M : Mem) (H : Heap) (locs : List Loc) (ls : Array Slot), k2 x1 x2 x3 M → IR g s M H locs → lv_has ls 8 [(0, .ref (g.2.2.2 0)), (1, .int (i32 x1)), (2, .int (i32 x2)), (3, .int (i32 x3))] → W p l e rmX9_findFarthest s m args below meth c H locs 0 0 (QIR below args s g post) (F0 m 2 ls [])) : ∀ (n : Nat), ∀ (x1 x2 x3 x4 x5 : Int), inR x1 → inR x2 → inR x3 → inR x4 → inR x5 → ∀ (M : Mem) (H : Heap) (locs : List Loc) (ls : Array Slot), lpX9_findFarthest_19 post k2 n x1 x2 x3 x4 x5 M → IR g s M H locs → lv_has ls 8 [(0, .ref (g.2.2.2 0)), (1, .int (i32 x1)), (2, .int (i32 x2)), (3, .int (i32 x3)), (4, .int (i32 x4)), (5, .int (i32 x5))] → W p l e rmX9_findFarthest s m args below meth c H locs 0 0 (QIR below args s g post) (F0 m 19 ls []) := by
  obtain ⟨⟨hx, hb, hml, hown, hts⟩, hr, hlk⟩ := id C
  intro n
  induction n with
  | zero =>
    intro x1 x2 x3 x4 x5 h1 h2 h3 h4 h5 M H locs ls hw
    exact hw.elim
  | succ n ih =>
    intro x1 x2 x3 x4 x5 h1 h2 h3 h4 h5 M H locs ls hw I hl
    refine lv_iload hx hb dX9_findFarthest_19 (lv_at hl 5 rfl) ?_
    refine lv_aload_n hx hb dX9_findFarthest_21 rfl (lv_at hl 0 rfl) ?_
    refine rg_0_0 hx hb hts wu_X9 hown I wf_X9_86 dX9_findFarthest_22 ?_
    have h_1 := I.rng 0 0
    refine li_icmp_ge (tgt := 89) hx hb dX9_findFarthest_25 (by decide) h5 h_1 (fun c_2 => ?_) (fun c_2 => ?_)
    · replace hw := hw.1 c_2
      refine lv_iload hx hb dX9_findFarthest_89 (lv_at hl 4 rfl) ?_
      refine lv_istore_n (lv' := [(3, .int (i32 x4)), (0, .ref (g.2.2.2 0)), (1, .int (i32 x1)), (2, .int (i32 x2)), (4, .int (i32 x4)), (5, .int (i32 x5))]) hx hb dX9_findFarthest_91 rfl hl (by decide) rfl (fun ls hl => ?_)
      refine lv_goto (tgt := 2) hx hb dX9_findFarthest_92 (by decide) ?_
      exact hk2 x1 x2 x4 h1 h2 h4 _ _ _ _ hw I (lv_sub hl [1, 2, 3, 0] rfl)
    · replace hw := hw.2 c_2
      refine li_iconst hx hb dX9_findFarthest_28 ?_
      refine lv_istore (lv' := [(6, .int (i32 0)), (0, .ref (g.2.2.2 0)), (1, .int (i32 x1)), (2, .int (i32 x2)), (3, .int (i32 x3)), (4, .int (i32 x4)), (5, .int (i32 x5))]) hx hb dX9_findFarthest_29 hl (by decide) rfl (fun ls hl => ?_)
      obtain ⟨n1, hw⟩ := hw
      exact bX9_findFarthest_31 C post k2 (fun y1 y2 y3 y4 y5 N => lpX9_findFarthest_19 post k2 n y1 y2 y3 y4 y5 N) hk2 ih n1 x1 x2 x3 x4 x5 0 h1 h2 h3 h4 h5 (by decide) _ _ _ _ hw I (lv_sub hl [1, 2, 3, 4, 5, 6, 0] rfl)
set_option maxRecDepth 100000 in
set_option maxHeartbeats 4000000 in
theorem bX9_findFarthest_2 {p : Program} {l : Launch} {e : Env} {s : State} {m : MethodId} {args : Array Value} {below : List Frame} {meth : Method} {c : Code} {g : GP} (C : Cx p m c cX9_findFarthest 8 s args lw_g RX9 meth (some .int)) (post : Int → Mem → Prop) : ∀ (n : Nat), ∀ (x1 x2 x3 : Int), inR x1 → inR x2 → inR x3 → ∀ (M : Mem) (H : Heap) (locs : List Loc) (ls : Array Slot), lpX9_findFarthest_2 post n x1 x2 x3 M → IR g s M H locs → lv_has ls 8 [(0, .ref (g.2.2.2 0)), (1, .int (i32 x1)), (2, .int (i32 x2)), (3, .int (i32 x3))] → W p l e rmX9_findFarthest s m args below meth c H locs 0 0 (QIR below args s g post) (F0 m 2 ls []) := by
  obtain ⟨⟨hx, hb, hml, hown, hts⟩, hr, hlk⟩ := id C
  intro n
  induction n with
  | zero =>
    intro x1 x2 x3 h1 h2 h3 M H locs ls hw
    exact hw.elim
  | succ n ih =>
    intro x1 x2 x3 h1 h2 h3 M H locs ls hw I hl
    refine lv_aload_n hx hb dX9_findFarthest_2 rfl (lv_at hl 0 rfl) ?_
    refine lv_iload_n hx hb dX9_findFarthest_3 rfl (lv_at hl 1 rfl) ?_
    refine lv_iload_n hx hb dX9_findFarthest_4 rfl (lv_at hl 2 rfl) ?_
    refine lv_iload_n hx hb dX9_findFarthest_5 rfl (lv_at hl 3 rfl) ?_
    refine g_callVi (o := 0) (As := [.int (i32 x1), .int (i32 x2), .int (i32 x3)]) (rest := []) ⟨hx, hb, hml, hown, hts⟩ I (mX9_fits l g x1 x2 x3 h1 h2 h3 M _ _ hw) (cwV 3 hts (gd_V wm_X9_176 wi_X9_fits wl_X9_fits wn_X9 wc_X9_fits) rfl rfl rfl wd_X9_fits ⟨Nat.le_of_ble_eq_true rfl, Nat.le_of_ble_eq_true rfl⟩) (by omega) (by omega) obR_0 rfl rfl hl.1 rfl (Nat.le_of_ble_eq_true rfl) dX9_findFarthest_6 ⟨Nat.zero_le _, Nat.zero_le _⟩ (fun r6_0 M6_0 H locs hr6_0 hw I => ?_)
    refine li_if_ne (tgt := 95) hx hb dX9_findFarthest_9 (by decide) hr6_0 (fun c_2 => ?_) (fun c_2 => ?_)
    · replace hw := hw.1 c_2
      refine lv_iload_n hx hb dX9_findFarthest_95 rfl (lv_at hl 3 rfl) ?_
      exact g_iret hx hb hr hlk I h3 hw dX9_findFarthest_96
    · replace hw := hw.2 c_2
      refine lv_ldc (v := i32 1000000000) hx hb hown (hts _ wk_X9_115) dX9_findFarthest_12 ?_
      refine lv_istore (lv' := [(4, .int (i32 1000000000)), (0, .ref (g.2.2.2 0)), (1, .int (i32 x1)), (2, .int (i32 x2)), (3, .int (i32 x3))]) hx hb dX9_findFarthest_14 hl (by decide) rfl (fun ls hl => ?_)
      refine li_iconst hx hb dX9_findFarthest_16 ?_
      refine lv_istore (lv' := [(5, .int (i32 0)), (4, .int (i32 1000000000)), (0, .ref (g.2.2.2 0)), (1, .int (i32 x1)), (2, .int (i32 x2)), (3, .int (i32 x3))]) hx hb dX9_findFarthest_17 hl (by decide) rfl (fun ls hl => ?_)
      obtain ⟨n1, hw⟩ := hw
      exact bX9_findFarthest_19 C post (fun y1 y2 y3 N => lpX9_findFarthest_2 post n y1 y2 y3 N) ih n1 x1 x2 x3 1000000000 0 h1 h2 h3 (by decide) (by decide) _ _ _ _ hw I (lv_sub hl [2, 3, 4, 5, 1, 0] rfl)
set_option maxRecDepth 100000 in
set_option maxHeartbeats 4000000 in
theorem mX9_findFarthest (l : Launch) (g : GP) (a1 a2 : Int) (ha1 : inR a1) (ha2 : inR a2) (M : Mem) (post : Int → Mem → Prop) (sz : Nat) (hw : wpX9_findFarthest a1 a2 M post) : MIR l yX9_findFarthest wtX9_findFarthest rmX9_findFarthest g [.ref (g.2.2.2 0), .int (i32 a1), .int (i32 a2)] M sz post := by
  refine Met.ofW (cc := cX9_findFarthest) (maxL := 8) (ret := (some .int)) (by decide) rfl ?_
  intro p e s m args below meth c s₁ B hml hv
  obtain ⟨rfl, hpre⟩ := hv
  have hsz := hpre.1
  subst hsz
  have C : Cx p m c cX9_findFarthest 8 s _ lw_g RX9 meth (some .int) := ⟨⟨B.exec, B.bytes, hml, findClass_of_methodNamed B.named, fun w h => atoms_spec (ws := wtX9_findFarthest) B.pre w (List.mem_cons_of_mem _ h)⟩, B.returns, B.notSynchronized⟩
  obtain ⟨⟨hx, hb, hml, hown, hts⟩, hr, hlk⟩ := id C
  have I := InG.start hpre
  have hl := lv_entry ([.ref (g.2.2.2 0), .int (i32 a1), .int (i32 a2)]) (n := 8) (Nat.le_of_ble_eq_true rfl)
  rw [lg_entry_eq]
  generalize (lg_sl ([.ref (g.2.2.2 0), .int (i32 a1), .int (i32 a2)]) ++ List.replicate (8 - (lg_sl ([.ref (g.2.2.2 0), .int (i32 a1), .int (i32 a2)])).length) Slot.unset).toArray = ls at hl ⊢
  have hl : lv_has ls 8 [(0, .ref (g.2.2.2 0)), (1, .int (i32 a1)), (2, .int (i32 a2))] := hl
  show W p l e rmX9_findFarthest s m _ below meth c s.heap [] 0 0 (QIR below _ s g post) _
  refine li_iconst hx hb dX9_findFarthest_0 ?_
  refine lv_istore_n (lv' := [(3, .int (i32 0)), (0, .ref (g.2.2.2 0)), (1, .int (i32 a1)), (2, .int (i32 a2))]) hx hb dX9_findFarthest_1 rfl hl (by decide) rfl (fun ls hl => ?_)
  obtain ⟨n1, hw⟩ := hw
  exact bX9_findFarthest_2 C post n1 a1 a2 0 ha1 ha2 (by decide) _ _ _ _ hw I (lv_sub hl [1, 2, 3, 0] rfl)
