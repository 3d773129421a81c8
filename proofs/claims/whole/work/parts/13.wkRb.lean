abbrev rmX9_isJoined : Room := { frames := 1, cells := 0, slots := 0, locals := 24 }
abbrev wtX9_isJoined : List Cond := Cond.code yX9_isJoined cX9_isJoined 3 (some .boolean) :: lw_g
set_option maxRecDepth 100000 in
set_option maxHeartbeats 4000000 in
theorem bX9_isJoined_36 {p : Program} {l : Launch} {e : Env} {s : State} {m : MethodId} {args : Array Value} {below : List Frame} {meth : Method} {c : Code} {g : GP} (C : Cx p m c cX9_isJoined 3 s args lw_g RX9 meth (some .boolean)) (post : Int → Mem → Prop) (k8 : Int → Int → Mem → Prop) (hk8 : ∀ (x1 x2 : Int), inR x1 → inR x2 → ∀ (M : Mem) (H : Heap) (locs : List Loc) (ls : Array Slot), k8 x1 x2 M → IR g s M H locs → lv_has ls 3 [(0, .ref (g.2.2.2 0)), (1, .int (i32 x1)), (2, .int (i32 x2))] → W p l e rmX9_isJoined s m args below meth c H locs 0 0 (QIR below args s g post) (F0 m 8 ls [])) : ∀ (x2 t0 : Int), inR x2 → inR t0 → ∀ (M : Mem) (H : Heap) (locs : List Loc) (ls : Array Slot), jbX9_isJoined_36 post k8 x2 t0 M → IR g s M H locs → lv_has ls 3 [(0, .ref (g.2.2.2 0)), (2, .int (i32 x2))] → W p l e rmX9_isJoined s m args below meth c H locs 0 0 (QIR below args s g post) (F0 m 36 ls [.int (i32 t0)]) := by
  obtain ⟨⟨hx, hb, hml, hown, hts⟩, hr, hlk⟩ := id C
  intro x2 t0 h2 ht0 M H locs ls hw I hl
  refine lv_istore_n (lv' := [(1, .int (i32 t0)), (0, .ref (g.2.2.2 0)), (2, .int (i32 x2))]) hx hb dX9_isJoined_36 rfl hl (by decide) rfl (fun ls hl => ?_)
  refine li_iinc (lv' := [(2, .int (i32 (x2 + 1))), (1, .int (i32 t0)), (0, .ref (g.2.2.2 0))]) hx hb dX9_isJoined_37 hl (k := 2) rfl (by decide) rfl (fun ls hl => ?_)
  refine lv_goto (tgt := 8) hx hb dX9_isJoined_40 (by decide) ?_
  obtain ⟨h_1, hw⟩ := hw
  exact hk8 t0 (x2 + 1) ht0 h_1 _ _ _ _ hw I (lv_sub hl [2, 1, 0] rfl)
set_option maxRecDepth 100000 in
set_option maxHeartbeats 4000000 in
theorem bX9_isJoined_35 {p : Program} {l : Launch} {e : Env} {s : State} {m : MethodId} {args : Array Value} {below : List Frame} {meth : Method} {c : Code} {g : GP} (C : Cx p m c cX9_isJoined 3 s args lw_g RX9 meth (some .boolean)) (post : Int → Mem → Prop) (k8 : Int → Int → Mem → Prop) (hk8 : ∀ (x1 x2 : Int), inR x1 → inR x2 → ∀ (M : Mem) (H : Heap) (locs : List Loc) (ls : Array Slot), k8 x1 x2 M → IR g s M H locs → lv_has ls 3 [(0, .ref (g.2.2.2 0)), (1, .int (i32 x1)), (2, .int (i32 x2))] → W p l e rmX9_isJoined s m args below meth c H locs 0 0 (QIR below args s g post) (F0 m 8 ls [])) : ∀ (x2 : Int), inR x2 → ∀ (M : Mem) (H : Heap) (locs : List Loc) (ls : Array Slot), jbX9_isJoined_35 post k8 x2 M → IR g s M H locs → lv_has ls 3 [(0, .ref (g.2.2.2 0)), (2, .int (i32 x2))] → W p l e rmX9_isJoined s m args below meth c H locs 0 0 (QIR below args s g post) (F0 m 35 ls []) := by
  obtain ⟨⟨hx, hb, hml, hown, hts⟩, hr, hlk⟩ := id C
  intro x2 h2 M H locs ls hw I hl
  refine li_iconst hx hb dX9_isJoined_35 ?_
  exact bX9_isJoined_36 C post k8 hk8 x2 0 h2 (by decide) _ _ _ _ hw I (lv_sub hl [0, 1] rfl)
set_option maxRecDepth 100000 in
set_option maxHeartbeats 4000000 in
theorem bX9_isJoined_8 {p : Program} {l : Launch} {e : Env} {s : State} {m : MethodId} {args : Array Value} {below : List Frame} {meth : Method} {c : Code} {g : GP} (C : Cx p m c cX9_isJoined 3 s args lw_g RX9 meth (some .boolean)) (post : Int → Mem → Prop) : ∀ (n : Nat), ∀ (x1 x2 : Int), inR x1 → inR x2 → ∀ (M : Mem) (H : Heap) (locs : List Loc) (ls : Array Slot), lpX9_isJoined_8 post n x1 x2 M → IR g s M H locs → lv_has ls 3 [(0, .ref (g.2.2.2 0)), (1, .int (i32 x1)), (2, .int (i32 x2))] → W p l e rmX9_isJoined s m args below meth c H locs 0 0 (QIR below args s g post) (F0 m 8 ls []) := by
  obtain ⟨⟨hx, hb, hml, hown, hts⟩, hr, hlk⟩ := id C
  intro n
  induction n with
  | zero =>
    intro x1 x2 h1 h2 M H locs ls hw
    exact hw.elim
  | succ n ih =>
    intro x1 x2 h1 h2 M H locs ls hw I hl
    refine lv_iload_n hx hb dX9_isJoined_8 rfl (lv_at hl 2 rfl) ?_
    refine lv_aload_n hx hb dX9_isJoined_9 rfl (lv_at hl 0 rfl) ?_
    refine rg_0_0 hx hb hts wu_X9 hown I wf_X9_86 dX9_isJoined_10 ?_
    have h_1 := I.rng 0 0
    refine li_icmp_ge (tgt := 43) hx hb dX9_isJoined_13 (by decide) h2 h_1 (fun c_2 => ?_) (fun c_2 => ?_)
    · replace hw := hw.1 c_2
      refine lv_iload_n hx hb dX9_isJoined_43 rfl (lv_at hl 1 rfl) ?_
      obtain ⟨h_3, hw⟩ := hw
      exact g_zret hx hb hr hlk I h_3 hw dX9_isJoined_44
    · replace hw := hw.2 c_2
      refine lv_iload_n hx hb dX9_isJoined_16 rfl (lv_at hl 1 rfl) ?_
      refine li_if_eq (tgt := 35) hx hb dX9_isJoined_17 (by decide) h1 (fun c_4 => ?_) (fun c_4 => ?_)
      · replace hw := hw.1 c_4
        exact bX9_isJoined_35 C post (fun y1 y2 N => lpX9_isJoined_8 post n y1 y2 N) ih x2 h2 _ _ _ _ hw I (lv_sub hl [0, 2] rfl)
      · replace hw := hw.2 c_4
        refine lv_aload_n hx hb dX9_isJoined_20 rfl (lv_at hl 0 rfl) ?_
        refine rg_0_14 hx hb hts wu_X9 hown I wf_X9_37 dX9_isJoined_21 ?_
        refine lv_iload_n hx hb dX9_isJoined_24 rfl (lv_at hl 2 rfl) ?_
        obtain ⟨h_5, hw⟩ := hw
        refine r_iald hx hb I 10 lenR_10 (by decide) h_5 dX9_isJoined_25 ?_
        have h_6 := I.rng 10 x2
        refine lv_ldc (v := i32 1000000000) hx hb hown (hts _ wk_X9_115) dX9_isJoined_26 ?_
        refine li_icmp_ge (tgt := 35) hx hb dX9_isJoined_28 (by decide) h_6 (by decide) (fun c_7 => ?_) (fun c_7 => ?_)
        · replace hw := hw.1 c_7
          exact bX9_isJoined_35 C post (fun y1 y2 N => lpX9_isJoined_8 post n y1 y2 N) ih x2 h2 _ _ _ _ hw I (lv_sub hl [0, 2] rfl)
        · replace hw := hw.2 c_7
          refine li_iconst hx hb dX9_isJoined_31 ?_
          refine lv_goto (tgt := 36) hx hb dX9_isJoined_32 (by decide) ?_
          exact bX9_isJoined_36 C post (fun y1 y2 N => lpX9_isJoined_8 post n y1 y2 N) ih x2 1 h2 (by decide) _ _ _ _ hw I (lv_sub hl [0, 2] rfl)
set_option maxRecDepth 100000 in
set_option maxHeartbeats 4000000 in
theorem mX9_isJoined (l : Launch) (g : GP) (M : Mem) (post : Int → Mem → Prop) (sz : Nat) (hw : wpX9_isJoined M post) : MIR l yX9_isJoined wtX9_isJoined rmX9_isJoined g [.ref (g.2.2.2 0)] M sz post := by
  refine Met.ofW (cc := cX9_isJoined) (maxL := 3) (ret := (some .boolean)) (by decide) rfl ?_
  intro p e s m args below meth c s₁ B hml hv
  obtain ⟨rfl, hpre⟩ := hv
  have hsz := hpre.1
  subst hsz
  have C : Cx p m c cX9_isJoined 3 s _ lw_g RX9 meth (some .boolean) := ⟨⟨B.exec, B.bytes, hml, findClass_of_methodNamed B.named, fun w h => atoms_spec (ws := wtX9_isJoined) B.pre w (List.mem_cons_of_mem _ h)⟩, B.returns, B.notSynchronized⟩
  obtain ⟨⟨hx, hb, hml, hown, hts⟩, hr, hlk⟩ := id C
  have I := InG.start hpre
  have hl := lv_entry ([.ref (g.2.2.2 0)]) (n := 3) (Nat.le_of_ble_eq_true rfl)
  rw [lg_entry_eq]
  generalize (lg_sl ([.ref (g.2.2.2 0)]) ++ List.replicate (3 - (lg_sl ([.ref (g.2.2.2 0)])).length) Slot.unset).toArray = ls at hl ⊢
  have hl : lv_has ls 3 [(0, .ref (g.2.2.2 0))] := hl
  show W p l e rmX9_isJoined s m _ below meth c s.heap [] 0 0 (QIR below _ s g post) _
  refine lv_aload_n hx hb dX9_isJoined_0 rfl (lv_at hl 0 rfl) ?_
  refine g_callVv (o := 0) (As := []) (rest := []) ⟨hx, hb, hml, hown, hts⟩ I (mX9_findFar l g M _ _ hw) (cwV 0 hts (gd_V wm_X9_116 wi_X9_findFar wl_X9_findFar wn_X9 wc_X9_findFar) rfl rfl rfl wd_X9_findFar ⟨Nat.le_of_ble_eq_true rfl, Nat.le_of_ble_eq_true rfl⟩) (by omega) (by omega) obR_0 rfl rfl hl.1 rfl (Nat.le_of_ble_eq_true rfl) dX9_isJoined_1 ⟨Nat.zero_le _, Nat.zero_le _⟩ (fun M1_0 H locs hw I => ?_)
  refine li_iconst hx hb dX9_isJoined_4 ?_
  refine lv_istore_n (lv' := [(1, .int (i32 1)), (0, .ref (g.2.2.2 0))]) hx hb dX9_isJoined_5 rfl hl (by decide) rfl (fun ls hl => ?_)
  refine li_iconst hx hb dX9_isJoined_6 ?_
  refine lv_istore_n (lv' := [(2, .int (i32 0)), (1, .int (i32 1)), (0, .ref (g.2.2.2 0))]) hx hb dX9_isJoined_7 rfl hl (by decide) rfl (fun ls hl => ?_)
  obtain ⟨n1, hw⟩ := hw
  exact bX9_isJoined_8 C post n1 1 0 (by decide) (by decide) _ _ _ _ hw I (lv_sub hl [2, 1, 0] rfl)
abbrev rmX9_apart : Room := { frames := 2, cells := 0, slots := 0, locals := 43 }
abbrev wtX9_apart : List Cond := Cond.code yX9_apart cX9_apart 3 (some .int) :: lw_g
set_option maxRecDepth 100000 in
set_option maxHeartbeats 4000000 in
theorem bX9_apart_16 {p : Program} {l : Launch} {e : Env} {s : State} {m : MethodId} {args : Array Value} {below : List Frame} {meth : Method} {c : Code} {g : GP} (C : Cx p m c cX9_apart 3 s args lw_g RX9 meth (some .int)) (post : Int → Mem → Prop) : ∀ (M : Mem) (H : Heap) (locs : List Loc) (ls : Array Slot), jbX9_apart_16 post  M → IR g s M H locs → lv_has ls 3 [(0, .ref (g.2.2.2 0))] → W p l e rmX9_apart s m args below meth c H locs 0 0 (QIR below args s g post) (F0 m 16 ls []) := by
  obtain ⟨⟨hx, hb, hml, hown, hts⟩, hr, hlk⟩ := id C
  intro M H locs ls hw I hl
  refine lv_bipush (v := i32 (-2)) hx hb dX9_apart_16 (by decide) ?_
  exact g_iret hx hb hr hlk I (by decide) hw dX9_apart_18
set_option maxRecDepth 100000 in
set_option maxHeartbeats 4000000 in
theorem bX9_apart_54 {p : Program} {l : Launch} {e : Env} {s : State} {m : MethodId} {args : Array Value} {below : List Frame} {meth : Method} {c : Code} {g : GP} (C : Cx p m c cX9_apart 3 s args lw_g RX9 meth (some .int)) (post : Int → Mem → Prop) : ∀ (t0 : Int), inR t0 → ∀ (M : Mem) (H : Heap) (locs : List Loc) (ls : Array Slot), jbX9_apart_54 post t0 M → IR g s M H locs → lv_has ls 3 [(0, .ref (g.2.2.2 0))] → W p l e rmX9_apart s m args below meth c H locs 0 0 (QIR below args s g post) (F0 m 54 ls [.int (i32 t0)]) := by
  obtain ⟨⟨hx, hb, hml, hown, hts⟩, hr, hlk⟩ := id C
  intro t0 ht0 M H locs ls hw I hl
  exact g_iret hx hb hr hlk I ht0 hw dX9_apart_54
set_option maxRecDepth 100000 in
set_option maxHeartbeats 4000000 in
theorem mX9_apart (l : Launch) (g : GP) (a1 a2 : Int) (ha1 : inR a1) (ha2 : inR a2) (M : Mem) (post : Int → Mem → Prop) (sz : Nat) (hw : wpX9_apart a1 a2 M post) : MIR l yX9_apart wtX9_apart rmX9_apart g [.ref (g.2.2.2 0), .int (i32 a1), .int (i32 a2)] M sz post := by
  refine Met.ofW (cc := cX9_apart) (maxL := 3) (ret := (some .int)) (by decide) rfl ?_
  intro p e s m args below meth c s₁ B hml hv
  obtain ⟨rfl, hpre⟩ := hv
  have hsz := hpre.1
  subst hsz
  have C : Cx p m c cX9_apart 3 s _ lw_g RX9 meth (some .int) := ⟨⟨B.exec, B.bytes, hml, findClass_of_methodNamed B.named, fun w h => atoms_spec (ws := wtX9_apart) B.pre w (List.mem_cons_of_mem _ h)⟩, B.returns, B.notSynchronized⟩
  obtain ⟨⟨hx, hb, hml, hown, hts⟩, hr, hlk⟩ := id C
  have I := InG.start hpre
  have hl := lv_entry ([.ref (g.2.2.2 0), .int (i32 a1), .int (i32 a2)]) (n := 3) (Nat.le_of_ble_eq_true rfl)
  rw [lg_entry_eq]
  generalize (lg_sl ([.ref (g.2.2.2 0), .int (i32 a1), .int (i32 a2)]) ++ List.replicate (3 - (lg_sl ([.ref (g.2.2.2 0), .int (i32 a1), .int (i32 a2)])).length) Slot.unset).toArray = ls at hl ⊢
  have hl : lv_has ls 3 [(0, .ref (g.2.2.2 0)), (1, .int (i32 a1)), (2, .int (i32 a2))] := hl
  show W p l e rmX9_apart s m _ below meth c s.heap [] 0 0 (QIR below _ s g post) _
  refine lv_aload_n hx hb dX9_apart_0 rfl (lv_at hl 0 rfl) ?_
  refine lv_iload_n hx hb dX9_apart_1 rfl (lv_at hl 1 rfl) ?_
  refine g_callVi (o := 0) (As := [.int (i32 a1)]) (rest := []) ⟨hx, hb, hml, hown, hts⟩ I (mX9_isPlace l g a1 ha1 M _ _ hw) (cwV 1 hts (gd_V wm_X9_104 wi_X9_isPlace wl_X9_isPlace wn_X9 wc_X9_isPlace) rfl rfl rfl wd_X9_isPlace ⟨Nat.le_of_ble_eq_true rfl, Nat.le_of_ble_eq_true rfl⟩) (by omega) (by omega) obR_0 rfl rfl hl.1 rfl (Nat.le_of_ble_eq_true rfl) dX9_apart_2 ⟨Nat.zero_le _, Nat.zero_le _⟩ (fun r2_0 M2_0 H locs hr2_0 hw I => ?_)
  refine li_if_eq (tgt := 16) hx hb dX9_apart_5 (by decide) hr2_0 (fun c_2 => ?_) (fun c_2 => ?_)
  · replace hw := hw.1 c_2
    exact bX9_apart_16 C post _ _ _ _ hw I (lv_sub hl [0] rfl)
  · replace hw := hw.2 c_2
    refine lv_aload_n hx hb dX9_apart_8 rfl (lv_at hl 0 rfl) ?_
    refine lv_iload_n hx hb dX9_apart_9 rfl (lv_at hl 2 rfl) ?_
    refine g_callVi (o := 0) (As := [.int (i32 a2)]) (rest := []) ⟨hx, hb, hml, hown, hts⟩ I (mX9_isPlace l g a2 ha2 M2_0 _ _ hw) (cwV 1 hts (gd_V wm_X9_104 wi_X9_isPlace wl_X9_isPlace wn_X9 wc_X9_isPlace) rfl rfl rfl wd_X9_isPlace ⟨Nat.le_of_ble_eq_true rfl, Nat.le_of_ble_eq_true rfl⟩) (by omega) (by omega) obR_0 rfl rfl hl.1 rfl (Nat.le_of_ble_eq_true rfl) dX9_apart_10 ⟨Nat.zero_le _, Nat.zero_le _⟩ (fun r10_2 M10_2 H locs hr10_2 hw I => ?_)
    refine li_if_ne (tgt := 19) hx hb dX9_apart_13 (by decide) hr10_2 (fun c_4 => ?_) (fun c_4 => ?_)
    · replace hw := hw.1 c_4
      refine lv_aload_n hx hb dX9_apart_19 rfl (lv_at hl 0 rfl) ?_
      refine g_callVv (o := 0) (As := []) (rest := []) ⟨hx, hb, hml, hown, hts⟩ I (mX9_findFar l g M10_2 _ _ hw) (cwV 0 hts (gd_V wm_X9_116 wi_X9_findFar wl_X9_findFar wn_X9 wc_X9_findFar) rfl rfl rfl wd_X9_findFar ⟨Nat.le_of_ble_eq_true rfl, Nat.le_of_ble_eq_true rfl⟩) (by omega) (by omega) obR_0 rfl rfl hl.1 rfl (Nat.le_of_ble_eq_true rfl) dX9_apart_20 ⟨Nat.zero_le _, Nat.zero_le _⟩ (fun M20_4 H locs hw I => ?_)
      refine lv_aload_n hx hb dX9_apart_23 rfl (lv_at hl 0 rfl) ?_
      refine rg_0_14 hx hb hts wu_X9 hown I wf_X9_37 dX9_apart_24 ?_
      refine lv_bipush (v := i32 10) hx hb dX9_apart_27 (by decide) ?_
      refine lv_iload_n hx hb dX9_apart_29 rfl (lv_at hl 1 rfl) ?_
      refine li_imul hx hb dX9_apart_30 ?_
      refine lv_iload_n hx hb dX9_apart_31 rfl (lv_at hl 2 rfl) ?_
      refine li_iadd hx hb dX9_apart_32 ?_
      obtain ⟨h_6, hw⟩ := hw
      refine r_iald hx hb I 10 lenR_10 (by decide) h_6 dX9_apart_33 ?_
      have h_7 := I.rng 10 ((10 * a1) + a2)
      refine lv_ldc (v := i32 1000000000) hx hb hown (hts _ wk_X9_115) dX9_apart_34 ?_
      refine li_icmp_lt (tgt := 43) hx hb dX9_apart_36 (by decide) h_7 (by decide) (fun c_8 => ?_) (fun c_8 => ?_)
      · replace hw := hw.1 c_8
        refine lv_aload_n hx hb dX9_apart_43 rfl (lv_at hl 0 rfl) ?_
        refine rg_0_14 hx hb hts wu_X9 hown I wf_X9_37 dX9_apart_44 ?_
        refine lv_bipush (v := i32 10) hx hb dX9_apart_47 (by decide) ?_
        refine lv_iload_n hx hb dX9_apart_49 rfl (lv_at hl 1 rfl) ?_
        refine li_imul hx hb dX9_apart_50 ?_
        refine lv_iload_n hx hb dX9_apart_51 rfl (lv_at hl 2 rfl) ?_
        refine li_iadd hx hb dX9_apart_52 ?_
        obtain ⟨h_9, hw⟩ := hw
        refine r_iald hx hb I 10 lenR_10 (by decide) h_9 dX9_apart_53 ?_
        have h_10 := I.rng 10 ((10 * a1) + a2)
        exact bX9_apart_54 C post (M20_4 10 ((10 * a1) + a2)) h_10 _ _ _ _ hw I (lv_sub hl [0] rfl)
      · replace hw := hw.2 c_8
        refine li_iconst hx hb dX9_apart_39 ?_
        refine lv_goto (tgt := 54) hx hb dX9_apart_40 (by decide) ?_
        exact bX9_apart_54 C post (-1) (by decide) _ _ _ _ hw I (lv_sub hl [0] rfl)
    · replace hw := hw.2 c_4
      exact bX9_apart_16 C post _ _ _ _ hw I (lv_sub hl [0] rfl)
abbrev rmX9_nextTo : Room := { frames := 0, cells := 0, slots := 0, locals := 0 }
abbrev wtX9_nextTo : List Cond := Cond.code yX9_nextTo cX9_nextTo 7 (some .int) :: lw_g
set_option maxRecDepth 100000 in
set_option maxHeartbeats 4000000 in
theorem bX9_nextTo_157 {p : Program} {l : Launch} {e : Env} {s : State} {m : MethodId} {args : Array Value} {below : List Frame} {meth : Method} {c : Code} {g : GP} (C : Cx p m c cX9_nextTo 7 s args lw_g RX9 meth (some .int)) (post : Int → Mem → Prop) : ∀ (x3 : Int), inR x3 → ∀ (M : Mem) (H : Heap) (locs : List Loc) (ls : Array Slot), jbX9_nextTo_157 post x3 M → IR g s M H locs → lv_has ls 7 [(0, .ref (g.2.2.2 0)), (3, .int (i32 x3))] → W p l e rmX9_nextTo s m args below meth c H locs 0 0 (QIR below args s g post) (F0 m 157 ls []) := by
  obtain ⟨⟨hx, hb, hml, hown, hts⟩, hr, hlk⟩ := id C
  intro x3 h3 M H locs ls hw I hl
  refine lv_iload_n hx hb dX9_nextTo_157 rfl (lv_at hl 1 rfl) ?_
  exact g_iret hx hb hr hlk I h3 hw dX9_nextTo_158
set_option maxRecDepth 100000 in
set_option maxHeartbeats 4000000 in
theorem bX9_nextTo_150 {p : Program} {l : Launch} {e : Env} {s : State} {m : MethodId} {args : Array Value} {below : List Frame} {meth : Method} {c : Code} {g : GP} (C : Cx p m c cX9_nextTo 7 s args lw_g RX9 meth (some .int)) (post : Int → Mem → Prop) (k5 : Int → Int → Int → Int → Mem → Prop) (hk5 : ∀ (x1 x2 x3 x4 : Int), inR x1 → inR x2 → inR x3 → inR x4 → ∀ (M : Mem) (H : Heap) (locs : List Loc) (ls : Array Slot), k5 x1 x2 x3 x4 M → IR g s M H locs → lv_has ls 7 [(0, .ref (g.2.2.2 0)), (1, .int (i32 x1)), (2, .int (i32 x2)), (3, .int (i32 x3)), (4, .int (i32 x4))] → W p l e rmX9_nextTo s m args below meth c H locs 0 0 (QIR below args s g post) (F0 m 5 ls [])) : ∀ (x1 x2 x4 t0 : Int), inR x1 → inR x2 → inR x4 → inR t0 → ∀ (M : Mem) (H : Heap) (locs : List Loc) (ls : Array Slot), jbX9_nextTo_150 post k5 x1 x2 x4 t0 M → IR g s M H locs → lv_has ls 7 [(0, .ref (g.2.2.2 0)), (1, .int (i32 x1)), (2, .int (i32 x2)), (4, .int (i32 x4))] → W p l e rmX9_nextTo s m args below meth c H locs 0 0 (QIR below args s g post) (F0 m 150 ls [.int (i32 t0)]) := by
  obtain ⟨⟨hx, hb, hml, hown, hts⟩, hr, hlk⟩ := id C
  intro x1 x2 x4 t0 h1 h2 h4 ht0 M H locs ls hw I hl
  refine lv_istore_n (lv' := [(3, .int (i32 t0)), (0, .ref (g.2.2.2 0)), (1, .int (i32 x1)), (2, .int (i32 x2)), (4, .int (i32 x4))]) hx hb dX9_nextTo_150 rfl hl (by decide) rfl (fun ls hl => ?_)
  refine li_iinc (lv' := [(4, .int (i32 (x4 + 1))), (3, .int (i32 t0)), (0, .ref (g.2.2.2 0)), (1, .int (i32 x1)), (2, .int (i32 x2))]) hx hb dX9_nextTo_151 hl (k := 4) rfl (by decide) rfl (fun ls hl => ?_)
  refine lv_goto (tgt := 5) hx hb dX9_nextTo_154 (by decide) ?_
  obtain ⟨h_1, hw⟩ := hw
  exact hk5 x1 x2 t0 (x4 + 1) h1 h2 ht0 h_1 _ _ _ _ hw I (lv_sub hl [2, 3, 4, 1, 0] rfl)
set_option maxRecDepth 100000 in
set_option maxHeartbeats 4000000 in
theorem bX9_nextTo_149 {p : Program} {l : Launch} {e : Env} {s : State} {m : MethodId} {args : Array Value} {below : List Frame} {meth : Method} {c : Code} {g : GP} (C : Cx p m c cX9_nextTo 7 s args lw_g RX9 meth (some .int)) (post : Int → Mem → Prop) (k5 : Int → Int → Int → Int → Mem → Prop) (hk5 : ∀ (x1 x2 x3 x4 : Int), inR x1 → inR x2 → inR x3 → inR x4 → ∀ (M : Mem) (H : Heap) (locs : List Loc) (ls : Array Slot), k5 x1 x2 x3 x4 M → IR g s M H locs → lv_has ls 7 [(0, .ref (g.2.2.2 0)), (1, .int (i32 x1)), (2, .int (i32 x2)), (3, .int (i32 x3)), (4, .int (i32 x4))] → W p l e rmX9_nextTo s m args below meth c H locs 0 0 (QIR below args s g post) (F0 m 5 ls [])) : ∀ (x1 x2 x3 x4 : Int), inR x1 → inR x2 → inR x3 → inR x4 → ∀ (M : Mem) (H : Heap) (locs : List Loc) (ls : Array Slot), jbX9_nextTo_149 post k5 x1 x2 x3 x4 M → IR g s M H locs → lv_has ls 7 [(0, .ref (g.2.2.2 0)), (1, .int (i32 x1)), (2, .int (i32 x2)), (3, .int (i32 x3)), (4, .int (i32 x4))] → W p l e rmX9_nextTo s m args below meth c H locs 0 0 (QIR below args s g post) (F0 m 149 ls []) := by
  obtain ⟨⟨hx, hb, hml, hown, hts⟩, hr, hlk⟩ := id C
  intro x1 x2 x3 x4 h1 h2 h3 h4 M H locs ls hw I hl
  refine lv_iload_n hx hb dX9_nextTo_149 rfl (lv_at hl 3 rfl) ?_
  exact bX9_nextTo_150 C post k5 hk5 x1 x2 x4 x3 h1 h2 h4 h3 _ _ _ _ hw I (lv_sub hl [0, 1, 2, 4] rfl)
set_option maxRecDepth 100000 in
set_option maxHeartbeats 4000000 in
theorem bX9_nextTo_144 {p : Program} {l : Launch} {e : Env} {s : State} {m : MethodId} {args : Array Value} {below : List Frame} {meth : Method} {c : Code} {g : GP} (C : Cx p m c cX9_nextTo 7 s args lw_g RX9 meth (some .int)) (post : Int → Mem → Prop) (k5 : Int → Int → Int → Int → Mem → Prop) (hk5 : ∀ (x1 x2 x3 x4 : Int), inR x1 → inR x2 → inR x3 → inR x4 → ∀ (M : Mem) (H : Heap) (locs : List Loc) (ls : Array Slot), k5 x1 x2 x3 x4 M → IR g s M H locs → lv_has ls 7 [(0, .ref (g.2.2.2 0)), (1, .int (i32 x1)), (2, .int (i32 x2)), (3, .int (i32 x3)), (4, .int (i32 x4))] → W p l e rmX9_nextTo s m args below meth c H locs 0 0 (QIR below args s g post) (F0 m 5 ls [])) : ∀ (x1 x2 x4 x5 : Int), inR x1 → inR x2 → inR x4 → inR x5 → ∀ (M : Mem) (H : Heap) (locs : List Loc) (ls : Array Slot), jbX9_nextTo_144 post k5 x1 x2 x4 x5 M → IR g s M H locs → lv_has ls 7 [(0, .ref (g.2.2.2 0)), (1, .int (i32 x1)), (2, .int (i32 x2)), (4, .int (i32 x4)), (5, .int (i32 x5))] → W p l e rmX9_nextTo s m args below meth c H locs 0 0 (QIR below args s g post) (F0 m 144 ls []) := by
  obtain ⟨⟨hx, hb, hml, hown, hts⟩, hr, hlk⟩ := id C
  intro x1 x2 x4 x5 h1 h2 h4 h5 M H locs ls hw I hl
  refine lv_iload hx hb dX9_nextTo_144 (lv_at hl 4 rfl) ?_
  refine lv_goto (tgt := 150) hx hb dX9_nextTo_146 (by decide) ?_
  exact bX9_nextTo_150 C post k5 hk5 x1 x2 x4 x5 h1 h2 h4 h5 _ _ _ _ hw I (lv_sub hl [0, 1, 2, 3] rfl)
set_option maxRecDepth 100000 in
set_option maxHeartbeats 4000000 in
theorem bX9_nextTo_126 {p : Program} {l : Launch} {e : Env} {s : State} {m : MethodId} {args : Array Value} {below : List Frame} {meth : Method} {c : Code} {g : GP} (C : Cx p m c cX9_nextTo 7 s args lw_g RX9 meth (some .int)) (post : Int → Mem → Prop) (k5 : Int → Int → Int → Int → Mem → Prop) (hk5 : ∀ (x1 x2 x3 x4 : Int), inR x1 → inR x2 → inR x3 → inR x4 → ∀ (M : Mem) (H : Heap) (locs : List Loc) (ls : Array Slot), k5 x1 x2 x3 x4 M → IR g s M H locs → lv_has ls 7 [(0, .ref (g.2.2.2 0)), (1, .int (i32 x1)), (2, .int (i32 x2)), (3, .int (i32 x3)), (4, .int (i32 x4))] → W p l e rmX9_nextTo s m args below meth c H locs 0 0 (QIR below args s g post) (F0 m 5 ls [])) : ∀ (x1 x2 x3 x4 x5 t0 : Int), inR x1 → inR x2 → inR x3 → inR x4 → inR x5 → inR t0 → ∀ (M : Mem) (H : Heap) (locs : List Loc) (ls : Array Slot), jbX9_nextTo_126 post k5 x1 x2 x3 x4 x5 t0 M → IR g s M H locs → lv_has ls 7 [(0, .ref (g.2.2.2 0)), (1, .int (i32 x1)), (2, .int (i32 x2)), (3, .int (i32 x3)), (4, .int (i32 x4)), (5, .int (i32 x5))] → W p l e rmX9_nextTo s m args below meth c H locs 0 0 (QIR below args s g post) (F0 m 126 ls [.int (i32 t0)]) := by
  obtain ⟨⟨hx, hb, hml, hown, hts⟩, hr, hlk⟩ := id C
  intro x1 x2 x3 x4 x5 t0 h1 h2 h3 h4 h5 ht0 M H locs ls hw I hl
  refine lv_istore (lv' := [(6, .int (i32 t0)), (0, .ref (g.2.2.2 0)), (1, .int (i32 x1)), (2, .int (i32 x2)), (3, .int (i32 x3)), (4, .int (i32 x4)), (5, .int (i32 x5))]) hx hb dX9_nextTo_126 hl (by decide) rfl (fun ls hl => ?_)
  refine lv_iload hx hb dX9_nextTo_128 (lv_at hl 0 rfl) ?_
  refine li_if_eq (tgt := 149) hx hb dX9_nextTo_130 (by decide) ht0 (fun c_1 => ?_) (fun c_1 => ?_)
  · replace hw := hw.1 c_1
    exact bX9_nextTo_149 C post k5 hk5 x1 x2 x3 x4 h1 h2 h3 h4 _ _ _ _ hw I (lv_sub hl [1, 2, 3, 4, 5] rfl)
  · replace hw := hw.2 c_1
    refine lv_iload_n hx hb dX9_nextTo_133 rfl (lv_at hl 4 rfl) ?_
    refine li_iconst hx hb dX9_nextTo_134 ?_
    refine li_icmp_eq (tgt := 144) hx hb dX9_nextTo_135 (by decide) h3 (by decide) (fun c_2 => ?_) (fun c_2 => ?_)
    · replace hw := hw.1 c_2
      exact bX9_nextTo_144 C post k5 hk5 x1 x2 x4 x5 h1 h2 h4 h5 _ _ _ _ hw I (lv_sub hl [1, 2, 3, 5, 6] rfl)
    · replace hw := hw.2 c_2
      refine lv_iload hx hb dX9_nextTo_138 (lv_at hl 6 rfl) ?_
      refine lv_iload_n hx hb dX9_nextTo_140 rfl (lv_at hl 4 rfl) ?_
      refine li_icmp_ge (tgt := 149) hx hb dX9_nextTo_141 (by decide) h5 h3 (fun c_3 => ?_) (fun c_3 => ?_)
      · replace hw := hw.1 c_3
        exact bX9_nextTo_149 C post k5 hk5 x1 x2 x3 x4 h1 h2 h3 h4 _ _ _ _ hw I (lv_sub hl [1, 2, 3, 4, 5] rfl)
      · replace hw := hw.2 c_3
        exact bX9_nextTo_144 C post k5 hk5 x1 x2 x4 x5 h1 h2 h4 h5 _ _ _ _ hw I (lv_sub hl [1, 2, 3, 5, 6] rfl)
set_option maxRecDepth 100000 in
set_option maxHeartbeats 4000000 in
theorem bX9_nextTo_125 {p : Program} {l : Launch} {e : Env} {s : State} {m : MethodId} {args : Array Value} {below : List Frame} {meth : Method} {c : Code} {g : GP} (C : Cx p m c cX9_nextTo 7 s args lw_g RX9 meth (some .int)) (post : Int → Mem → Prop) (k5 : Int → Int → Int → Int → Mem → Prop) (hk5 : ∀ (x1 x2 x3 x4 : Int), inR x1 → inR x2 → inR x3 → inR x4 → ∀ (M : Mem) (H : Heap) (locs : List Loc) (ls : Array Slot), k5 x1 x2 x3 x4 M → IR g s M H locs → lv_has ls 7 [(0, .ref (g.2.2.2 0)), (1, .int (i32 x1)), (2, .int (i32 x2)), (3, .int (i32 x3)), (4, .int (i32 x4))] → W p l e rmX9_nextTo s m args below meth c H locs 0 0 (QIR below args s g post) (F0 m 5 ls [])) : ∀ (x1 x2 x3 x4 x5 : Int), inR x1 → inR x2 → inR x3 → inR x4 → inR x5 → ∀ (M : Mem) (H : Heap) (locs : List Loc) (ls : Array Slot), jbX9_nextTo_125 post k5 x1 x2 x3 x4 x5 M → IR g s M H locs → lv_has ls 7 [(0, .ref (g.2.2.2 0)), (1, .int (i32 x1)), (2, .int (i32 x2)), (3, .int (i32 x3)), (4, .int (i32 x4)), (5, .int (i32 x5))] → W p l e rmX9_nextTo s m args below meth c H locs 0 0 (QIR below args s g post) (F0 m 125 ls []) := by
  obtain ⟨⟨hx, hb, hml, hown, hts⟩, hr, hlk⟩ := id C
  intro x1 x2 x3 x4 x5 h1 h2 h3 h4 h5 M H locs ls hw I hl
  refine li_iconst hx hb dX9_nextTo_125 ?_
  exact bX9_nextTo_126 C post k5 hk5 x1 x2 x3 x4 x5 0 h1 h2 h3 h4 h5 (by decide) _ _ _ _ hw I (lv_sub hl [0, 1, 2, 3, 4, 5] rfl)
set_option maxRecDepth 100000 in
set_option maxHeartbeats 4000000 in
theorem bX9_nextTo_62 {p : Program} {l : Launch} {e : Env} {s : State} {m : MethodId} {args : Array Value} {below : List Frame} {meth : Method} {c : Code} {g : GP} (C : Cx p m c cX9_nextTo 7 s args lw_g RX9 meth (some .int)) (post : Int → Mem → Prop) (k5 : Int → Int → Int → Int → Mem → Prop) (hk5 : ∀ (x1 x2 x3 x4 : Int), inR x1 → inR x2 → inR x3 → inR x4 → ∀ (M : Mem) (H : Heap) (locs : List Loc) (ls : Array Slot), k5 x1 x2 x3 x4 M → IR g s M H locs → lv_has ls 7 [(0, .ref (g.2.2.2 0)), (1, .int (i32 x1)), (2, .int (i32 x2)), (3, .int (i32 x3)), (4, .int (i32 x4))] → W p l e rmX9_nextTo s m args below meth c H locs 0 0 (QIR below args s g post) (F0 m 5 ls [])) : ∀ (x1 x2 x3 x4 t0 : Int), inR x1 → inR x2 → inR x3 → inR x4 → inR t0 → ∀ (M : Mem) (H : Heap) (locs : List Loc) (ls : Array Slot), jbX9_nextTo_62 post k5 x1 x2 x3 x4 t0 M → IR g s M H locs → lv_has ls 7 [(0, .ref (g.2.2.2 0)), (1, .int (i32 x1)), (2, .int (i32 x2)), (3, .int (i32 x3)), (4, .int (i32 x4))] → W p l e rmX9_nextTo s m args below meth c H locs 0 0 (QIR below args s g post) (F0 m 62 ls [.int (i32 t0)]) := by
  obtain ⟨⟨hx, hb, hml, hown, hts⟩, hr, hlk⟩ := id C
  intro x1 x2 x3 x4 t0 h1 h2 h3 h4 ht0 M H locs ls hw I hl
  refine lv_istore (lv' := [(5, .int (i32 t0)), (0, .ref (g.2.2.2 0)), (1, .int (i32 x1)), (2, .int (i32 x2)), (3, .int (i32 x3)), (4, .int (i32 x4))]) hx hb dX9_nextTo_62 hl (by decide) rfl (fun ls hl => ?_)
  refine lv_iload hx hb dX9_nextTo_64 (lv_at hl 0 rfl) ?_
  refine li_iconst hx hb dX9_nextTo_66 ?_
  refine li_icmp_eq (tgt := 125) hx hb dX9_nextTo_67 (by decide) ht0 (by decide) (fun c_1 => ?_) (fun c_1 => ?_)
  · replace hw := hw.1 c_1
    exact bX9_nextTo_125 C post k5 hk5 x1 x2 x3 x4 t0 h1 h2 h3 h4 ht0 _ _ _ _ hw I (lv_sub hl [1, 2, 3, 4, 5, 0] rfl)
  · replace hw := hw.2 c_1
    refine lv_aload_n hx hb dX9_nextTo_70 rfl (lv_at hl 1 rfl) ?_
    refine rg_0_14 hx hb hts wu_X9 hown I wf_X9_37 dX9_nextTo_71 ?_
    refine lv_bipush (v := i32 10) hx hb dX9_nextTo_74 (by decide) ?_
    refine lv_iload hx hb dX9_nextTo_76 (lv_at hl 0 rfl) ?_
    refine li_imul hx hb dX9_nextTo_78 ?_
    refine lv_iload_n hx hb dX9_nextTo_79 rfl (lv_at hl 3 rfl) ?_
    refine li_iadd hx hb dX9_nextTo_80 ?_
    obtain ⟨h_2, hw⟩ := hw
    refine r_iald hx hb I 10 lenR_10 (by decide) h_2 dX9_nextTo_81 ?_
    have h_3 := I.rng 10 ((10 * t0) + x2)
    refine lv_ldc (v := i32 1000000000) hx hb hown (hts _ wk_X9_115) dX9_nextTo_82 ?_
    refine li_icmp_ge (tgt := 125) hx hb dX9_nextTo_84 (by decide) h_3 (by decide) (fun c_4 => ?_) (fun c_4 => ?_)
    · replace hw := hw.1 c_4
      exact bX9_nextTo_125 C post k5 hk5 x1 x2 x3 x4 t0 h1 h2 h3 h4 ht0 _ _ _ _ hw I (lv_sub hl [1, 2, 3, 4, 5, 0] rfl)
    · replace hw := hw.2 c_4
      refine lv_aload_n hx hb dX9_nextTo_87 rfl (lv_at hl 1 rfl) ?_
      refine rg_0_4 hx hb hts wu_X9 hown I wf_X9_16 dX9_nextTo_88 ?_
      refine lv_iload hx hb dX9_nextTo_91 (lv_at hl 5 rfl) ?_
      obtain ⟨h_5, hw⟩ := hw
      refine r_iald hx hb I 3 lenR_3 (by decide) h_5 dX9_nextTo_93 ?_
      have h_6 := I.rng 3 x4
      refine lv_aload_n hx hb dX9_nextTo_94 rfl (lv_at hl 1 rfl) ?_
      refine rg_0_14 hx hb hts wu_X9 hown I wf_X9_37 dX9_nextTo_95 ?_
      refine lv_bipush (v := i32 10) hx hb dX9_nextTo_98 (by decide) ?_
      refine lv_iload hx hb dX9_nextTo_100 (lv_at hl 0 rfl) ?_
      refine li_imul hx hb dX9_nextTo_102 ?_
      refine lv_iload_n hx hb dX9_nextTo_103 rfl (lv_at hl 3 rfl) ?_
      refine li_iadd hx hb dX9_nextTo_104 ?_
      obtain ⟨h_7, hw⟩ := hw
      refine r_iald hx hb I 10 lenR_10 (by decide) h_7 dX9_nextTo_105 ?_
      have h_8 := I.rng 10 ((10 * t0) + x2)
      refine li_iadd hx hb dX9_nextTo_106 ?_
      refine lv_aload_n hx hb dX9_nextTo_107 rfl (lv_at hl 1 rfl) ?_
      refine rg_0_14 hx hb hts wu_X9 hown I wf_X9_37 dX9_nextTo_108 ?_
      refine lv_bipush (v := i32 10) hx hb dX9_nextTo_111 (by decide) ?_
      refine lv_iload_n hx hb dX9_nextTo_113 rfl (lv_at hl 2 rfl) ?_
      refine li_imul hx hb dX9_nextTo_114 ?_
      refine lv_iload_n hx hb dX9_nextTo_115 rfl (lv_at hl 3 rfl) ?_
      refine li_iadd hx hb dX9_nextTo_116 ?_
      obtain ⟨h_9, hw⟩ := hw
      refine r_iald hx hb I 10 lenR_10 (by decide) h_9 dX9_nextTo_117 ?_
      have h_10 := I.rng 10 ((10 * x1) + x2)
      obtain ⟨h_12, hw⟩ := hw
      refine li_icmp_ne (tgt := 125) hx hb dX9_nextTo_118 (by decide) h_12 h_10 (fun c_11 => ?_) (fun c_11 => ?_)
      · replace hw := hw.1 c_11
        exact bX9_nextTo_125 C post k5 hk5 x1 x2 x3 x4 t0 h1 h2 h3 h4 ht0 _ _ _ _ hw I (lv_sub hl [1, 2, 3, 4, 5, 0] rfl)
      · replace hw := hw.2 c_11
        refine li_iconst hx hb dX9_nextTo_121 ?_
        refine lv_goto (tgt := 126) hx hb dX9_nextTo_122 (by decide) ?_
        exact bX9_nextTo_126 C post k5 hk5 x1 x2 x3 x4 t0 1 h1 h2 h3 h4 ht0 (by decide) _ _ _ _ hw I (lv_sub hl [1, 2, 3, 4, 5, 0] rfl)
set_option maxRecDepth 100000 in
set_option maxHeartbeats 4000000 in
theorem bX9_nextTo_5 {p : Program} {l : Launch} {e : Env} {s : State} {m : MethodId} {args : Array Value} {below : List Frame} {meth : Method} {c : Code} {g : GP} (C : Cx p m c cX9_nextTo 7 s args lw_g RX9 meth (some .int)) (post : Int → Mem → Prop) : ∀ (n : Nat), ∀ (x1 x2 x3 x4 : Int), inR x1 → inR x2 → inR x3 → inR x4 → ∀ (M : Mem) (H : Heap) (locs : List Loc) (ls : Array Slot), lpX9_nextTo_5 post n x1 x2 x3 x4 M → IR g s M H locs → lv_has ls 7 [(0, .ref (g.2.2.2 0)), (1, .int (i32 x1)), (2, .int (i32 x2)), (3, .int (i32 x3)), (4, .int (i32 x4))] → W p l e rmX9_nextTo s m args below meth c H locs 0 0 (QIR below args s g post) (F0 m 5 ls []) := by
  obtain ⟨⟨hx, hb, hml, hown, hts⟩, hr, hlk⟩ := id C
  intro n
  induction n with
  | zero =>
    intro x1 x2 x3 x4 h1 h2 h3 h4 M H locs ls hw
    exact hw.elim
  | succ n ih =>
    intro x1 x2 x3 x4 h1 h2 h3 h4 M H locs ls hw I hl
    refine lv_iload hx hb dX9_nextTo_5 (lv_at hl 4 rfl) ?_
    refine lv_aload_n hx hb dX9_nextTo_7 rfl (lv_at hl 0 rfl) ?_
    refine rg_0_1 hx hb hts wu_X9 hown I wf_X9_108 dX9_nextTo_8 ?_
    have h_1 := I.rng 0 1
    refine li_icmp_ge (tgt := 157) hx hb dX9_nextTo_11 (by decide) h4 h_1 (fun c_2 => ?_) (fun c_2 => ?_)
    · replace hw := hw.1 c_2
      exact bX9_nextTo_157 C post x3 h3 _ _ _ _ hw I (lv_sub hl [0, 3] rfl)
    · replace hw := hw.2 c_2
      refine lv_iload_n hx hb dX9_nextTo_14 rfl (lv_at hl 1 rfl) ?_
      refine lv_iload_n hx hb dX9_nextTo_15 rfl (lv_at hl 2 rfl) ?_
      refine li_icmp_eq (tgt := 157) hx hb dX9_nextTo_16 (by decide) h1 h2 (fun c_3 => ?_) (fun c_3 => ?_)
      · replace hw := hw.1 c_3
        exact bX9_nextTo_157 C post x3 h3 _ _ _ _ hw I (lv_sub hl [0, 3] rfl)
      · replace hw := hw.2 c_3
        refine lv_aload_n hx hb dX9_nextTo_19 rfl (lv_at hl 0 rfl) ?_
        refine rg_0_2 hx hb hts wu_X9 hown I wf_X9_7 dX9_nextTo_20 ?_
        refine lv_iload hx hb dX9_nextTo_23 (lv_at hl 4 rfl) ?_
        obtain ⟨h_4, hw⟩ := hw
        refine r_iald hx hb I 1 lenR_1 (by decide) h_4 dX9_nextTo_25 ?_
        have h_5 := I.rng 1 x4
        refine lv_iload_n hx hb dX9_nextTo_26 rfl (lv_at hl 1 rfl) ?_
        refine li_icmp_ne (tgt := 40) hx hb dX9_nextTo_27 (by decide) h_5 h1 (fun c_6 => ?_) (fun c_6 => ?_)
        · replace hw := hw.1 c_6
          refine lv_aload_n hx hb dX9_nextTo_40 rfl (lv_at hl 0 rfl) ?_
          refine rg_0_3 hx hb hts wu_X9 hown I wf_X9_13 dX9_nextTo_41 ?_
          refine lv_iload hx hb dX9_nextTo_44 (lv_at hl 4 rfl) ?_
          obtain ⟨h_7, hw⟩ := hw
          refine r_iald hx hb I 2 lenR_2 (by decide) h_7 dX9_nextTo_46 ?_
          have h_8 := I.rng 2 x4
          refine lv_iload_n hx hb dX9_nextTo_47 rfl (lv_at hl 1 rfl) ?_
          refine li_icmp_ne (tgt := 61) hx hb dX9_nextTo_48 (by decide) h_8 h1 (fun c_9 => ?_) (fun c_9 => ?_)
          · replace hw := hw.1 c_9
            refine li_iconst hx hb dX9_nextTo_61 ?_
            exact bX9_nextTo_62 C post (fun y1 y2 y3 y4 N => lpX9_nextTo_5 post n y1 y2 y3 y4 N) ih x1 x2 x3 x4 (-1) h1 h2 h3 h4 (by decide) _ _ _ _ hw I (lv_sub hl [0, 1, 2, 3, 4] rfl)
          · replace hw := hw.2 c_9
            refine lv_aload_n hx hb dX9_nextTo_51 rfl (lv_at hl 0 rfl) ?_
            refine rg_0_2 hx hb hts wu_X9 hown I wf_X9_7 dX9_nextTo_52 ?_
            refine lv_iload hx hb dX9_nextTo_55 (lv_at hl 4 rfl) ?_
            obtain ⟨h_10, hw⟩ := hw
            refine r_iald hx hb I 1 lenR_1 (by decide) h_10 dX9_nextTo_57 ?_
            have h_11 := I.rng 1 x4
            refine lv_goto (tgt := 62) hx hb dX9_nextTo_58 (by decide) ?_
            exact bX9_nextTo_62 C post (fun y1 y2 y3 y4 N => lpX9_nextTo_5 post n y1 y2 y3 y4 N) ih x1 x2 x3 x4 (M 1 x4) h1 h2 h3 h4 h_11 _ _ _ _ hw I (lv_sub hl [0, 1, 2, 3, 4] rfl)
        · replace hw := hw.2 c_6
          refine lv_aload_n hx hb dX9_nextTo_30 rfl (lv_at hl 0 rfl) ?_
          refine rg_0_3 hx hb hts wu_X9 hown I wf_X9_13 dX9_nextTo_31 ?_
          refine lv_iload hx hb dX9_nextTo_34 (lv_at hl 4 rfl) ?_
          obtain ⟨h_12, hw⟩ := hw
          refine r_iald hx hb I 2 lenR_2 (by decide) h_12 dX9_nextTo_36 ?_
          have h_13 := I.rng 2 x4
          refine lv_goto (tgt := 62) hx hb dX9_nextTo_37 (by decide) ?_
          exact bX9_nextTo_62 C post (fun y1 y2 y3 y4 N => lpX9_nextTo_5 post n y1 y2 y3 y4 N) ih x1 x2 x3 x4 (M 2 x4) h1 h2 h3 h4 h_13 _ _ _ _ hw I (lv_sub hl [0, 1, 2, 3, 4] rfl)
set_option maxRecDepth 100000 in
set_option maxHeartbeats 4000000 in
theorem mX9_nextTo (l : Launch) (g : GP) (a1 a2 : Int) (ha1 : inR a1) (ha2 : inR a2) (M : Mem) (post : Int → Mem → Prop) (sz : Nat) (hw : wpX9_nextTo a1 a2 M post) : MIR l yX9_nextTo wtX9_nextTo rmX9_nextTo g [.ref (g.2.2.2 0), .int (i32 a1), .int (i32 a2)] M sz post := by
  refine Met.ofW (cc := cX9_nextTo) (maxL := 7) (ret := (some .int)) (by decide) rfl ?_
  intro p e s m args below meth c s₁ B hml hv
  obtain ⟨rfl, hpre⟩ := hv
  have hsz := hpre.1
  subst hsz
  have C : Cx p m c cX9_nextTo 7 s _ lw_g RX9 meth (some .int) := ⟨⟨B.exec, B.bytes, hml, findClass_of_methodNamed B.named, fun w h => atoms_spec (ws := wtX9_nextTo) B.pre w (List.mem_cons_of_mem _ h)⟩, B.returns, B.notSynchronized⟩
  obtain ⟨⟨hx, hb, hml, hown, hts⟩, hr, hlk⟩ := id C
  have I := InG.start hpre
  have hl := lv_entry ([.ref (g.2.2.2 0), .int (i32 a1), .int (i32 a2)]) (n := 7) (Nat.le_of_ble_eq_true rfl)
  rw [lg_entry_eq]
  generalize (lg_sl ([.ref (g.2.2.2 0), .int (i32 a1), .int (i32 a2)]) ++ List.replicate (7 - (lg_sl ([.ref (g.2.2.2 0), .int (i32 a1), .int (i32 a2)])).length) Slot.unset).toArray = ls at hl ⊢
  have hl : lv_has ls 7 [(0, .ref (g.2.2.2 0)), (1, .int (i32 a1)), (2, .int (i32 a2))] := hl
  show W p l e rmX9_nextTo s m _ below meth c s.heap [] 0 0 (QIR below _ s g post) _
  refine li_iconst hx hb dX9_nextTo_0 ?_
  refine lv_istore_n (lv' := [(3, .int (i32 (-1))), (0, .ref (g.2.2.2 0)), (1, .int (i32 a1)), (2, .int (i32 a2))]) hx hb dX9_nextTo_1 rfl hl (by decide) rfl (fun ls hl => ?_)
  refine li_iconst hx hb dX9_nextTo_2 ?_
  refine lv_istore (lv' := [(4, .int (i32 0)), (3, .int (i32 (-1))), (0, .ref (g.2.2.2 0)), (1, .int (i32 a1)), (2, .int (i32 a2))]) hx hb dX9_nextTo_3 hl (by decide) rfl (fun ls hl => ?_)
  obtain ⟨n1, hw⟩ := hw
  exact bX9_nextTo_5 C post n1 a1 a2 (-1) 0 ha1 ha2 (by decide) (by decide) _ _ _ _ hw I (lv_sub hl [2, 3, 4, 1, 0] rfl)
abbrev rmX9_next : Room := { frames := 2, cells := 0, slots := 0, locals := 43 }
abbrev wtX9_next : List Cond := Cond.code yX9_next cX9_next 3 (some .int) :: lw_g
set_option maxRecDepth 100000 in
set_option maxHeartbeats 4000000 in
theorem bX9_next_16 {p : Program} {l : Launch} {e : Env} {s : State} {m : MethodId} {args : Array Value} {below : List Frame} {meth : Method} {c : Code} {g : GP} (C : Cx p m c cX9_next 3 s args lw_g RX9 meth (some .int)) (post : Int → Mem → Prop) : ∀ (M : Mem) (H : Heap) (locs : List Loc) (ls : Array Slot), jbX9_next_16 post  M → IR g s M H locs → lv_has ls 3 [(0, .ref (g.2.2.2 0))] → W p l e rmX9_next s m args below meth c H locs 0 0 (QIR below args s g post) (F0 m 16 ls []) := by
  obtain ⟨⟨hx, hb, hml, hown, hts⟩, hr, hlk⟩ := id C
  intro M H locs ls hw I hl
  refine lv_bipush (v := i32 (-2)) hx hb dX9_next_16 (by decide) ?_
  exact g_iret hx hb hr hlk I (by decide) hw dX9_next_18
set_option maxRecDepth 100000 in
set_option maxHeartbeats 4000000 in
theorem mX9_next (l : Launch) (g : GP) (a1 a2 : Int) (ha1 : inR a1) (ha2 : inR a2) (M : Mem) (post : Int → Mem → Prop) (sz : Nat) (hw : wpX9_next a1 a2 M post) : MIR l yX9_next wtX9_next rmX9_next g [.ref (g.2.2.2 0), .int (i32 a1), .int (i32 a2)] M sz post := by
  refine Met.ofW (cc := cX9_next) (maxL := 3) (ret := (some .int)) (by decide) rfl ?_
  intro p e s m args below meth c s₁ B hml hv
  obtain ⟨rfl, hpre⟩ := hv
  have hsz := hpre.1
  subst hsz
  have C : Cx p m c cX9_next 3 s _ lw_g RX9 meth (some .int) := ⟨⟨B.exec, B.bytes, hml, findClass_of_methodNamed B.named, fun w h => atoms_spec (ws := wtX9_next) B.pre w (List.mem_cons_of_mem _ h)⟩, B.returns, B.notSynchronized⟩
  obtain ⟨⟨hx, hb, hml, hown, hts⟩, hr, hlk⟩ := id C
  have I := InG.start hpre
  have hl := lv_entry ([.ref (g.2.2.2 0), .int (i32 a1), .int (i32 a2)]) (n := 3) (Nat.le_of_ble_eq_true rfl)
  rw [lg_entry_eq]
  generalize (lg_sl ([.ref (g.2.2.2 0), .int (i32 a1), .int (i32 a2)]) ++ List.replicate (3 - (lg_sl ([.ref (g.2.2.2 0), .int (i32 a1), .int (i32 a2)])).length) Slot.unset).toArray = ls at hl ⊢
  have hl : lv_has ls 3 [(0, .ref (g.2.2.2 0)), (1, .int (i32 a1)), (2, .int (i32 a2))] := hl
  show W p l e rmX9_next s m _ below meth c s.heap [] 0 0 (QIR below _ s g post) _
  refine lv_aload_n hx hb dX9_next_0 rfl (lv_at hl 0 rfl) ?_
  refine lv_iload_n hx hb dX9_next_1 rfl (lv_at hl 1 rfl) ?_
  refine g_callVi (o := 0) (As := [.int (i32 a1)]) (rest := []) ⟨hx, hb, hml, hown, hts⟩ I (mX9_isPlace l g a1 ha1 M _ _ hw) (cwV 1 hts (gd_V wm_X9_104 wi_X9_isPlace wl_X9_isPlace wn_X9 wc_X9_isPlace) rfl rfl rfl wd_X9_isPlace ⟨Nat.le_of_ble_eq_true rfl, Nat.le_of_ble_eq_true rfl⟩) (by omega) (by omega) obR_0 rfl rfl hl.1 rfl (Nat.le_of_ble_eq_true rfl) dX9_next_2 ⟨Nat.zero_le _, Nat.zero_le _⟩ (fun r2_0 M2_0 H locs hr2_0 hw I => ?_)
  refine li_if_eq (tgt := 16) hx hb dX9_next_5 (by decide) hr2_0 (fun c_2 => ?_) (fun c_2 => ?_)
  · replace hw := hw.1 c_2
    exact bX9_next_16 C post _ _ _ _ hw I (lv_sub hl [0] rfl)
  · replace hw := hw.2 c_2
    refine lv_aload_n hx hb dX9_next_8 rfl (lv_at hl 0 rfl) ?_
    refine lv_iload_n hx hb dX9_next_9 rfl (lv_at hl 2 rfl) ?_
    refine g_callVi (o := 0) (As := [.int (i32 a2)]) (rest := []) ⟨hx, hb, hml, hown, hts⟩ I (mX9_isPlace l g a2 ha2 M2_0 _ _ hw) (cwV 1 hts (gd_V wm_X9_104 wi_X9_isPlace wl_X9_isPlace wn_X9 wc_X9_isPlace) rfl rfl rfl wd_X9_isPlace ⟨Nat.le_of_ble_eq_true rfl, Nat.le_of_ble_eq_true rfl⟩) (by omega) (by omega) obR_0 rfl rfl hl.1 rfl (Nat.le_of_ble_eq_true rfl) dX9_next_10 ⟨Nat.zero_le _, Nat.zero_le _⟩ (fun r10_2 M10_2 H locs hr10_2 hw I => ?_)
    refine li_if_ne (tgt := 19) hx hb dX9_next_13 (by decide) hr10_2 (fun c_4 => ?_) (fun c_4 => ?_)
    · replace hw := hw.1 c_4
      refine lv_aload_n hx hb dX9_next_19 rfl (lv_at hl 0 rfl) ?_
      refine g_callVv (o := 0) (As := []) (rest := []) ⟨hx, hb, hml, hown, hts⟩ I (mX9_findFar l g M10_2 _ _ hw) (cwV 0 hts (gd_V wm_X9_116 wi_X9_findFar wl_X9_findFar wn_X9 wc_X9_findFar) rfl rfl rfl wd_X9_findFar ⟨Nat.le_of_ble_eq_true rfl, Nat.le_of_ble_eq_true rfl⟩) (by omega) (by omega) obR_0 rfl rfl hl.1 rfl (Nat.le_of_ble_eq_true rfl) dX9_next_20 ⟨Nat.zero_le _, Nat.zero_le _⟩ (fun M20_4 H locs hw I => ?_)
      refine lv_aload_n hx hb dX9_next_23 rfl (lv_at hl 0 rfl) ?_
      refine lv_iload_n hx hb dX9_next_24 rfl (lv_at hl 1 rfl) ?_
      refine lv_iload_n hx hb dX9_next_25 rfl (lv_at hl 2 rfl) ?_
      refine g_callVi (o := 0) (As := [.int (i32 a1), .int (i32 a2)]) (rest := []) ⟨hx, hb, hml, hown, hts⟩ I (mX9_nextTo l g a1 a2 ha1 ha2 M20_4 _ _ hw) (cwV 2 hts (gd_V wm_X9_119 wi_X9_nextTo wl_X9_nextTo wn_X9 wc_X9_nextTo) rfl rfl rfl wd_X9_nextTo ⟨Nat.le_of_ble_eq_true rfl, Nat.le_of_ble_eq_true rfl⟩) (by omega) (by omega) obR_0 rfl rfl hl.1 rfl (Nat.le_of_ble_eq_true rfl) dX9_next_26 ⟨Nat.zero_le _, Nat.zero_le _⟩ (fun r26_5 M26_5 H locs hr26_5 hw I => ?_)
      exact g_iret hx hb hr hlk I hr26_5 hw dX9_next_29
    · replace hw := hw.2 c_4
      exact bX9_next_16 C post _ _ _ _ hw I (lv_sub hl [0] rfl)
abbrev rmX9_amount : Room := { frames := 2, cells := 0, slots := 0, locals := 43 }
abbrev wtX9_amount : List Cond := Cond.code yX9_amount cX9_amount 3 (some .int) :: lw_g
set_option maxRecDepth 100000 in
set_option maxHeartbeats 4000000 in
theorem bX9_amount_32 {p : Program} {l : Launch} {e : Env} {s : State} {m : MethodId} {args : Array Value} {below : List Frame} {meth : Method} {c : Code} {g : GP} (C : Cx p m c cX9_amount 3 s args lw_g RX9 meth (some .int)) (post : Int → Mem → Prop) : ∀ (t0 : Int), inR t0 → ∀ (M : Mem) (H : Heap) (locs : List Loc) (ls : Array Slot), jbX9_amount_32 post t0 M → IR g s M H locs → lv_has ls 3 [(0, .ref (g.2.2.2 0))] → W p l e rmX9_amount s m args below meth c H locs 0 0 (QIR below args s g post) (F0 m 32 ls [.int (i32 t0)]) := by
  obtain ⟨⟨hx, hb, hml, hown, hts⟩, hr, hlk⟩ := id C
  intro t0 ht0 M H locs ls hw I hl
  exact g_iret hx hb hr hlk I ht0 hw dX9_amount_32
set_option maxRecDepth 100000 in
set_option maxHeartbeats 4000000 in
theorem bX9_amount_30 {p : Program} {l : Launch} {e : Env} {s : State} {m : MethodId} {args : Array Value} {below : List Frame} {meth : Method} {c : Code} {g : GP} (C : Cx p m c cX9_amount 3 s args lw_g RX9 meth (some .int)) (post : Int → Mem → Prop) : ∀ (M : Mem) (H : Heap) (locs : List Loc) (ls : Array Slot), jbX9_amount_30 post  M → IR g s M H locs → lv_has ls 3 [(0, .ref (g.2.2.2 0))] → W p l e rmX9_amount s m args below meth c H locs 0 0 (QIR below args s g post) (F0 m 30 ls []) := by
  obtain ⟨⟨hx, hb, hml, hown, hts⟩, hr, hlk⟩ := id C
  intro M H locs ls hw I hl
  refine lv_bipush (v := i32 (-2)) hx hb dX9_amount_30 (by decide) ?_
  exact bX9_amount_32 C post (-2) (by decide) _ _ _ _ hw I (lv_sub hl [0] rfl)
set_option maxRecDepth 100000 in
set_option maxHeartbeats 4000000 in
theorem mX9_amount (l : Launch) (g : GP) (a1 a2 : Int) (ha1 : inR a1) (ha2 : inR a2) (M : Mem) (post : Int → Mem → Prop) (sz : Nat) (hw : wpX9_amount a1 a2 M post) : MIR l yX9_amount wtX9_amount rmX9_amount g [.ref (g.2.2.2 0), .int (i32 a1), .int (i32 a2)] M sz post := by
  refine Met.ofW (cc := cX9_amount) (maxL := 3) (ret := (some .int)) (by decide) rfl ?_
  intro p e s m args below meth c s₁ B hml hv
  obtain ⟨rfl, hpre⟩ := hv
  have hsz := hpre.1
  subst hsz
  have C : Cx p m c cX9_amount 3 s _ lw_g RX9 meth (some .int) := ⟨⟨B.exec, B.bytes, hml, findClass_of_methodNamed B.named, fun w h => atoms_spec (ws := wtX9_amount) B.pre w (List.mem_cons_of_mem _ h)⟩, B.returns, B.notSynchronized⟩
  obtain ⟨⟨hx, hb, hml, hown, hts⟩, hr, hlk⟩ := id C
  have I := InG.start hpre
  have hl := lv_entry ([.ref (g.2.2.2 0), .int (i32 a1), .int (i32 a2)]) (n := 3) (Nat.le_of_ble_eq_true rfl)
  rw [lg_entry_eq]
  generalize (lg_sl ([.ref (g.2.2.2 0), .int (i32 a1), .int (i32 a2)]) ++ List.replicate (3 - (lg_sl ([.ref (g.2.2.2 0), .int (i32 a1), .int (i32 a2)])).length) Slot.unset).toArray = ls at hl ⊢
  have hl : lv_has ls 3 [(0, .ref (g.2.2.2 0)), (1, .int (i32 a1)), (2, .int (i32 a2))] := hl
  show W p l e rmX9_amount s m _ below meth c s.heap [] 0 0 (QIR below _ s g post) _
  refine lv_aload_n hx hb dX9_amount_0 rfl (lv_at hl 0 rfl) ?_
  refine lv_iload_n hx hb dX9_amount_1 rfl (lv_at hl 1 rfl) ?_
  refine g_callVi (o := 0) (As := [.int (i32 a1)]) (rest := []) ⟨hx, hb, hml, hown, hts⟩ I (mX9_isHeap l g a1 ha1 M _ _ hw) (cwV 1 hts (gd_V wm_X9_111 wi_X9_isHeap wl_X9_isHeap wn_X9 wc_X9_isHeap) rfl rfl rfl wd_X9_isHeap ⟨Nat.le_of_ble_eq_true rfl, Nat.le_of_ble_eq_true rfl⟩) (by omega) (by omega) obR_0 rfl rfl hl.1 rfl (Nat.le_of_ble_eq_true rfl) dX9_amount_2 ⟨Nat.zero_le _, Nat.zero_le _⟩ (fun r2_0 M2_0 H locs hr2_0 hw I => ?_)
  refine li_if_eq (tgt := 30) hx hb dX9_amount_5 (by decide) hr2_0 (fun c_2 => ?_) (fun c_2 => ?_)
  · replace hw := hw.1 c_2
    exact bX9_amount_30 C post _ _ _ _ hw I (lv_sub hl [0] rfl)
  · replace hw := hw.2 c_2
    refine lv_aload_n hx hb dX9_amount_8 rfl (lv_at hl 0 rfl) ?_
    refine lv_iload_n hx hb dX9_amount_9 rfl (lv_at hl 2 rfl) ?_
    refine g_callVi (o := 0) (As := [.int (i32 a2)]) (rest := []) ⟨hx, hb, hml, hown, hts⟩ I (mX9_isPlace l g a2 ha2 M2_0 _ _ hw) (cwV 1 hts (gd_V wm_X9_104 wi_X9_isPlace wl_X9_isPlace wn_X9 wc_X9_isPlace) rfl rfl rfl wd_X9_isPlace ⟨Nat.le_of_ble_eq_true rfl, Nat.le_of_ble_eq_true rfl⟩) (by omega) (by omega) obR_0 rfl rfl hl.1 rfl (Nat.le_of_ble_eq_true rfl) dX9_amount_10 ⟨Nat.zero_le _, Nat.zero_le _⟩ (fun r10_2 M10_2 H locs hr10_2 hw I => ?_)
    refine li_if_eq (tgt := 30) hx hb dX9_amount_13 (by decide) hr10_2 (fun c_4 => ?_) (fun c_4 => ?_)
    · replace hw := hw.1 c_4
      exact bX9_amount_30 C post _ _ _ _ hw I (lv_sub hl [0] rfl)
    · replace hw := hw.2 c_4
      refine lv_aload_n hx hb dX9_amount_16 rfl (lv_at hl 0 rfl) ?_
      refine rg_0_6 hx hb hts wu_X9 hown I wf_X9_19 dX9_amount_17 ?_
      refine lv_bipush (v := i32 10) hx hb dX9_amount_20 (by decide) ?_
      refine lv_iload_n hx hb dX9_amount_22 rfl (lv_at hl 1 rfl) ?_
      refine li_imul hx hb dX9_amount_23 ?_
      refine lv_iload_n hx hb dX9_amount_24 rfl (lv_at hl 2 rfl) ?_
      refine li_iadd hx hb dX9_amount_25 ?_
      obtain ⟨h_5, hw⟩ := hw
      refine r_iald hx hb I 4 lenR_4 (by decide) h_5 dX9_amount_26 ?_
      have h_6 := I.rng 4 ((10 * a1) + a2)
      refine lv_goto (tgt := 32) hx hb dX9_amount_27 (by decide) ?_
      exact bX9_amount_32 C post (M10_2 4 ((10 * a1) + a2)) h_6 _ _ _ _ hw I (lv_sub hl [0] rfl)
abbrev rmX9_sumOf : Room := { frames := 0, cells := 0, slots := 0, locals := 0 }
abbrev wtX9_sumOf : List Cond := Cond.code yX9_sumOf cX9_sumOf 4 (some .int) :: lw_g
set_option maxRecDepth 100000 in
set_option maxHeartbeats 4000000 in
theorem bX9_sumOf_4 {p : Program} {l : Launch} {e : Env} {s : State} {m : MethodId} {args : Array Value} {below : List Frame} {meth : Method} {c : Code} {g : GP} (C : Cx p m c cX9_sumOf 4 s args lw_g RX9 meth (some .int)) (post : Int → Mem → Prop) : ∀ (n : Nat), ∀ (x1 x2 x3 : Int), inR x1 → inR x2 → inR x3 → ∀ (M : Mem) (H : Heap) (locs : List Loc) (ls : Array Slot), lpX9_sumOf_4 post n x1 x2 x3 M → IR g s M H locs → lv_has ls 4 [(0, .ref (g.2.2.2 0)), (1, .int (i32 x1)), (2, .int (i32 x2)), (3, .int (i32 x3))] → W p l e rmX9_sumOf s m args below meth c H locs 0 0 (QIR below args s g post) (F0 m 4 ls []) := by
  obtain ⟨⟨hx, hb, hml, hown, hts⟩, hr, hlk⟩ := id C
  intro n
  induction n with
  | zero =>
    intro x1 x2 x3 h1 h2 h3 M H locs ls hw
    exact hw.elim
  | succ n ih =>
    intro x1 x2 x3 h1 h2 h3 M H locs ls hw I hl
    refine lv_iload_n hx hb dX9_sumOf_4 rfl (lv_at hl 3 rfl) ?_
    refine lv_aload_n hx hb dX9_sumOf_5 rfl (lv_at hl 0 rfl) ?_
    refine rg_0_0 hx hb hts wu_X9 hown I wf_X9_86 dX9_sumOf_6 ?_
    have h_1 := I.rng 0 0
    refine li_icmp_ge (tgt := 32) hx hb dX9_sumOf_9 (by decide) h3 h_1 (fun c_2 => ?_) (fun c_2 => ?_)
    · replace hw := hw.1 c_2
      refine lv_iload_n hx hb dX9_sumOf_32 rfl (lv_at hl 2 rfl) ?_
      exact g_iret hx hb hr hlk I h2 hw dX9_sumOf_33
    · replace hw := hw.2 c_2
      refine lv_iload_n hx hb dX9_sumOf_12 rfl (lv_at hl 2 rfl) ?_
      refine lv_aload_n hx hb dX9_sumOf_13 rfl (lv_at hl 0 rfl) ?_
      refine rg_0_6 hx hb hts wu_X9 hown I wf_X9_19 dX9_sumOf_14 ?_
      refine lv_bipush (v := i32 10) hx hb dX9_sumOf_17 (by decide) ?_
      refine lv_iload_n hx hb dX9_sumOf_19 rfl (lv_at hl 1 rfl) ?_
      refine li_imul hx hb dX9_sumOf_20 ?_
      refine lv_iload_n hx hb dX9_sumOf_21 rfl (lv_at hl 3 rfl) ?_
      refine li_iadd hx hb dX9_sumOf_22 ?_
      obtain ⟨h_3, hw⟩ := hw
      refine r_iald hx hb I 4 lenR_4 (by decide) h_3 dX9_sumOf_23 ?_
      have h_4 := I.rng 4 ((10 * x1) + x3)
      refine li_iadd hx hb dX9_sumOf_24 ?_
      obtain ⟨h_5, hw⟩ := hw
      refine li_name (fun v25_5 ev25_5 => ?_)
      replace hw := hw v25_5 ev25_5
      have hv25_5 : inR v25_5 := ev25_5 ▸ h_5
      refine lv_istore_n (lv' := [(2, .int (i32 v25_5)), (0, .ref (g.2.2.2 0)), (1, .int (i32 x1)), (3, .int (i32 x3))]) hx hb dX9_sumOf_25 rfl hl (by decide) rfl (fun ls hl => ?_)
      refine li_iinc (lv' := [(3, .int (i32 (x3 + 1))), (2, .int (i32 v25_5)), (0, .ref (g.2.2.2 0)), (1, .int (i32 x1))]) hx hb dX9_sumOf_26 hl (k := 3) rfl (by decide) rfl (fun ls hl => ?_)
      refine lv_goto (tgt := 4) hx hb dX9_sumOf_29 (by decide) ?_
      obtain ⟨h_7, hw⟩ := hw
      exact ih x1 v25_5 (x3 + 1) h1 hv25_5 h_7 _ _ _ _ hw I (lv_sub hl [2, 3, 1, 0] rfl)
set_option maxRecDepth 100000 in
set_option maxHeartbeats 4000000 in
theorem mX9_sumOf (l : Launch) (g : GP) (a1 : Int) (ha1 : inR a1) (M : Mem) (post : Int → Mem → Prop) (sz : Nat) (hw : wpX9_sumOf a1 M post) : MIR l yX9_sumOf wtX9_sumOf rmX9_sumOf g [.ref (g.2.2.2 0), .int (i32 a1)] M sz post := by
  refine Met.ofW (cc := cX9_sumOf) (maxL := 4) (ret := (some .int)) (by decide) rfl ?_
  intro p e s m args below meth c s₁ B hml hv
  obtain ⟨rfl, hpre⟩ := hv
  have hsz := hpre.1
  subst hsz
  have C : Cx p m c cX9_sumOf 4 s _ lw_g RX9 meth (some .int) := ⟨⟨B.exec, B.bytes, hml, findClass_of_methodNamed B.named, fun w h => atoms_spec (ws := wtX9_sumOf) B.pre w (List.mem_cons_of_mem _ h)⟩, B.returns, B.notSynchronized⟩
  obtain ⟨⟨hx, hb, hml, hown, hts⟩, hr, hlk⟩ := id C
  have I := InG.start hpre
  have hl := lv_entry ([.ref (g.2.2.2 0), .int (i32 a1)]) (n := 4) (Nat.le_of_ble_eq_true rfl)
  rw [lg_entry_eq]
  generalize (lg_sl ([.ref (g.2.2.2 0), .int (i32 a1)]) ++ List.replicate (4 - (lg_sl ([.ref (g.2.2.2 0), .int (i32 a1)])).length) Slot.unset).toArray = ls at hl ⊢
  have hl : lv_has ls 4 [(0, .ref (g.2.2.2 0)), (1, .int (i32 a1))] := hl
  show W p l e rmX9_sumOf s m _ below meth c s.heap [] 0 0 (QIR below _ s g post) _
  refine li_iconst hx hb dX9_sumOf_0 ?_
  refine lv_istore_n (lv' := [(2, .int (i32 0)), (0, .ref (g.2.2.2 0)), (1, .int (i32 a1))]) hx hb dX9_sumOf_1 rfl hl (by decide) rfl (fun ls hl => ?_)
  refine li_iconst hx hb dX9_sumOf_2 ?_
  refine lv_istore_n (lv' := [(3, .int (i32 0)), (2, .int (i32 0)), (0, .ref (g.2.2.2 0)), (1, .int (i32 a1))]) hx hb dX9_sumOf_3 rfl hl (by decide) rfl (fun ls hl => ?_)
  obtain ⟨n1, hw⟩ := hw
  exact bX9_sumOf_4 C post n1 a1 0 0 ha1 (by decide) (by decide) _ _ _ _ hw I (lv_sub hl [2, 3, 1, 0] rfl)
abbrev rmX9_sum : Room := { frames := 2, cells := 0, slots := 0, locals := 43 }
abbrev wtX9_sum : List Cond := Cond.code yX9_sum cX9_sum 2 (some .int) :: lw_g
set_option maxRecDepth 100000 in
set_option maxHeartbeats 4000000 in
theorem bX9_sum_18 {p : Program} {l : Launch} {e : Env} {s : State} {m : MethodId} {args : Array Value} {below : List Frame} {meth : Method} {c : Code} {g : GP} (C : Cx p m c cX9_sum 2 s args lw_g RX9 meth (some .int)) (post : Int → Mem → Prop) : ∀ (t0 : Int), inR t0 → ∀ (M : Mem) (H : Heap) (locs : List Loc) (ls : Array Slot), jbX9_sum_18 post t0 M → IR g s M H locs → lv_has ls 2 [(0, .ref (g.2.2.2 0))] → W p l e rmX9_sum s m args below meth c H locs 0 0 (QIR below args s g post) (F0 m 18 ls [.int (i32 t0)]) := by
  obtain ⟨⟨hx, hb, hml, hown, hts⟩, hr, hlk⟩ := id C
  intro t0 ht0 M H locs ls hw I hl
  exact g_iret hx hb hr hlk I ht0 hw dX9_sum_18
set_option maxRecDepth 100000 in
set_option maxHeartbeats 4000000 in
theorem mX9_sum (l : Launch) (g : GP) (a1 : Int) (ha1 : inR a1) (M : Mem) (post : Int → Mem → Prop) (sz : Nat) (hw : wpX9_sum a1 M post) : MIR l yX9_sum wtX9_sum rmX9_sum g [.ref (g.2.2.2 0), .int (i32 a1)] M sz post := by
  refine Met.ofW (cc := cX9_sum) (maxL := 2) (ret := (some .int)) (by decide) rfl ?_
  intro p e s m args below meth c s₁ B hml hv
  obtain ⟨rfl, hpre⟩ := hv
  have hsz := hpre.1
  subst hsz
  have C : Cx p m c cX9_sum 2 s _ lw_g RX9 meth (some .int) := ⟨⟨B.exec, B.bytes, hml, findClass_of_methodNamed B.named, fun w h => atoms_spec (ws := wtX9_sum) B.pre w (List.mem_cons_of_mem _ h)⟩, B.returns, B.notSynchronized⟩
  obtain ⟨⟨hx, hb, hml, hown, hts⟩, hr, hlk⟩ := id C
  have I := InG.start hpre
  have hl := lv_entry ([.ref (g.2.2.2 0), .int (i32 a1)]) (n := 2) (Nat.le_of_ble_eq_true rfl)
  rw [lg_entry_eq]
  generalize (lg_sl ([.ref (g.2.2.2 0), .int (i32 a1)]) ++ List.replicate (2 - (lg_sl ([.ref (g.2.2.2 0), .int (i32 a1)])).length) Slot.unset).toArray = ls at hl ⊢
  have hl : lv_has ls 2 [(0, .ref (g.2.2.2 0)), (1, .int (i32 a1))] := hl
  show W p l e rmX9_sum s m _ below meth c s.heap [] 0 0 (QIR below _ s g post) _
  refine lv_aload_n hx hb dX9_sum_0 rfl (lv_at hl 0 rfl) ?_
  refine lv_iload_n hx hb dX9_sum_1 rfl (lv_at hl 1 rfl) ?_
  refine g_callVi (o := 0) (As := [.int (i32 a1)]) (rest := []) ⟨hx, hb, hml, hown, hts⟩ I (mX9_isHeap l g a1 ha1 M _ _ hw) (cwV 1 hts (gd_V wm_X9_111 wi_X9_isHeap wl_X9_isHeap wn_X9 wc_X9_isHeap) rfl rfl rfl wd_X9_isHeap ⟨Nat.le_of_ble_eq_true rfl, Nat.le_of_ble_eq_true rfl⟩) (by omega) (by omega) obR_0 rfl rfl hl.1 rfl (Nat.le_of_ble_eq_true rfl) dX9_sum_2 ⟨Nat.zero_le _, Nat.zero_le _⟩ (fun r2_0 M2_0 H locs hr2_0 hw I => ?_)
  refine li_if_eq (tgt := 16) hx hb dX9_sum_5 (by decide) hr2_0 (fun c_2 => ?_) (fun c_2 => ?_)
  · replace hw := hw.1 c_2
    refine lv_bipush (v := i32 (-2)) hx hb dX9_sum_16 (by decide) ?_
    exact bX9_sum_18 C post (-2) (by decide) _ _ _ _ hw I (lv_sub hl [0] rfl)
  · replace hw := hw.2 c_2
    refine lv_aload_n hx hb dX9_sum_8 rfl (lv_at hl 0 rfl) ?_
    refine lv_iload_n hx hb dX9_sum_9 rfl (lv_at hl 1 rfl) ?_
    refine g_callVi (o := 0) (As := [.int (i32 a1)]) (rest := []) ⟨hx, hb, hml, hown, hts⟩ I (mX9_sumOf l g a1 ha1 M2_0 _ _ hw) (cwV 1 hts (gd_V wm_X9_123 wi_X9_sumOf wl_X9_sumOf wn_X9 wc_X9_sumOf) rfl rfl rfl wd_X9_sumOf ⟨Nat.le_of_ble_eq_true rfl, Nat.le_of_ble_eq_true rfl⟩) (by omega) (by omega) obR_0 rfl rfl hl.1 rfl (Nat.le_of_ble_eq_true rfl) dX9_sum_10 ⟨Nat.zero_le _, Nat.zero_le _⟩ (fun r10_2 M10_2 H locs hr10_2 hw I => ?_)
    refine lv_goto (tgt := 18) hx hb dX9_sum_13 (by decide) ?_
    exact bX9_sum_18 C post r10_2 hr10_2 _ _ _ _ hw I (lv_sub hl [0] rfl)
abbrev rmX9_begin : Room := { frames := 0, cells := 0, slots := 0, locals := 0 }
abbrev wtX9_begin : List Cond := Cond.code yX9_begin cX9_begin 4 none :: lw_g
set_option maxRecDepth 100000 in
set_option maxHeartbeats 4000000 in
theorem bX9_begin_23 {p : Program} {l : Launch} {e : Env} {s : State} {m : MethodId} {args : Array Value} {below : List Frame} {meth : Method} {c : Code} {g : GP} (C : Cx p m c cX9_begin 4 s args lw_g RX9 meth none) (post : Mem → Prop) : ∀ (n : Nat), ∀ (x1 x2 x3 : Int), inR x1 → inR x2 → inR x3 → ∀ (M : Mem) (H : Heap) (locs : List Loc) (ls : Array Slot), lpX9_begin_23 post n x1 x2 x3 M → IR g s M H locs → lv_has ls 4 [(0, .ref (g.2.2.2 0)), (1, .int (i32 x1)), (2, .int (i32 x2)), (3, .int (i32 x3))] → W p l e rmX9_begin s m args below meth c H locs 0 0 (QVR below args s g post) (F0 m 23 ls []) := by
  obtain ⟨⟨hx, hb, hml, hown, hts⟩, hr, hlk⟩ := id C
  intro n
  induction n with
  | zero =>
    intro x1 x2 x3 h1 h2 h3 M H locs ls hw
    exact hw.elim
  | succ n ih =>
    intro x1 x2 x3 h1 h2 h3 M H locs ls hw I hl
    refine lv_iload_n hx hb dX9_begin_23 rfl (lv_at hl 3 rfl) ?_
    refine lv_aload_n hx hb dX9_begin_24 rfl (lv_at hl 0 rfl) ?_
    refine rg_0_0 hx hb hts wu_X9 hown I wf_X9_86 dX9_begin_25 ?_
    have h_1 := I.rng 0 0
    refine li_icmp_ge (tgt := 71) hx hb dX9_begin_28 (by decide) h3 h_1 (fun c_2 => ?_) (fun c_2 => ?_)
    · replace hw := hw.1 c_2
      exact g_vret hx hb hr hlk I hw dX9_begin_71
    · replace hw := hw.2 c_2
      refine lv_aload_n hx hb dX9_begin_31 rfl (lv_at hl 0 rfl) ?_
      refine rg_0_16 hx hb hts wu_X9 hown I wf_X9_43 dX9_begin_32 ?_
      refine lv_iload_n hx hb dX9_begin_35 rfl (lv_at hl 3 rfl) ?_
      refine lv_aload_n hx hb dX9_begin_36 rfl (lv_at hl 0 rfl) ?_
      refine rg_0_6 hx hb hts wu_X9 hown I wf_X9_19 dX9_begin_37 ?_
      refine lv_bipush (v := i32 10) hx hb dX9_begin_40 (by decide) ?_
      refine lv_iload_n hx hb dX9_begin_42 rfl (lv_at hl 1 rfl) ?_
      refine li_imul hx hb dX9_begin_43 ?_
      refine lv_iload_n hx hb dX9_begin_44 rfl (lv_at hl 3 rfl) ?_
      refine li_iadd hx hb dX9_begin_45 ?_
      obtain ⟨h_3, hw⟩ := hw
      refine r_iald hx hb I 4 lenR_4 (by decide) h_3 dX9_begin_46 ?_
      have h_4 := I.rng 4 ((10 * x1) + x3)
      obtain ⟨h_5, hw⟩ := hw
      refine r_iast hx hb I 12 lenR_12 (by decide) h_5 h_4 dX9_begin_47 (fun H locs M47_5 eM47_5 I => ?_)
      replace hw := hw M47_5 eM47_5
      refine lv_aload_n hx hb dX9_begin_48 rfl (lv_at hl 0 rfl) ?_
      refine rg_0_17 hx hb hts wu_X9 hown I wf_X9_46 dX9_begin_49 ?_
      refine lv_iload_n hx hb dX9_begin_52 rfl (lv_at hl 3 rfl) ?_
      refine lv_aload_n hx hb dX9_begin_53 rfl (lv_at hl 0 rfl) ?_
      refine rg_0_6 hx hb hts wu_X9 hown I wf_X9_19 dX9_begin_54 ?_
      refine lv_bipush (v := i32 10) hx hb dX9_begin_57 (by decide) ?_
      refine lv_iload_n hx hb dX9_begin_59 rfl (lv_at hl 2 rfl) ?_
      refine li_imul hx hb dX9_begin_60 ?_
      refine lv_iload_n hx hb dX9_begin_61 rfl (lv_at hl 3 rfl) ?_
      refine li_iadd hx hb dX9_begin_62 ?_
      obtain ⟨h_7, hw⟩ := hw
      refine r_iald hx hb I 4 lenR_4 (by decide) h_7 dX9_begin_63 ?_
      have h_8 := I.rng 4 ((10 * x2) + x3)
      obtain ⟨h_9, hw⟩ := hw
      refine r_iast hx hb I 13 lenR_13 (by decide) h_9 h_8 dX9_begin_64 (fun H locs M64_9 eM64_9 I => ?_)
      replace hw := hw M64_9 eM64_9
      refine li_iinc (lv' := [(3, .int (i32 (x3 + 1))), (0, .ref (g.2.2.2 0)), (1, .int (i32 x1)), (2, .int (i32 x2))]) hx hb dX9_begin_65 hl (k := 3) rfl (by decide) rfl (fun ls hl => ?_)
      refine lv_goto (tgt := 23) hx hb dX9_begin_68 (by decide) ?_
      obtain ⟨h_11, hw⟩ := hw
      exact ih x1 x2 (x3 + 1) h1 h2 h_11 _ _ _ _ hw I (lv_sub hl [1, 2, 3, 0] rfl)
set_option maxRecDepth 100000 in
set_option maxHeartbeats 4000000 in
theorem bX9_begin_2 {p : Program} {l : Launch} {e : Env} {s : State} {m : MethodId} {args : Array Value} {below : List Frame} {meth : Method} {c : Code} {g : GP} (C : Cx p m c cX9_begin 4 s args lw_g RX9 meth none) (post : Mem → Prop) : ∀ (n : Nat), ∀ (x1 x2 x3 : Int), inR x1 → inR x2 → inR x3 → ∀ (M : Mem) (H : Heap) (locs : List Loc) (ls : Array Slot), lpX9_begin_2 post n x1 x2 x3 M → IR g s M H locs → lv_has ls 4 [(0, .ref (g.2.2.2 0)), (1, .int (i32 x1)), (2, .int (i32 x2)), (3, .int (i32 x3))] → W p l e rmX9_begin s m args below meth c H locs 0 0 (QVR below args s g post) (F0 m 2 ls []) := by
  obtain ⟨⟨hx, hb, hml, hown, hts⟩, hr, hlk⟩ := id C
  intro n
  induction n with
  | zero =>
    intro x1 x2 x3 h1 h2 h3 M H locs ls hw
    exact hw.elim
  | succ n ih =>
    intro x1 x2 x3 h1 h2 h3 M H locs ls hw I hl
    refine lv_iload_n hx hb dX9_begin_2 rfl (lv_at hl 3 rfl) ?_
    refine lv_bipush (v := i32 100) hx hb dX9_begin_3 (by decide) ?_
    refine li_icmp_ge (tgt := 21) hx hb dX9_begin_5 (by decide) h3 (by decide) (fun c_1 => ?_) (fun c_1 => ?_)
    · replace hw := hw.1 c_1
      refine li_iconst hx hb dX9_begin_21 ?_
      refine lv_istore_n (lv' := [(3, .int (i32 0)), (0, .ref (g.2.2.2 0)), (1, .int (i32 x1)), (2, .int (i32 x2))]) hx hb dX9_begin_22 rfl hl (by decide) rfl (fun ls hl => ?_)
      obtain ⟨n1, hw⟩ := hw
      exact bX9_begin_23 C post n1 x1 x2 0 h1 h2 (by decide) _ _ _ _ hw I (lv_sub hl [1, 2, 3, 0] rfl)
    · replace hw := hw.2 c_1
      refine lv_aload_n hx hb dX9_begin_8 rfl (lv_at hl 0 rfl) ?_
      refine rg_0_15 hx hb hts wu_X9 hown I wf_X9_40 dX9_begin_9 ?_
      refine lv_iload_n hx hb dX9_begin_12 rfl (lv_at hl 3 rfl) ?_
      refine li_iconst hx hb dX9_begin_13 ?_
      obtain ⟨h_2, hw⟩ := hw
      refine r_iast hx hb I 11 lenR_11 (by decide) h_2 (by decide) dX9_begin_14 (fun H locs M14_2 eM14_2 I => ?_)
      replace hw := hw M14_2 eM14_2
      refine li_iinc (lv' := [(3, .int (i32 (x3 + 1))), (0, .ref (g.2.2.2 0)), (1, .int (i32 x1)), (2, .int (i32 x2))]) hx hb dX9_begin_15 hl (k := 3) rfl (by decide) rfl (fun ls hl => ?_)
      refine lv_goto (tgt := 2) hx hb dX9_begin_18 (by decide) ?_
      obtain ⟨h_4, hw⟩ := hw
      exact ih x1 x2 (x3 + 1) h1 h2 h_4 _ _ _ _ hw I (lv_sub hl [1, 2, 3, 0] rfl)
set_option maxRecDepth 100000 in
set_option maxHeartbeats 4000000 in
theorem mX9_begin (l : Launch) (g : GP) (a1 a2 : Int) (ha1 : inR a1) (ha2 : inR a2) (M : Mem) (post : Mem → Prop) (sz : Nat) (hw : wpX9_begin a1 a2 M post) : MVR l yX9_begin wtX9_begin rmX9_begin g [.ref (g.2.2.2 0), .int (i32 a1), .int (i32 a2)] M sz post := by
  refine Met.ofW (cc := cX9_begin) (maxL := 4) (ret := none) (by decide) rfl ?_
  intro p e s m args below meth c s₁ B hml hv
  obtain ⟨rfl, hpre⟩ := hv
  have hsz := hpre.1
  subst hsz
  have C : Cx p m c cX9_begin 4 s _ lw_g RX9 meth none := ⟨⟨B.exec, B.bytes, hml, findClass_of_methodNamed B.named, fun w h => atoms_spec (ws := wtX9_begin) B.pre w (List.mem_cons_of_mem _ h)⟩, B.returns, B.notSynchronized⟩
  obtain ⟨⟨hx, hb, hml, hown, hts⟩, hr, hlk⟩ := id C
  have I := InG.start hpre
  have hl := lv_entry ([.ref (g.2.2.2 0), .int (i32 a1), .int (i32 a2)]) (n := 4) (Nat.le_of_ble_eq_true rfl)
  rw [lg_entry_eq]
  generalize (lg_sl ([.ref (g.2.2.2 0), .int (i32 a1), .int (i32 a2)]) ++ List.replicate (4 - (lg_sl ([.ref (g.2.2.2 0), .int (i32 a1), .int (i32 a2)])).length) Slot.unset).toArray = ls at hl ⊢
  have hl : lv_has ls 4 [(0, .ref (g.2.2.2 0)), (1, .int (i32 a1)), (2, .int (i32 a2))] := hl
  show W p l e rmX9_begin s m _ below meth c s.heap [] 0 0 (QVR below _ s g post) _
  refine li_iconst hx hb dX9_begin_0 ?_
  refine lv_istore_n (lv' := [(3, .int (i32 0)), (0, .ref (g.2.2.2 0)), (1, .int (i32 a1)), (2, .int (i32 a2))]) hx hb dX9_begin_1 rfl hl (by decide) rfl (fun ls hl => ?_)
  obtain ⟨n1, hw⟩ := hw
  exact bX9_begin_2 C post n1 a1 a2 0 ha1 ha2 (by decide) _ _ _ _ hw I (lv_sub hl [1, 2, 3, 0] rfl)
abbrev rmX9_findWay : Room := { frames := 0, cells := 0, slots := 0, locals := 0 }
abbrev wtX9_findWay : List Cond := Cond.code yX9_findWay cX9_findWay 5 (some .int) :: lw_g
set_option maxRecDepth 100000 in
set_option maxHeartbeats 4000000 in
theorem bX9_findWay_337 {p : Program} {l : Launch} {e : Env} {s : State} {m : MethodId} {args : Array Value} {below : List Frame} {meth : Method} {c : Code} {g : GP} (C : Cx p m c cX9_findWay 5 s args lw_g RX9 meth (some .int)) (post : Int → Mem → Prop) (k263 : Int → Int → Mem → Prop) (hk263 : ∀ (x2 x3 : Int), inR x2 → inR x3 → ∀ (M : Mem) (H : Heap) (locs : List Loc) (ls : Array Slot), k263 x2 x3 M → IR g s M H locs → lv_has ls 5 [(0, .ref (g.2.2.2 0)), (2, .int (i32 x2)), (3, .int (i32 x3))] → W p l e rmX9_findWay s m args below meth c H locs 0 0 (QIR below args s g post) (F0 m 263 ls [])) : ∀ (x3 t0 : Int), inR x3 → inR t0 → ∀ (M : Mem) (H : Heap) (locs : List Loc) (ls : Array Slot), jbX9_findWay_337 post k263 x3 t0 M → IR g s M H locs → lv_has ls 5 [(0, .ref (g.2.2.2 0)), (3, .int (i32 x3))] → W p l e rmX9_findWay s m args below meth c H locs 0 0 (QIR below args s g post) (F0 m 337 ls [.int (i32 t0)]) := by
  obtain ⟨⟨hx, hb, hml, hown, hts⟩, hr, hlk⟩ := id C
  intro x3 t0 h3 ht0 M H locs ls hw I hl
  refine lv_istore_n (lv' := [(2, .int (i32 t0)), (0, .ref (g.2.2.2 0)), (3, .int (i32 x3))]) hx hb dX9_findWay_337 rfl hl (by decide) rfl (fun ls hl => ?_)
  refine li_iinc (lv' := [(3, .int (i32 (x3 + 1))), (2, .int (i32 t0)), (0, .ref (g.2.2.2 0))]) hx hb dX9_findWay_338 hl (k := 2) rfl (by decide) rfl (fun ls hl => ?_)
  refine lv_goto (tgt := 263) hx hb dX9_findWay_341 (by decide) ?_
  obtain ⟨h_1, hw⟩ := hw
  exact hk263 t0 (x3 + 1) ht0 h_1 _ _ _ _ hw I (lv_sub hl [2, 1, 0] rfl)
set_option maxRecDepth 100000 in
set_option maxHeartbeats 4000000 in
theorem bX9_findWay_336 {p : Program} {l : Launch} {e : Env} {s : State} {m : MethodId} {args : Array Value} {below : List Frame} {meth : Method} {c : Code} {g : GP} (C : Cx p m c cX9_findWay 5 s args lw_g RX9 meth (some .int)) (post : Int → Mem → Prop) (k263 : Int → Int → Mem → Prop) (hk263 : ∀ (x2 x3 : Int), inR x2 → inR x3 → ∀ (M : Mem) (H : Heap) (locs : List Loc) (ls : Array Slot), k263 x2 x3 M → IR g s M H locs → lv_has ls 5 [(0, .ref (g.2.2.2 0)), (2, .int (i32 x2)), (3, .int (i32 x3))] → W p l e rmX9_findWay s m args below meth c H locs 0 0 (QIR below args s g post) (F0 m 263 ls [])) : ∀ (x2 x3 : Int), inR x2 → inR x3 → ∀ (M : Mem) (H : Heap) (locs : List Loc) (ls : Array Slot), jbX9_findWay_336 post k263 x2 x3 M → IR g s M H locs → lv_has ls 5 [(0, .ref (g.2.2.2 0)), (2, .int (i32 x2)), (3, .int (i32 x3))] → W p l e rmX9_findWay s m args below meth c H locs 0 0 (QIR below args s g post) (F0 m 336 ls []) := by
  obtain ⟨⟨hx, hb, hml, hown, hts⟩, hr, hlk⟩ := id C
  intro x2 x3 h2 h3 M H locs ls hw I hl
  refine lv_iload_n hx hb dX9_findWay_336 rfl (lv_at hl 1 rfl) ?_
  exact bX9_findWay_337 C post k263 hk263 x3 x2 h3 h2 _ _ _ _ hw I (lv_sub hl [0, 2] rfl)
set_option maxRecDepth 100000 in
set_option maxHeartbeats 4000000 in
theorem bX9_findWay_332 {p : Program} {l : Launch} {e : Env} {s : State} {m : MethodId} {args : Array Value} {below : List Frame} {meth : Method} {c : Code} {g : GP} (C : Cx p m c cX9_findWay 5 s args lw_g RX9 meth (some .int)) (post : Int → Mem → Prop) (k263 : Int → Int → Mem → Prop) (hk263 : ∀ (x2 x3 : Int), inR x2 → inR x3 → ∀ (M : Mem) (H : Heap) (locs : List Loc) (ls : Array Slot), k263 x2 x3 M → IR g s M H locs → lv_has ls 5 [(0, .ref (g.2.2.2 0)), (2, .int (i32 x2)), (3, .int (i32 x3))] → W p l e rmX9_findWay s m args below meth c H locs 0 0 (QIR below args s g post) (F0 m 263 ls [])) : ∀ (x3 : Int), inR x3 → ∀ (M : Mem) (H : Heap) (locs : List Loc) (ls : Array Slot), jbX9_findWay_332 post k263 x3 M → IR g s M H locs → lv_has ls 5 [(0, .ref (g.2.2.2 0)), (3, .int (i32 x3))] → W p l e rmX9_findWay s m args below meth c H locs 0 0 (QIR below args s g post) (F0 m 332 ls []) := by
  obtain ⟨⟨hx, hb, hml, hown, hts⟩, hr, hlk⟩ := id C
  intro x3 h3 M H locs ls hw I hl
  refine lv_iload_n hx hb dX9_findWay_332 rfl (lv_at hl 1 rfl) ?_
  refine lv_goto (tgt := 337) hx hb dX9_findWay_333 (by decide) ?_
  exact bX9_findWay_337 C post k263 hk263 x3 x3 h3 h3 _ _ _ _ hw I (lv_sub hl [0, 1] rfl)
set_option maxRecDepth 100000 in
set_option maxHeartbeats 4000000 in
theorem bX9_findWay_299 {p : Program} {l : Launch} {e : Env} {s : State} {m : MethodId} {args : Array Value} {below : List Frame} {meth : Method} {c : Code} {g : GP} (C : Cx p m c cX9_findWay 5 s args lw_g RX9 meth (some .int)) (post : Int → Mem → Prop) (k263 : Int → Int → Mem → Prop) (hk263 : ∀ (x2 x3 : Int), inR x2 → inR x3 → ∀ (M : Mem) (H : Heap) (locs : List Loc) (ls : Array Slot), k263 x2 x3 M → IR g s M H locs → lv_has ls 5 [(0, .ref (g.2.2.2 0)), (2, .int (i32 x2)), (3, .int (i32 x3))] → W p l e rmX9_findWay s m args below meth c H locs 0 0 (QIR below args s g post) (F0 m 263 ls [])) : ∀ (x2 x3 t0 : Int), inR x2 → inR x3 → inR t0 → ∀ (M : Mem) (H : Heap) (locs : List Loc) (ls : Array Slot), jbX9_findWay_299 post k263 x2 x3 t0 M → IR g s M H locs → lv_has ls 5 [(0, .ref (g.2.2.2 0)), (2, .int (i32 x2)), (3, .int (i32 x3))] → W p l e rmX9_findWay s m args below meth c H locs 0 0 (QIR below args s g post) (F0 m 299 ls [.int (i32 t0)]) := by
  obtain ⟨⟨hx, hb, hml, hown, hts⟩, hr, hlk⟩ := id C
  intro x2 x3 t0 h2 h3 ht0 M H locs ls hw I hl
  refine lv_istore (lv' := [(4, .int (i32 t0)), (0, .ref (g.2.2.2 0)), (2, .int (i32 x2)), (3, .int (i32 x3))]) hx hb dX9_findWay_299 hl (by decide) rfl (fun ls hl => ?_)
  refine lv_iload hx hb dX9_findWay_301 (lv_at hl 0 rfl) ?_
  refine li_if_eq (tgt := 336) hx hb dX9_findWay_303 (by decide) ht0 (fun c_1 => ?_) (fun c_1 => ?_)
  · replace hw := hw.1 c_1
    exact bX9_findWay_336 C post k263 hk263 x2 x3 h2 h3 _ _ _ _ hw I (lv_sub hl [1, 2, 3] rfl)
  · replace hw := hw.2 c_1
    refine lv_iload_n hx hb dX9_findWay_306 rfl (lv_at hl 2 rfl) ?_
    refine li_iconst hx hb dX9_findWay_307 ?_
    refine li_icmp_eq (tgt := 332) hx hb dX9_findWay_308 (by decide) h2 (by decide) (fun c_2 => ?_) (fun c_2 => ?_)
    · replace hw := hw.1 c_2
      exact bX9_findWay_332 C post k263 hk263 x3 h3 _ _ _ _ hw I (lv_sub hl [1, 3] rfl)
    · replace hw := hw.2 c_2
      refine lv_aload_n hx hb dX9_findWay_311 rfl (lv_at hl 1 rfl) ?_
      refine rg_0_19 hx hb hts wu_X9 hown I wf_X9_52 dX9_findWay_312 ?_
      refine lv_bipush (v := i32 10) hx hb dX9_findWay_315 (by decide) ?_
      refine lv_iload_n hx hb dX9_findWay_317 rfl (lv_at hl 3 rfl) ?_
      refine li_iadd hx hb dX9_findWay_318 ?_
      obtain ⟨h_3, hw⟩ := hw
      refine r_iald hx hb I 15 lenR_15 (by decide) h_3 dX9_findWay_319 ?_
      have h_4 := I.rng 15 (10 + x3)
      refine lv_aload_n hx hb dX9_findWay_320 rfl (lv_at hl 1 rfl) ?_
      refine rg_0_19 hx hb hts wu_X9 hown I wf_X9_52 dX9_findWay_321 ?_
      refine lv_bipush (v := i32 10) hx hb dX9_findWay_324 (by decide) ?_
      refine lv_iload_n hx hb dX9_findWay_326 rfl (lv_at hl 2 rfl) ?_
      refine li_iadd hx hb dX9_findWay_327 ?_
      obtain ⟨h_5, hw⟩ := hw
      refine r_iald hx hb I 15 lenR_15 (by decide) h_5 dX9_findWay_328 ?_
      have h_6 := I.rng 15 (10 + x2)
      refine li_icmp_ge (tgt := 336) hx hb dX9_findWay_329 (by decide) h_4 h_6 (fun c_7 => ?_) (fun c_7 => ?_)
      · replace hw := hw.1 c_7
        exact bX9_findWay_336 C post k263 hk263 x2 x3 h2 h3 _ _ _ _ hw I (lv_sub hl [1, 2, 3] rfl)
      · replace hw := hw.2 c_7
        exact bX9_findWay_332 C post k263 hk263 x3 h3 _ _ _ _ hw I (lv_sub hl [1, 3] rfl)
set_option maxRecDepth 100000 in
set_option maxHeartbeats 4000000 in
theorem bX9_findWay_298 {p : Program} {l : Launch} {e : Env} {s : State} {m : MethodId} {args : Array Value} {below : List Frame} {meth : Method} {c : Code} {g : GP} (C : Cx p m c cX9_findWay 5 s args lw_g RX9 meth (some .int)) (post : Int → Mem → Prop) (k263 : Int → Int → Mem → Prop) (hk263 : ∀ (x2 x3 : Int), inR x2 → inR x3 → ∀ (M : Mem) (H : Heap) (locs : List Loc) (ls : Array Slot), k263 x2 x3 M → IR g s M H locs → lv_has ls 5 [(0, .ref (g.2.2.2 0)), (2, .int (i32 x2)), (3, .int (i32 x3))] → W p l e rmX9_findWay s m args below meth c H locs 0 0 (QIR below args s g post) (F0 m 263 ls [])) : ∀ (x2 x3 : Int), inR x2 → inR x3 → ∀ (M : Mem) (H : Heap) (locs : List Loc) (ls : Array Slot), jbX9_findWay_298 post k263 x2 x3 M → IR g s M H locs → lv_has ls 5 [(0, .ref (g.2.2.2 0)), (2, .int (i32 x2)), (3, .int (i32 x3))] → W p l e rmX9_findWay s m args below meth c H locs 0 0 (QIR below args s g post) (F0 m 298 ls []) := by
  obtain ⟨⟨hx, hb, hml, hown, hts⟩, hr, hlk⟩ := id C
  intro x2 x3 h2 h3 M H locs ls hw I hl
  refine li_iconst hx hb dX9_findWay_298 ?_
  exact bX9_findWay_299 C post k263 hk263 x2 x3 0 h2 h3 (by decide) _ _ _ _ hw I (lv_sub hl [0, 1, 2] rfl)
set_option maxRecDepth 100000 in
set_option maxHeartbeats 4000000 in
theorem bX9_findWay_263 {p : Program} {l : Launch} {e : Env} {s : State} {m : MethodId} {args : Array Value} {below : List Frame} {meth : Method} {c : Code} {g : GP} (C : Cx p m c cX9_findWay 5 s args lw_g RX9 meth (some .int)) (post : Int → Mem → Prop) : ∀ (n : Nat), ∀ (x2 x3 : Int), inR x2 → inR x3 → ∀ (M : Mem) (H : Heap) (locs : List Loc) (ls : Array Slot), lpX9_findWay_263 post n x2 x3 M → IR g s M H locs → lv_has ls 5 [(0, .ref (g.2.2.2 0)), (2, .int (i32 x2)), (3, .int (i32 x3))] → W p l e rmX9_findWay s m args below meth c H locs 0 0 (QIR below args s g post) (F0 m 263 ls []) := by
  obtain ⟨⟨hx, hb, hml, hown, hts⟩, hr, hlk⟩ := id C
  intro n
  induction n with
  | zero =>
    intro x2 x3 h2 h3 M H locs ls hw
    exact hw.elim
  | succ n ih =>
    intro x2 x3 h2 h3 M H locs ls hw I hl
    refine lv_iload_n hx hb dX9_findWay_263 rfl (lv_at hl 2 rfl) ?_
    refine lv_aload_n hx hb dX9_findWay_264 rfl (lv_at hl 0 rfl) ?_
    refine rg_0_0 hx hb hts wu_X9 hown I wf_X9_86 dX9_findWay_265 ?_
    have h_1 := I.rng 0 0
    refine li_icmp_ge (tgt := 344) hx hb dX9_findWay_268 (by decide) h3 h_1 (fun c_2 => ?_) (fun c_2 => ?_)
    · replace hw := hw.1 c_2
      refine lv_iload_n hx hb dX9_findWay_344 rfl (lv_at hl 1 rfl) ?_
      exact g_iret hx hb hr hlk I h2 hw dX9_findWay_345
    · replace hw := hw.2 c_2
      refine lv_aload_n hx hb dX9_findWay_271 rfl (lv_at hl 0 rfl) ?_
      refine rg_0_17 hx hb hts wu_X9 hown I wf_X9_46 dX9_findWay_272 ?_
      refine lv_iload_n hx hb dX9_findWay_275 rfl (lv_at hl 2 rfl) ?_
      obtain ⟨h_3, hw⟩ := hw
      refine r_iald hx hb I 13 lenR_13 (by decide) h_3 dX9_findWay_276 ?_
      have h_4 := I.rng 13 x3
      refine li_if_le (tgt := 298) hx hb dX9_findWay_277 (by decide) h_4 (fun c_5 => ?_) (fun c_5 => ?_)
      · replace hw := hw.1 c_5
        exact bX9_findWay_298 C post (fun y2 y3 N => lpX9_findWay_263 post n y2 y3 N) ih x2 x3 h2 h3 _ _ _ _ hw I (lv_sub hl [0, 1, 2] rfl)
      · replace hw := hw.2 c_5
        refine lv_aload_n hx hb dX9_findWay_280 rfl (lv_at hl 0 rfl) ?_
        refine rg_0_19 hx hb hts wu_X9 hown I wf_X9_52 dX9_findWay_281 ?_
        refine lv_bipush (v := i32 10) hx hb dX9_findWay_284 (by decide) ?_
        refine lv_iload_n hx hb dX9_findWay_286 rfl (lv_at hl 2 rfl) ?_
        refine li_iadd hx hb dX9_findWay_287 ?_
        obtain ⟨h_6, hw⟩ := hw
        refine r_iald hx hb I 15 lenR_15 (by decide) h_6 dX9_findWay_288 ?_
        have h_7 := I.rng 15 (10 + x3)
        refine lv_ldc (v := i32 1000000000) hx hb hown (hts _ wk_X9_115) dX9_findWay_289 ?_
        refine li_icmp_ge (tgt := 298) hx hb dX9_findWay_291 (by decide) h_7 (by decide) (fun c_8 => ?_) (fun c_8 => ?_)
        · replace hw := hw.1 c_8
          exact bX9_findWay_298 C post (fun y2 y3 N => lpX9_findWay_263 post n y2 y3 N) ih x2 x3 h2 h3 _ _ _ _ hw I (lv_sub hl [0, 1, 2] rfl)
        · replace hw := hw.2 c_8
          refine li_iconst hx hb dX9_findWay_294 ?_
          refine lv_goto (tgt := 299) hx hb dX9_findWay_295 (by decide) ?_
          exact bX9_findWay_299 C post (fun y2 y3 N => lpX9_findWay_263 post n y2 y3 N) ih x2 x3 1 h2 h3 (by decide) _ _ _ _ hw I (lv_sub hl [0, 1, 2] rfl)
set_option maxRecDepth 100000 in
set_option maxHeartbeats 4000000 in
theorem bX9_findWay_244 {p : Program} {l : Launch} {e : Env} {s : State} {m : MethodId} {args : Array Value} {below : List Frame} {meth : Method} {c : Code} {g : GP} (C : Cx p m c cX9_findWay 5 s args lw_g RX9 meth (some .int)) (post : Int → Mem → Prop) (k67 : Int → Mem → Prop) (k75 : Int → Int → Mem → Prop) (k85 : Int → Int → Int → Mem → Prop) (hk67 : ∀ (x1 : Int), inR x1 → ∀ (M : Mem) (H : Heap) (locs : List Loc) (ls : Array Slot), k67 x1 M → IR g s M H locs → lv_has ls 5 [(0, .ref (g.2.2.2 0)), (1, .int (i32 x1))] → W p l e rmX9_findWay s m args below meth c H locs 0 0 (QIR below args s g post) (F0 m 67 ls [])) (hk75 : ∀ (x1 x2 : Int), inR x1 → inR x2 → ∀ (M : Mem) (H : Heap) (locs : List Loc) (ls : Array Slot), k75 x1 x2 M → IR g s M H locs → lv_has ls 5 [(0, .ref (g.2.2.2 0)), (1, .int (i32 x1)), (2, .int (i32 x2))] → W p l e rmX9_findWay s m args below meth c H locs 0 0 (QIR below args s g post) (F0 m 75 ls [])) (hk85 : ∀ (x1 x2 x3 : Int), inR x1 → inR x2 → inR x3 → ∀ (M : Mem) (H : Heap) (locs : List Loc) (ls : Array Slot), k85 x1 x2 x3 M → IR g s M H locs → lv_has ls 5 [(0, .ref (g.2.2.2 0)), (1, .int (i32 x1)), (2, .int (i32 x2)), (3, .int (i32 x3))] → W p l e rmX9_findWay s m args below meth c H locs 0 0 (QIR below args s g post) (F0 m 85 ls [])) : ∀ (x1 x2 x3 : Int), inR x1 → inR x2 → inR x3 → ∀ (M : Mem) (H : Heap) (locs : List Loc) (ls : Array Slot), jbX9_findWay_244 post k67 k75 k85 x1 x2 x3 M → IR g s M H locs → lv_has ls 5 [(0, .ref (g.2.2.2 0)), (1, .int (i32 x1)), (2, .int (i32 x2)), (3, .int (i32 x3))] → W p l e rmX9_findWay s m args below meth c H locs 0 0 (QIR below args s g post) (F0 m 244 ls []) := by
  obtain ⟨⟨hx, hb, hml, hown, hts⟩, hr, hlk⟩ := id C
  intro x1 x2 x3 h1 h2 h3 M H locs ls hw I hl
  refine li_iinc (lv' := [(3, .int (i32 (x3 + 1))), (0, .ref (g.2.2.2 0)), (1, .int (i32 x1)), (2, .int (i32 x2))]) hx hb dX9_findWay_244 hl (k := 3) rfl (by decide) rfl (fun ls hl => ?_)
  refine lv_goto (tgt := 85) hx hb dX9_findWay_247 (by decide) ?_
  obtain ⟨h_1, hw⟩ := hw
  exact hk85 x1 x2 (x3 + 1) h1 h2 h_1 _ _ _ _ hw I (lv_sub hl [1, 2, 3, 0] rfl)
set_option maxRecDepth 100000 in
set_option maxHeartbeats 4000000 in
theorem bX9_findWay_168 {p : Program} {l : Launch} {e : Env} {s : State} {m : MethodId} {args : Array Value} {below : List Frame} {meth : Method} {c : Code} {g : GP} (C : Cx p m c cX9_findWay 5 s args lw_g RX9 meth (some .int)) (post : Int → Mem → Prop) (k67 : Int → Mem → Prop) (k75 : Int → Int → Mem → Prop) (k85 : Int → Int → Int → Mem → Prop) (hk67 : ∀ (x1 : Int), inR x1 → ∀ (M : Mem) (H : Heap) (locs : List Loc) (ls : Array Slot), k67 x1 M → IR g s M H locs → lv_has ls 5 [(0, .ref (g.2.2.2 0)), (1, .int (i32 x1))] → W p l e rmX9_findWay s m args below meth c H locs 0 0 (QIR below args s g post) (F0 m 67 ls [])) (hk75 : ∀ (x1 x2 : Int), inR x1 → inR x2 → ∀ (M : Mem) (H : Heap) (locs : List Loc) (ls : Array Slot), k75 x1 x2 M → IR g s M H locs → lv_has ls 5 [(0, .ref (g.2.2.2 0)), (1, .int (i32 x1)), (2, .int (i32 x2))] → W p l e rmX9_findWay s m args below meth c H locs 0 0 (QIR below args s g post) (F0 m 75 ls [])) (hk85 : ∀ (x1 x2 x3 : Int), inR x1 → inR x2 → inR x3 → ∀ (M : Mem) (H : Heap) (locs : List Loc) (ls : Array Slot), k85 x1 x2 x3 M → IR g s M H locs → lv_has ls 5 [(0, .ref (g.2.2.2 0)), (1, .int (i32 x1)), (2, .int (i32 x2)), (3, .int (i32 x3))] → W p l e rmX9_findWay s m args below meth c H locs 0 0 (QIR below args s g post) (F0 m 85 ls [])) : ∀ (x1 x2 x3 x4 : Int), inR x1 → inR x2 → inR x3 → inR x4 → ∀ (M : Mem) (H : Heap) (locs : List Loc) (ls : Array Slot), jbX9_findWay_168 post k67 k75 k85 x1 x2 x3 x4 M → IR g s M H locs → lv_has ls 5 [(0, .ref (g.2.2.2 0)), (1, .int (i32 x1)), (2, .int (i32 x2)), (3, .int (i32 x3)), (4, .int (i32 x4))] → W p l e rmX9_findWay s m args below meth c H locs 0 0 (QIR below args s g post) (F0 m 168 ls []) := by
  obtain ⟨⟨hx, hb, hml, hown, hts⟩, hr, hlk⟩ := id C
  intro x1 x2 x3 x4 h1 h2 h3 h4 M H locs ls hw I hl
  refine lv_aload_n hx hb dX9_findWay_168 rfl (lv_at hl 0 rfl) ?_
  refine rg_0_15 hx hb hts wu_X9 hown I wf_X9_40 dX9_findWay_169 ?_
  refine lv_bipush (v := i32 10) hx hb dX9_findWay_172 (by decide) ?_
  refine lv_iload_n hx hb dX9_findWay_174 rfl (lv_at hl 2 rfl) ?_
  refine li_imul hx hb dX9_findWay_175 ?_
  refine lv_iload_n hx hb dX9_findWay_176 rfl (lv_at hl 3 rfl) ?_
  refine li_iadd hx hb dX9_findWay_177 ?_
  obtain ⟨h_1, hw⟩ := hw
  refine r_iald hx hb I 11 lenR_11 (by decide) h_1 dX9_findWay_178 ?_
  have h_2 := I.rng 11 ((10 * x2) + x3)
  refine li_if_le (tgt := 244) hx hb dX9_findWay_179 (by decide) h_2 (fun c_3 => ?_) (fun c_3 => ?_)
  · replace hw := hw.1 c_3
    exact bX9_findWay_244 C post k67 k75 k85 hk67 hk75 hk85 x1 x2 x3 h1 h2 h3 _ _ _ _ hw I (lv_sub hl [0, 1, 2, 3] rfl)
  · replace hw := hw.2 c_3
    refine lv_aload_n hx hb dX9_findWay_182 rfl (lv_at hl 0 rfl) ?_
    refine rg_0_19 hx hb hts wu_X9 hown I wf_X9_52 dX9_findWay_183 ?_
    refine lv_bipush (v := i32 10) hx hb dX9_findWay_186 (by decide) ?_
    refine lv_iload_n hx hb dX9_findWay_188 rfl (lv_at hl 3 rfl) ?_
    refine li_iadd hx hb dX9_findWay_189 ?_
    obtain ⟨h_4, hw⟩ := hw
    refine r_iald hx hb I 15 lenR_15 (by decide) h_4 dX9_findWay_190 ?_
    have h_5 := I.rng 15 (10 + x3)
    refine lv_ldc (v := i32 1000000000) hx hb hown (hts _ wk_X9_115) dX9_findWay_191 ?_
    refine li_icmp_ge (tgt := 244) hx hb dX9_findWay_193 (by decide) h_5 (by decide) (fun c_6 => ?_) (fun c_6 => ?_)
    · replace hw := hw.1 c_6
      exact bX9_findWay_244 C post k67 k75 k85 hk67 hk75 hk85 x1 x2 x3 h1 h2 h3 _ _ _ _ hw I (lv_sub hl [0, 1, 2, 3] rfl)
    · replace hw := hw.2 c_6
      refine lv_aload_n hx hb dX9_findWay_196 rfl (lv_at hl 0 rfl) ?_
      refine rg_0_19 hx hb hts wu_X9 hown I wf_X9_52 dX9_findWay_197 ?_
      refine lv_bipush (v := i32 10) hx hb dX9_findWay_200 (by decide) ?_
      refine lv_iload_n hx hb dX9_findWay_202 rfl (lv_at hl 3 rfl) ?_
      refine li_iadd hx hb dX9_findWay_203 ?_
      obtain ⟨h_7, hw⟩ := hw
      refine r_iald hx hb I 15 lenR_15 (by decide) h_7 dX9_findWay_204 ?_
      have h_8 := I.rng 15 (10 + x3)
      refine lv_iload hx hb dX9_findWay_205 (lv_at hl 4 rfl) ?_
      refine li_isub hx hb dX9_findWay_207 ?_
      refine lv_aload_n hx hb dX9_findWay_208 rfl (lv_at hl 0 rfl) ?_
      refine rg_0_19 hx hb hts wu_X9 hown I wf_X9_52 dX9_findWay_209 ?_
      refine lv_iload_n hx hb dX9_findWay_212 rfl (lv_at hl 2 rfl) ?_
      obtain ⟨h_9, hw⟩ := hw
      refine r_iald hx hb I 15 lenR_15 (by decide) h_9 dX9_findWay_213 ?_
      have h_10 := I.rng 15 x2
      obtain ⟨h_12, hw⟩ := hw
      refine li_icmp_ge (tgt := 244) hx hb dX9_findWay_214 (by decide) h_12 h_10 (fun c_11 => ?_) (fun c_11 => ?_)
      · replace hw := hw.1 c_11
        exact bX9_findWay_244 C post k67 k75 k85 hk67 hk75 hk85 x1 x2 x3 h1 h2 h3 _ _ _ _ hw I (lv_sub hl [0, 1, 2, 3] rfl)
      · replace hw := hw.2 c_11
        refine lv_aload_n hx hb dX9_findWay_217 rfl (lv_at hl 0 rfl) ?_
        refine rg_0_19 hx hb hts wu_X9 hown I wf_X9_52 dX9_findWay_218 ?_
        refine lv_iload_n hx hb dX9_findWay_221 rfl (lv_at hl 2 rfl) ?_
        refine lv_aload_n hx hb dX9_findWay_222 rfl (lv_at hl 0 rfl) ?_
        refine rg_0_19 hx hb hts wu_X9 hown I wf_X9_52 dX9_findWay_223 ?_
        refine lv_bipush (v := i32 10) hx hb dX9_findWay_226 (by decide) ?_
        refine lv_iload_n hx hb dX9_findWay_228 rfl (lv_at hl 3 rfl) ?_
        refine li_iadd hx hb dX9_findWay_229 ?_
        obtain ⟨h_13, hw⟩ := hw
        refine r_iald hx hb I 15 lenR_15 (by decide) h_13 dX9_findWay_230 ?_
        have h_14 := I.rng 15 (10 + x3)
        refine lv_iload hx hb dX9_findWay_231 (lv_at hl 4 rfl) ?_
        refine li_isub hx hb dX9_findWay_233 ?_
        obtain ⟨h_15, hw⟩ := hw
        refine r_iast hx hb I 15 lenR_15 (by decide) h_15 h_12 dX9_findWay_234 (fun H locs M234_15 eM234_15 I => ?_)
        replace hw := hw M234_15 eM234_15
        refine lv_aload_n hx hb dX9_findWay_235 rfl (lv_at hl 0 rfl) ?_
        refine rg_0_20 hx hb hts wu_X9 hown I wf_X9_55 dX9_findWay_236 ?_
        refine lv_iload_n hx hb dX9_findWay_239 rfl (lv_at hl 2 rfl) ?_
        refine lv_iload_n hx hb dX9_findWay_240 rfl (lv_at hl 3 rfl) ?_
        obtain ⟨h_17, hw⟩ := hw
        refine r_iast hx hb I 16 lenR_16 (by decide) h_17 h3 dX9_findWay_241 (fun H locs M241_17 eM241_17 I => ?_)
        replace hw := hw M241_17 eM241_17
        refine li_iconst hx hb dX9_findWay_242 ?_
        refine lv_istore_n (lv' := [(1, .int (i32 1)), (0, .ref (g.2.2.2 0)), (2, .int (i32 x2)), (3, .int (i32 x3)), (4, .int (i32 x4))]) hx hb dX9_findWay_243 rfl hl (by decide) rfl (fun ls hl => ?_)
        exact bX9_findWay_244 C post k67 k75 k85 hk67 hk75 hk85 1 x2 x3 (by decide) h2 h3 _ _ _ _ hw I (lv_sub hl [1, 0, 2, 3] rfl)
set_option maxRecDepth 100000 in
set_option maxHeartbeats 4000000 in
theorem bX9_findWay_85 {p : Program} {l : Launch} {e : Env} {s : State} {m : MethodId} {args : Array Value} {below : List Frame} {meth : Method} {c : Code} {g : GP} (C : Cx p m c cX9_findWay 5 s args lw_g RX9 meth (some .int)) (post : Int → Mem → Prop) (k67 : Int → Mem → Prop) (k75 : Int → Int → Mem → Prop) (hk67 : ∀ (x1 : Int), inR x1 → ∀ (M : Mem) (H : Heap) (locs : List Loc) (ls : Array Slot), k67 x1 M → IR g s M H locs → lv_has ls 5 [(0, .ref (g.2.2.2 0)), (1, .int (i32 x1))] → W p l e rmX9_findWay s m args below meth c H locs 0 0 (QIR below args s g post) (F0 m 67 ls [])) (hk75 : ∀ (x1 x2 : Int), inR x1 → inR x2 → ∀ (M : Mem) (H : Heap) (locs : List Loc) (ls : Array Slot), k75 x1 x2 M → IR g s M H locs → lv_has ls 5 [(0, .ref (g.2.2.2 0)), (1, .int (i32 x1)), (2, .int (i32 x2))] → W p l e rmX9_findWay s m args below meth c H locs 0 0 (QIR below args s g post) (F0 m 75 ls [])) : ∀ (n : Nat), ∀ (x1 x2 x3 : Int), inR x1 → inR x2 → inR x3 → ∀ (M : Mem) (H : Heap) (locs : List Loc) (ls : Array Slot), lpX9_findWay_85 post k67 k75 n x1 x2 x3 M → IR g s M H locs → lv_has ls 5 [(0, .ref (g.2.2.2 0)), (1, .int (i32 x1)), (2, .int (i32 x2)), (3, .int (i32 x3))] → W p l e rmX9_findWay s m args below meth c H locs 0 0 (QIR below args s g post) (F0 m 85 ls []) := by
  obtain ⟨⟨hx, hb, hml, hown, hts⟩, hr, hlk⟩ := id C
  intro n
  induction n with
  | zero =>
    intro x1 x2 x3 h1 h2 h3 M H locs ls hw
    exact hw.elim
  | succ n ih =>
    intro x1 x2 x3 h1 h2 h3 M H locs ls hw I hl
    refine lv_iload_n hx hb dX9_findWay_85 rfl (lv_at hl 3 rfl) ?_
    refine lv_aload_n hx hb dX9_findWay_86 rfl (lv_at hl 0 rfl) ?_
    refine rg_0_0 hx hb hts wu_X9 hown I wf_X9_86 dX9_findWay_87 ?_
    have h_1 := I.rng 0 0
    refine li_icmp_ge (tgt := 250) hx hb dX9_findWay_90 (by decide) h3 h_1 (fun c_2 => ?_) (fun c_2 => ?_)
    · replace hw := hw.1 c_2
      refine li_iinc (lv' := [(2, .int (i32 (x2 + 1))), (0, .ref (g.2.2.2 0)), (1, .int (i32 x1)), (3, .int (i32 x3))]) hx hb dX9_findWay_250 hl (k := 2) rfl (by decide) rfl (fun ls hl => ?_)
      refine lv_goto (tgt := 75) hx hb dX9_findWay_253 (by decide) ?_
      obtain ⟨h_3, hw⟩ := hw
      exact hk75 x1 (x2 + 1) h1 h_3 _ _ _ _ hw I (lv_sub hl [1, 2, 0] rfl)
    · replace hw := hw.2 c_2
      refine lv_aload_n hx hb dX9_findWay_93 rfl (lv_at hl 0 rfl) ?_
      refine rg_0_14 hx hb hts wu_X9 hown I wf_X9_37 dX9_findWay_94 ?_
      refine lv_bipush (v := i32 10) hx hb dX9_findWay_97 (by decide) ?_
      refine lv_iload_n hx hb dX9_findWay_99 rfl (lv_at hl 2 rfl) ?_
      refine li_imul hx hb dX9_findWay_100 ?_
      refine lv_iload_n hx hb dX9_findWay_101 rfl (lv_at hl 3 rfl) ?_
      refine li_iadd hx hb dX9_findWay_102 ?_
      obtain ⟨h_4, hw⟩ := hw
      refine r_iald hx hb I 10 lenR_10 (by decide) h_4 dX9_findWay_103 ?_
      have h_5 := I.rng 10 ((10 * x2) + x3)
      refine li_name (fun v104_5 ev104_5 => ?_)
      replace hw := hw v104_5 ev104_5
      have hv104_5 : inR v104_5 := ev104_5 ▸ h_5
      refine lv_istore (lv' := [(4, .int (i32 v104_5)), (0, .ref (g.2.2.2 0)), (1, .int (i32 x1)), (2, .int (i32 x2)), (3, .int (i32 x3))]) hx hb dX9_findWay_104 hl (by decide) rfl (fun ls hl => ?_)
      refine lv_aload_n hx hb dX9_findWay_106 rfl (lv_at hl 1 rfl) ?_
      refine rg_0_19 hx hb hts wu_X9 hown I wf_X9_52 dX9_findWay_107 ?_
      refine lv_iload_n hx hb dX9_findWay_110 rfl (lv_at hl 3 rfl) ?_
      obtain ⟨h_7, hw⟩ := hw
      refine r_iald hx hb I 15 lenR_15 (by decide) h_7 dX9_findWay_111 ?_
      have h_8 := I.rng 15 x2
      refine lv_ldc (v := i32 1000000000) hx hb hown (hts _ wk_X9_115) dX9_findWay_112 ?_
      refine li_icmp_ge (tgt := 168) hx hb dX9_findWay_114 (by decide) h_8 (by decide) (fun c_9 => ?_) (fun c_9 => ?_)
      · replace hw := hw.1 c_9
        exact bX9_findWay_168 C post k67 k75 (fun y1 y2 y3 N => lpX9_findWay_85 post k67 k75 n y1 y2 y3 N) hk67 hk75 ih x1 x2 x3 v104_5 h1 h2 h3 hv104_5 _ _ _ _ hw I (lv_sub hl [1, 2, 3, 4, 0] rfl)
      · replace hw := hw.2 c_9
        refine lv_aload_n hx hb dX9_findWay_117 rfl (lv_at hl 1 rfl) ?_
        refine rg_0_19 hx hb hts wu_X9 hown I wf_X9_52 dX9_findWay_118 ?_
        refine lv_iload_n hx hb dX9_findWay_121 rfl (lv_at hl 3 rfl) ?_
        obtain ⟨h_10, hw⟩ := hw
        refine r_iald hx hb I 15 lenR_15 (by decide) h_10 dX9_findWay_122 ?_
        have h_11 := I.rng 15 x2
        refine lv_iload hx hb dX9_findWay_123 (lv_at hl 0 rfl) ?_
        refine li_iadd hx hb dX9_findWay_125 ?_
        refine lv_aload_n hx hb dX9_findWay_126 rfl (lv_at hl 1 rfl) ?_
        refine rg_0_19 hx hb hts wu_X9 hown I wf_X9_52 dX9_findWay_127 ?_
        refine lv_bipush (v := i32 10) hx hb dX9_findWay_130 (by decide) ?_
        refine lv_iload_n hx hb dX9_findWay_132 rfl (lv_at hl 4 rfl) ?_
        refine li_iadd hx hb dX9_findWay_133 ?_
        obtain ⟨h_12, hw⟩ := hw
        refine r_iald hx hb I 15 lenR_15 (by decide) h_12 dX9_findWay_134 ?_
        have h_13 := I.rng 15 (10 + x3)
        obtain ⟨h_15, hw⟩ := hw
        refine li_icmp_ge (tgt := 168) hx hb dX9_findWay_135 (by decide) h_15 h_13 (fun c_14 => ?_) (fun c_14 => ?_)
        · replace hw := hw.1 c_14
          exact bX9_findWay_168 C post k67 k75 (fun y1 y2 y3 N => lpX9_findWay_85 post k67 k75 n y1 y2 y3 N) hk67 hk75 ih x1 x2 x3 v104_5 h1 h2 h3 hv104_5 _ _ _ _ hw I (lv_sub hl [1, 2, 3, 4, 0] rfl)
        · replace hw := hw.2 c_14
          refine lv_aload_n hx hb dX9_findWay_138 rfl (lv_at hl 1 rfl) ?_
          refine rg_0_19 hx hb hts wu_X9 hown I wf_X9_52 dX9_findWay_139 ?_
          refine lv_bipush (v := i32 10) hx hb dX9_findWay_142 (by decide) ?_
          refine lv_iload_n hx hb dX9_findWay_144 rfl (lv_at hl 4 rfl) ?_
          refine li_iadd hx hb dX9_findWay_145 ?_
          refine lv_aload_n hx hb dX9_findWay_146 rfl (lv_at hl 1 rfl) ?_
          refine rg_0_19 hx hb hts wu_X9 hown I wf_X9_52 dX9_findWay_147 ?_
          refine lv_iload_n hx hb dX9_findWay_150 rfl (lv_at hl 3 rfl) ?_
          obtain ⟨h_16, hw⟩ := hw
          refine r_iald hx hb I 15 lenR_15 (by decide) h_16 dX9_findWay_151 ?_
          have h_17 := I.rng 15 x2
          refine lv_iload hx hb dX9_findWay_152 (lv_at hl 0 rfl) ?_
          refine li_iadd hx hb dX9_findWay_154 ?_
          obtain ⟨h_18, hw⟩ := hw
          refine r_iast hx hb I 15 lenR_15 (by decide) h_18 h_15 dX9_findWay_155 (fun H locs M155_18 eM155_18 I => ?_)
          replace hw := hw M155_18 eM155_18
          refine lv_aload_n hx hb dX9_findWay_156 rfl (lv_at hl 1 rfl) ?_
          refine rg_0_20 hx hb hts wu_X9 hown I wf_X9_55 dX9_findWay_157 ?_
          refine lv_bipush (v := i32 10) hx hb dX9_findWay_160 (by decide) ?_
          refine lv_iload_n hx hb dX9_findWay_162 rfl (lv_at hl 4 rfl) ?_
          refine li_iadd hx hb dX9_findWay_163 ?_
          refine lv_iload_n hx hb dX9_findWay_164 rfl (lv_at hl 3 rfl) ?_
          obtain ⟨h_20, hw⟩ := hw
          refine r_iast hx hb I 16 lenR_16 (by decide) h_20 h2 dX9_findWay_165 (fun H locs M165_20 eM165_20 I => ?_)
          replace hw := hw M165_20 eM165_20
          refine li_iconst hx hb dX9_findWay_166 ?_
          refine lv_istore_n (lv' := [(1, .int (i32 1)), (4, .int (i32 v104_5)), (0, .ref (g.2.2.2 0)), (2, .int (i32 x2)), (3, .int (i32 x3))]) hx hb dX9_findWay_167 rfl hl (by decide) rfl (fun ls hl => ?_)
          exact bX9_findWay_168 C post k67 k75 (fun y1 y2 y3 N => lpX9_findWay_85 post k67 k75 n y1 y2 y3 N) hk67 hk75 ih 1 x2 x3 v104_5 (by decide) h2 h3 hv104_5 _ _ _ _ hw I (lv_sub hl [2, 0, 3, 4, 1] rfl)
set_option maxRecDepth 100000 in
set_option maxHeartbeats 4000000 in
theorem bX9_findWay_75 {p : Program} {l : Launch} {e : Env} {s : State} {m : MethodId} {args : Array Value} {below : List Frame} {meth : Method} {c : Code} {g : GP} (C : Cx p m c cX9_findWay 5 s args lw_g RX9 meth (some .int)) (post : Int → Mem → Prop) (k67 : Int → Mem → Prop) (hk67 : ∀ (x1 : Int), inR x1 → ∀ (M : Mem) (H : Heap) (locs : List Loc) (ls : Array Slot), k67 x1 M → IR g s M H locs → lv_has ls 5 [(0, .ref (g.2.2.2 0)), (1, .int (i32 x1))] → W p l e rmX9_findWay s m args below meth c H locs 0 0 (QIR below args s g post) (F0 m 67 ls [])) : ∀ (n : Nat), ∀ (x1 x2 : Int), inR x1 → inR x2 → ∀ (M : Mem) (H : Heap) (locs : List Loc) (ls : Array Slot), lpX9_findWay_75 post k67 n x1 x2 M → IR g s M H locs → lv_has ls 5 [(0, .ref (g.2.2.2 0)), (1, .int (i32 x1)), (2, .int (i32 x2))] → W p l e rmX9_findWay s m args below meth c H locs 0 0 (QIR below args s g post) (F0 m 75 ls []) := by
  obtain ⟨⟨hx, hb, hml, hown, hts⟩, hr, hlk⟩ := id C
  intro n
  induction n with
  | zero =>
    intro x1 x2 h1 h2 M H locs ls hw
    exact hw.elim
  | succ n ih =>
    intro x1 x2 h1 h2 M H locs ls hw I hl
    refine lv_iload_n hx hb dX9_findWay_75 rfl (lv_at hl 2 rfl) ?_
    refine lv_aload_n hx hb dX9_findWay_76 rfl (lv_at hl 0 rfl) ?_
    refine rg_0_0 hx hb hts wu_X9 hown I wf_X9_86 dX9_findWay_77 ?_
    have h_1 := I.rng 0 0
    refine li_icmp_ge (tgt := 256) hx hb dX9_findWay_80 (by decide) h2 h_1 (fun c_2 => ?_) (fun c_2 => ?_)
    · replace hw := hw.1 c_2
      refine lv_goto (tgt := 67) hx hb dX9_findWay_256 (by decide) ?_
      exact hk67 x1 h1 _ _ _ _ hw I (lv_sub hl [0, 1] rfl)
    · replace hw := hw.2 c_2
      refine li_iconst hx hb dX9_findWay_83 ?_
      refine lv_istore_n (lv' := [(3, .int (i32 0)), (0, .ref (g.2.2.2 0)), (1, .int (i32 x1)), (2, .int (i32 x2))]) hx hb dX9_findWay_84 rfl hl (by decide) rfl (fun ls hl => ?_)
      obtain ⟨n1, hw⟩ := hw
      exact bX9_findWay_85 C post k67 (fun y1 y2 N => lpX9_findWay_75 post k67 n y1 y2 N) hk67 ih n1 x1 x2 0 h1 h2 (by decide) _ _ _ _ hw I (lv_sub hl [1, 2, 3, 0] rfl)
set_option maxRecDepth 100000 in
set_option maxHeartbeats 4000000 in
theorem bX9_findWay_67 {p : Program} {l : Launch} {e : Env} {s : State} {m : MethodId} {args : Array Value} {below : List Frame} {meth : Method} {c : Code} {g : GP} (C : Cx p m c cX9_findWay 5 s args lw_g RX9 meth (some .int)) (post : Int → Mem → Prop) : ∀ (n : Nat), ∀ (x1 : Int), inR x1 → ∀ (M : Mem) (H : Heap) (locs : List Loc) (ls : Array Slot), lpX9_findWay_67 post n x1 M → IR g s M H locs → lv_has ls 5 [(0, .ref (g.2.2.2 0)), (1, .int (i32 x1))] → W p l e rmX9_findWay s m args below meth c H locs 0 0 (QIR below args s g post) (F0 m 67 ls []) := by
  obtain ⟨⟨hx, hb, hml, hown, hts⟩, hr, hlk⟩ := id C
  intro n
  induction n with
  | zero =>
    intro x1 h1 M H locs ls hw
    exact hw.elim
  | succ n ih =>
    intro x1 h1 M H locs ls hw I hl
    refine lv_iload_n hx hb dX9_findWay_67 rfl (lv_at hl 1 rfl) ?_
    refine li_if_eq (tgt := 259) hx hb dX9_findWay_68 (by decide) h1 (fun c_1 => ?_) (fun c_1 => ?_)
    · replace hw := hw.1 c_1
      refine li_iconst hx hb dX9_findWay_259 ?_
      refine lv_istore_n (lv' := [(2, .int (i32 (-1))), (0, .ref (g.2.2.2 0)), (1, .int (i32 x1))]) hx hb dX9_findWay_260 rfl hl (by decide) rfl (fun ls hl => ?_)
      refine li_iconst hx hb dX9_findWay_261 ?_
      refine lv_istore_n (lv' := [(3, .int (i32 0)), (2, .int (i32 (-1))), (0, .ref (g.2.2.2 0)), (1, .int (i32 x1))]) hx hb dX9_findWay_262 rfl hl (by decide) rfl (fun ls hl => ?_)
      obtain ⟨n1, hw⟩ := hw
      exact bX9_findWay_263 C post n1 (-1) 0 (by decide) (by decide) _ _ _ _ hw I (lv_sub hl [2, 1, 0] rfl)
    · replace hw := hw.2 c_1
      refine li_iconst hx hb dX9_findWay_71 ?_
      refine lv_istore_n (lv' := [(1, .int (i32 0)), (0, .ref (g.2.2.2 0))]) hx hb dX9_findWay_72 rfl hl (by decide) rfl (fun ls hl => ?_)
      refine li_iconst hx hb dX9_findWay_73 ?_
      refine lv_istore_n (lv' := [(2, .int (i32 0)), (1, .int (i32 0)), (0, .ref (g.2.2.2 0))]) hx hb dX9_findWay_74 rfl hl (by decide) rfl (fun ls hl => ?_)
      obtain ⟨n1, hw⟩ := hw
      exact bX9_findWay_75 C post (fun y1 N => lpX9_findWay_67 post n y1 N) ih n1 0 0 (by decide) (by decide) _ _ _ _ hw I (lv_sub hl [2, 1, 0] rfl)
set_option maxRecDepth 100000 in
set_option maxHeartbeats 4000000 in
theorem bX9_findWay_30 {p : Program} {l : Launch} {e : Env} {s : State} {m : MethodId} {args : Array Value} {below : List Frame} {meth : Method} {c : Code} {g : GP} (C : Cx p m c cX9_findWay 5 s args lw_g RX9 meth (some .int)) (post : Int → Mem → Prop) (k2 : Int → Mem → Prop) (hk2 : ∀ (x1 : Int), inR x1 → ∀ (M : Mem) (H : Heap) (locs : List Loc) (ls : Array Slot), k2 x1 M → IR g s M H locs → lv_has ls 5 [(0, .ref (g.2.2.2 0)), (1, .int (i32 x1))] → W p l e rmX9_findWay s m args below meth c H locs 0 0 (QIR below args s g post) (F0 m 2 ls [])) : ∀ (x1 t0 t1 : Int), inR x1 → inR t0 → inR t1 → ∀ (M : Mem) (H : Heap) (locs : List Loc) (ls : Array Slot), jbX9_findWay_30 post k2 x1 t0 t1 M → IR g s M H locs → lv_has ls 5 [(0, .ref (g.2.2.2 0)), (1, .int (i32 x1))] → W p l e rmX9_findWay s m args below meth c H locs 0 0 (QIR below args s g post) (F0 m 30 ls [.int (i32 t0), .int (i32 t1), .ref (g.2.2.2 15)]) := by
  obtain ⟨⟨hx, hb, hml, hown, hts⟩, hr, hlk⟩ := id C
  intro x1 t0 t1 h1 ht0 ht1 M H locs ls hw I hl
  obtain ⟨h_1, hw⟩ := hw
  refine r_iast hx hb I 15 lenR_15 (by decide) h_1 ht0 dX9_findWay_30 (fun H locs M30_1 eM30_1 I => ?_)
  replace hw := hw M30_1 eM30_1
  refine lv_aload_n hx hb dX9_findWay_31 rfl (lv_at hl 0 rfl) ?_
  refine rg_0_19 hx hb hts wu_X9 hown I wf_X9_52 dX9_findWay_32 ?_
  refine lv_bipush (v := i32 10) hx hb dX9_findWay_35 (by decide) ?_
  refine lv_iload_n hx hb dX9_findWay_37 rfl (lv_at hl 1 rfl) ?_
  refine li_iadd hx hb dX9_findWay_38 ?_
  refine lv_ldc (v := i32 1000000000) hx hb hown (hts _ wk_X9_115) dX9_findWay_39 ?_
  obtain ⟨h_3, hw⟩ := hw
  refine r_iast hx hb I 15 lenR_15 (by decide) h_3 (by decide) dX9_findWay_41 (fun H locs M41_3 eM41_3 I => ?_)
  replace hw := hw M41_3 eM41_3
  refine lv_aload_n hx hb dX9_findWay_42 rfl (lv_at hl 0 rfl) ?_
  refine rg_0_20 hx hb hts wu_X9 hown I wf_X9_55 dX9_findWay_43 ?_
  refine lv_iload_n hx hb dX9_findWay_46 rfl (lv_at hl 1 rfl) ?_
  refine li_iconst hx hb dX9_findWay_47 ?_
  obtain ⟨h_5, hw⟩ := hw
  refine r_iast hx hb I 16 lenR_16 (by decide) h_5 (by decide) dX9_findWay_48 (fun H locs M48_5 eM48_5 I => ?_)
  replace hw := hw M48_5 eM48_5
  refine lv_aload_n hx hb dX9_findWay_49 rfl (lv_at hl 0 rfl) ?_
  refine rg_0_20 hx hb hts wu_X9 hown I wf_X9_55 dX9_findWay_50 ?_
  refine lv_bipush (v := i32 10) hx hb dX9_findWay_53 (by decide) ?_
  refine lv_iload_n hx hb dX9_findWay_55 rfl (lv_at hl 1 rfl) ?_
  refine li_iadd hx hb dX9_findWay_56 ?_
  refine li_iconst hx hb dX9_findWay_57 ?_
  obtain ⟨h_7, hw⟩ := hw
  refine r_iast hx hb I 16 lenR_16 (by decide) h_7 (by decide) dX9_findWay_58 (fun H locs M58_7 eM58_7 I => ?_)
  replace hw := hw M58_7 eM58_7
  refine li_iinc (lv' := [(1, .int (i32 (x1 + 1))), (0, .ref (g.2.2.2 0))]) hx hb dX9_findWay_59 hl (k := 1) rfl (by decide) rfl (fun ls hl => ?_)
  refine lv_goto (tgt := 2) hx hb dX9_findWay_62 (by decide) ?_
  obtain ⟨h_9, hw⟩ := hw
  exact hk2 (x1 + 1) h_9 _ _ _ _ hw I (lv_sub hl [1, 0] rfl)
set_option maxRecDepth 100000 in
set_option maxHeartbeats 4000000 in
theorem bX9_findWay_2 {p : Program} {l : Launch} {e : Env} {s : State} {m : MethodId} {args : Array Value} {below : List Frame} {meth : Method} {c : Code} {g : GP} (C : Cx p m c cX9_findWay 5 s args lw_g RX9 meth (some .int)) (post : Int → Mem → Prop) : ∀ (n : Nat), ∀ (x1 : Int), inR x1 → ∀ (M : Mem) (H : Heap) (locs : List Loc) (ls : Array Slot), lpX9_findWay_2 post n x1 M → IR g s M H locs → lv_has ls 5 [(0, .ref (g.2.2.2 0)), (1, .int (i32 x1))] → W p l e rmX9_findWay s m args below meth c H locs 0 0 (QIR below args s g post) (F0 m 2 ls []) := by
  obtain ⟨⟨hx, hb, hml, hown, hts⟩, hr, hlk⟩ := id C
  intro n
  induction n with
  | zero =>
    intro x1 h1 M H locs ls hw
    exact hw.elim
  | succ n ih =>
    intro x1 h1 M H locs ls hw I hl
    refine lv_iload_n hx hb dX9_findWay_2 rfl (lv_at hl 1 rfl) ?_
    refine lv_aload_n hx hb dX9_findWay_3 rfl (lv_at hl 0 rfl) ?_
    refine rg_0_0 hx hb hts wu_X9 hown I wf_X9_86 dX9_findWay_4 ?_
    have h_1 := I.rng 0 0
    refine li_icmp_ge (tgt := 65) hx hb dX9_findWay_7 (by decide) h1 h_1 (fun c_2 => ?_) (fun c_2 => ?_)
    · replace hw := hw.1 c_2
      refine li_iconst hx hb dX9_findWay_65 ?_
      refine lv_istore_n (lv' := [(1, .int (i32 1)), (0, .ref (g.2.2.2 0))]) hx hb dX9_findWay_66 rfl hl (by decide) rfl (fun ls hl => ?_)
      obtain ⟨n1, hw⟩ := hw
      exact bX9_findWay_67 C post n1 1 (by decide) _ _ _ _ hw I (lv_sub hl [1, 0] rfl)
    · replace hw := hw.2 c_2
      refine lv_aload_n hx hb dX9_findWay_10 rfl (lv_at hl 0 rfl) ?_
      refine rg_0_19 hx hb hts wu_X9 hown I wf_X9_52 dX9_findWay_11 ?_
      refine lv_iload_n hx hb dX9_findWay_14 rfl (lv_at hl 1 rfl) ?_
      refine lv_aload_n hx hb dX9_findWay_15 rfl (lv_at hl 0 rfl) ?_
      refine rg_0_16 hx hb hts wu_X9 hown I wf_X9_43 dX9_findWay_16 ?_
      refine lv_iload_n hx hb dX9_findWay_19 rfl (lv_at hl 1 rfl) ?_
      obtain ⟨h_3, hw⟩ := hw
      refine r_iald hx hb I 12 lenR_12 (by decide) h_3 dX9_findWay_20 ?_
      have h_4 := I.rng 12 x1
      refine li_if_le (tgt := 28) hx hb dX9_findWay_21 (by decide) h_4 (fun c_5 => ?_) (fun c_5 => ?_)
      · replace hw := hw.1 c_5
        refine lv_ldc (v := i32 1000000000) hx hb hown (hts _ wk_X9_115) dX9_findWay_28 ?_
        exact bX9_findWay_30 C post (fun y1 N => lpX9_findWay_2 post n y1 N) ih x1 1000000000 x1 h1 (by decide) h1 _ _ _ _ hw I (lv_sub hl [0, 1] rfl)
      · replace hw := hw.2 c_5
        refine li_iconst hx hb dX9_findWay_24 ?_
        refine lv_goto (tgt := 30) hx hb dX9_findWay_25 (by decide) ?_
        exact bX9_findWay_30 C post (fun y1 N => lpX9_findWay_2 post n y1 N) ih x1 0 x1 h1 (by decide) h1 _ _ _ _ hw I (lv_sub hl [0, 1] rfl)
set_option maxRecDepth 100000 in
set_option maxHeartbeats 4000000 in
theorem mX9_findWay (l : Launch) (g : GP) (M : Mem) (post : Int → Mem → Prop) (sz : Nat) (hw : wpX9_findWay M post) : MIR l yX9_findWay wtX9_findWay rmX9_findWay g [.ref (g.2.2.2 0)] M sz post := by
  refine Met.ofW (cc := cX9_findWay) (maxL := 5) (ret := (some .int)) (by decide) rfl ?_
  intro p e s m args below meth c s₁ B hml hv
  obtain ⟨rfl, hpre⟩ := hv
  have hsz := hpre.1
  subst hsz
  have C : Cx p m c cX9_findWay 5 s _ lw_g RX9 meth (some .int) := ⟨⟨B.exec, B.bytes, hml, findClass_of_methodNamed B.named, fun w h => atoms_spec (ws := wtX9_findWay) B.pre w (List.mem_cons_of_mem _ h)⟩, B.returns, B.notSynchronized⟩
  obtain ⟨⟨hx, hb, hml, hown, hts⟩, hr, hlk⟩ := id C
  have I := InG.start hpre
  have hl := lv_entry ([.ref (g.2.2.2 0)]) (n := 5) (Nat.le_of_ble_eq_true rfl)
  rw [lg_entry_eq]
  generalize (lg_sl ([.ref (g.2.2.2 0)]) ++ List.replicate (5 - (lg_sl ([.ref (g.2.2.2 0)])).length) Slot.unset).toArray = ls at hl ⊢
  have hl : lv_has ls 5 [(0, .ref (g.2.2.2 0))] := hl
  show W p l e rmX9_findWay s m _ below meth c s.heap [] 0 0 (QIR below _ s g post) _
  refine li_iconst hx hb dX9_findWay_0 ?_
  refine lv_istore_n (lv' := [(1, .int (i32 0)), (0, .ref (g.2.2.2 0))]) hx hb dX9_findWay_1 rfl hl (by decide) rfl (fun ls hl => ?_)
  obtain ⟨n1, hw⟩ := hw
  exact bX9_findWay_2 C post n1 0 (by decide) _ _ _ _ hw I (lv_sub hl [1, 0] rfl)
abbrev rmX9_go : Room := { frames := 0, cells := 0, slots := 0, locals := 0 }
abbrev wtX9_go : List Cond := Cond.code yX9_go cX9_go 6 (some .int) :: lw_g
set_option maxRecDepth 100000 in
set_option maxHeartbeats 4000000 in
theorem bX9_go_182 {p : Program} {l : Launch} {e : Env} {s : State} {m : MethodId} {args : Array Value} {below : List Frame} {meth : Method} {c : Code} {g : GP} (C : Cx p m c cX9_go 6 s args lw_g RX9 meth (some .int)) (post : Int → Mem → Prop) : ∀ (n : Nat), ∀ (x3 x5 : Int), inR x3 → inR x5 → ∀ (M : Mem) (H : Heap) (locs : List Loc) (ls : Array Slot), lpX9_go_182 post n x3 x5 M → IR g s M H locs → lv_has ls 6 [(0, .ref (g.2.2.2 0)), (3, .int (i32 x3)), (5, .int (i32 x5))] → W p l e rmX9_go s m args below meth c H locs 0 0 (QIR below args s g post) (F0 m 182 ls []) := by
  obtain ⟨⟨hx, hb, hml, hown, hts⟩, hr, hlk⟩ := id C
  intro n
  induction n with
  | zero =>
    intro x3 x5 h3 h5 M H locs ls hw
    exact hw.elim
  | succ n ih =>
    intro x3 x5 h3 h5 M H locs ls hw I hl
    refine lv_aload_n hx hb dX9_go_182 rfl (lv_at hl 0 rfl) ?_
    refine rg_0_20 hx hb hts wu_X9 hown I wf_X9_55 dX9_go_183 ?_
    refine lv_iload hx hb dX9_go_186 (lv_at hl 2 rfl) ?_
    obtain ⟨h_1, hw⟩ := hw
    refine r_iald hx hb I 16 lenR_16 (by decide) h_1 dX9_go_188 ?_
    have h_2 := I.rng 16 x5
    refine li_iconst hx hb dX9_go_189 ?_
    refine li_icmp_eq (tgt := 251) hx hb dX9_go_190 (by decide) h_2 (by decide) (fun c_3 => ?_) (fun c_3 => ?_)
    · replace hw := hw.1 c_3
      refine lv_iload_n hx hb dX9_go_251 rfl (lv_at hl 1 rfl) ?_
      exact g_iret hx hb hr hlk I h3 hw dX9_go_252
    · replace hw := hw.2 c_3
      refine lv_aload_n hx hb dX9_go_193 rfl (lv_at hl 0 rfl) ?_
      refine rg_0_20 hx hb hts wu_X9 hown I wf_X9_55 dX9_go_194 ?_
      refine lv_iload hx hb dX9_go_197 (lv_at hl 2 rfl) ?_
      obtain ⟨h_4, hw⟩ := hw
      refine r_iald hx hb I 16 lenR_16 (by decide) h_4 dX9_go_199 ?_
      have h_5 := I.rng 16 x5
      refine li_name (fun v200_5 ev200_5 => ?_)
      replace hw := hw v200_5 ev200_5
      have hv200_5 : inR v200_5 := ev200_5 ▸ h_5
      refine lv_istore (lv' := [(4, .int (i32 v200_5)), (0, .ref (g.2.2.2 0)), (3, .int (i32 x3)), (5, .int (i32 x5))]) hx hb dX9_go_200 hl (by decide) rfl (fun ls hl => ?_)
      refine lv_aload_n hx hb dX9_go_202 rfl (lv_at hl 1 rfl) ?_
      refine rg_0_15 hx hb hts wu_X9 hown I wf_X9_40 dX9_go_203 ?_
      refine lv_bipush (v := i32 10) hx hb dX9_go_206 (by decide) ?_
      refine lv_iload hx hb dX9_go_208 (lv_at hl 3 rfl) ?_
      refine li_imul hx hb dX9_go_210 ?_
      refine lv_iload hx hb dX9_go_211 (lv_at hl 0 rfl) ?_
      refine li_iadd hx hb dX9_go_213 ?_
      refine lv_dup2_11 hx hb dX9_go_214 rfl rfl ?_
      obtain ⟨h_7, hw⟩ := hw
      refine r_iald hx hb I 11 lenR_11 (by decide) h_7 dX9_go_215 ?_
      have h_8 := I.rng 11 ((10 * x5) + v200_5)
      refine lv_iload_n hx hb dX9_go_216 rfl (lv_at hl 2 rfl) ?_
      refine li_isub hx hb dX9_go_217 ?_
      obtain ⟨h_9, hw⟩ := hw
      obtain ⟨h_10, hw⟩ := hw
      refine r_iast hx hb I 11 lenR_11 (by decide) h_9 h_10 dX9_go_218 (fun H locs M218_10 eM218_10 I => ?_)
      replace hw := hw M218_10 eM218_10
      refine lv_aload_n hx hb dX9_go_219 rfl (lv_at hl 1 rfl) ?_
      refine rg_0_20 hx hb hts wu_X9 hown I wf_X9_55 dX9_go_220 ?_
      refine lv_bipush (v := i32 10) hx hb dX9_go_223 (by decide) ?_
      refine lv_iload hx hb dX9_go_225 (lv_at hl 0 rfl) ?_
      refine li_iadd hx hb dX9_go_227 ?_
      obtain ⟨h_12, hw⟩ := hw
      refine r_iald hx hb I 16 lenR_16 (by decide) h_12 dX9_go_228 ?_
      have h_13 := I.rng 16 (10 + v200_5)
      refine li_name (fun v229_13 ev229_13 => ?_)
      replace hw := hw v229_13 ev229_13
      have hv229_13 : inR v229_13 := ev229_13 ▸ h_13
      refine lv_istore (lv' := [(5, .int (i32 v229_13)), (4, .int (i32 v200_5)), (0, .ref (g.2.2.2 0)), (3, .int (i32 x3))]) hx hb dX9_go_229 hl (by decide) rfl (fun ls hl => ?_)
      refine lv_aload_n hx hb dX9_go_231 rfl (lv_at hl 2 rfl) ?_
      refine rg_0_15 hx hb hts wu_X9 hown I wf_X9_40 dX9_go_232 ?_
      refine lv_bipush (v := i32 10) hx hb dX9_go_235 (by decide) ?_
      refine lv_iload hx hb dX9_go_237 (lv_at hl 0 rfl) ?_
      refine li_imul hx hb dX9_go_239 ?_
      refine lv_iload hx hb dX9_go_240 (lv_at hl 1 rfl) ?_
      refine li_iadd hx hb dX9_go_242 ?_
      refine lv_dup2_11 hx hb dX9_go_243 rfl rfl ?_
      obtain ⟨h_15, hw⟩ := hw
      refine r_iald hx hb I 11 lenR_11 (by decide) h_15 dX9_go_244 ?_
      have h_16 := I.rng 11 ((10 * v229_13) + v200_5)
      refine lv_iload_n hx hb dX9_go_245 rfl (lv_at hl 3 rfl) ?_
      refine li_iadd hx hb dX9_go_246 ?_
      obtain ⟨h_17, hw⟩ := hw
      obtain ⟨h_18, hw⟩ := hw
      refine r_iast hx hb I 11 lenR_11 (by decide) h_17 h_18 dX9_go_247 (fun H locs M247_18 eM247_18 I => ?_)
      replace hw := hw M247_18 eM247_18
      refine lv_goto (tgt := 182) hx hb dX9_go_248 (by decide) ?_
      exact ih x3 v229_13 h3 hv229_13 _ _ _ _ hw I (lv_sub hl [2, 3, 0] rfl)
set_option maxRecDepth 100000 in
set_option maxHeartbeats 4000000 in
theorem bX9_go_128 {p : Program} {l : Launch} {e : Env} {s : State} {m : MethodId} {args : Array Value} {below : List Frame} {meth : Method} {c : Code} {g : GP} (C : Cx p m c cX9_go 6 s args lw_g RX9 meth (some .int)) (post : Int → Mem → Prop) : ∀ (x1 x5 t0 : Int), inR x1 → inR x5 → inR t0 → ∀ (M : Mem) (H : Heap) (locs : List Loc) (ls : Array Slot), jbX9_go_128 post x1 x5 t0 M → IR g s M H locs → lv_has ls 6 [(0, .ref (g.2.2.2 0)), (1, .int (i32 x1)), (5, .int (i32 x5))] → W p l e rmX9_go s m args below meth c H locs 0 0 (QIR below args s g post) (F0 m 128 ls [.int (i32 t0)]) := by
  obtain ⟨⟨hx, hb, hml, hown, hts⟩, hr, hlk⟩ := id C
  intro x1 x5 t0 h1 h5 ht0 M H locs ls hw I hl
  refine lv_istore_n (lv' := [(3, .int (i32 t0)), (0, .ref (g.2.2.2 0)), (1, .int (i32 x1)), (5, .int (i32 x5))]) hx hb dX9_go_128 rfl hl (by decide) rfl (fun ls hl => ?_)
  refine lv_aload_n hx hb dX9_go_129 rfl (lv_at hl 1 rfl) ?_
  refine rg_0_16 hx hb hts wu_X9 hown I wf_X9_43 dX9_go_130 ?_
  refine lv_iload hx hb dX9_go_133 (lv_at hl 3 rfl) ?_
  refine lv_dup2_11 hx hb dX9_go_135 rfl rfl ?_
  obtain ⟨h_1, hw⟩ := hw
  refine r_iald hx hb I 12 lenR_12 (by decide) h_1 dX9_go_136 ?_
  have h_2 := I.rng 12 x5
  refine lv_iload_n hx hb dX9_go_137 rfl (lv_at hl 0 rfl) ?_
  refine li_isub hx hb dX9_go_138 ?_
  obtain ⟨h_3, hw⟩ := hw
  obtain ⟨h_4, hw⟩ := hw
  refine r_iast hx hb I 12 lenR_12 (by decide) h_3 h_4 dX9_go_139 (fun H locs M139_4 eM139_4 I => ?_)
  replace hw := hw M139_4 eM139_4
  refine lv_aload_n hx hb dX9_go_140 rfl (lv_at hl 1 rfl) ?_
  refine rg_0_17 hx hb hts wu_X9 hown I wf_X9_46 dX9_go_141 ?_
  refine lv_iload_n hx hb dX9_go_144 rfl (lv_at hl 2 rfl) ?_
  refine lv_dup2_11 hx hb dX9_go_145 rfl rfl ?_
  obtain ⟨h_6, hw⟩ := hw
  refine r_iald hx hb I 13 lenR_13 (by decide) h_6 dX9_go_146 ?_
  have h_7 := I.rng 13 x1
  refine lv_iload_n hx hb dX9_go_147 rfl (lv_at hl 0 rfl) ?_
  refine li_isub hx hb dX9_go_148 ?_
  obtain ⟨h_8, hw⟩ := hw
  obtain ⟨h_9, hw⟩ := hw
  refine r_iast hx hb I 13 lenR_13 (by decide) h_8 h_9 dX9_go_149 (fun H locs M149_9 eM149_9 I => ?_)
  replace hw := hw M149_9 eM149_9
  refine lv_iload_n hx hb dX9_go_150 rfl (lv_at hl 2 rfl) ?_
  refine lv_istore (lv' := [(4, .int (i32 x1)), (3, .int (i32 t0)), (0, .ref (g.2.2.2 0)), (1, .int (i32 x1)), (5, .int (i32 x5))]) hx hb dX9_go_151 hl (by decide) rfl (fun ls hl => ?_)
  refine lv_aload_n hx hb dX9_go_153 rfl (lv_at hl 2 rfl) ?_
  refine rg_0_20 hx hb hts wu_X9 hown I wf_X9_55 dX9_go_154 ?_
  refine lv_bipush (v := i32 10) hx hb dX9_go_157 (by decide) ?_
  refine lv_iload hx hb dX9_go_159 (lv_at hl 0 rfl) ?_
  refine li_iadd hx hb dX9_go_161 ?_
  obtain ⟨h_11, hw⟩ := hw
  refine r_iald hx hb I 16 lenR_16 (by decide) h_11 dX9_go_162 ?_
  have h_12 := I.rng 16 (10 + x1)
  refine li_name (fun v163_12 ev163_12 => ?_)
  replace hw := hw v163_12 ev163_12
  have hv163_12 : inR v163_12 := ev163_12 ▸ h_12
  refine lv_istore (lv' := [(5, .int (i32 v163_12)), (4, .int (i32 x1)), (3, .int (i32 t0)), (0, .ref (g.2.2.2 0)), (1, .int (i32 x1))]) hx hb dX9_go_163 hl (by decide) rfl (fun ls hl => ?_)
  refine lv_aload_n hx hb dX9_go_165 rfl (lv_at hl 3 rfl) ?_
  refine rg_0_15 hx hb hts wu_X9 hown I wf_X9_40 dX9_go_166 ?_
  refine lv_bipush (v := i32 10) hx hb dX9_go_169 (by decide) ?_
  refine lv_iload hx hb dX9_go_171 (lv_at hl 0 rfl) ?_
  refine li_imul hx hb dX9_go_173 ?_
  refine lv_iload hx hb dX9_go_174 (lv_at hl 1 rfl) ?_
  refine li_iadd hx hb dX9_go_176 ?_
  refine lv_dup2_11 hx hb dX9_go_177 rfl rfl ?_
  obtain ⟨h_14, hw⟩ := hw
  refine r_iald hx hb I 11 lenR_11 (by decide) h_14 dX9_go_178 ?_
  have h_15 := I.rng 11 ((10 * v163_12) + x1)
  refine lv_iload_n hx hb dX9_go_179 rfl (lv_at hl 2 rfl) ?_
  refine li_iadd hx hb dX9_go_180 ?_
  obtain ⟨h_16, hw⟩ := hw
  obtain ⟨h_17, hw⟩ := hw
  refine r_iast hx hb I 11 lenR_11 (by decide) h_16 h_17 dX9_go_181 (fun H locs M181_17 eM181_17 I => ?_)
  replace hw := hw M181_17 eM181_17
  obtain ⟨n1, hw⟩ := hw
  exact bX9_go_182 C post n1 t0 v163_12 ht0 hv163_12 _ _ _ _ hw I (lv_sub hl [3, 2, 0] rfl)
set_option maxRecDepth 100000 in
set_option maxHeartbeats 4000000 in
theorem bX9_go_90 {p : Program} {l : Launch} {e : Env} {s : State} {m : MethodId} {args : Array Value} {below : List Frame} {meth : Method} {c : Code} {g : GP} (C : Cx p m c cX9_go 6 s args lw_g RX9 meth (some .int)) (post : Int → Mem → Prop) (k36 : Int → Int → Int → Mem → Prop) (hk36 : ∀ (x1 x3 x5 : Int), inR x1 → inR x3 → inR x5 → ∀ (M : Mem) (H : Heap) (locs : List Loc) (ls : Array Slot), k36 x1 x3 x5 M → IR g s M H locs → lv_has ls 6 [(0, .ref (g.2.2.2 0)), (1, .int (i32 x1)), (3, .int (i32 x3)), (5, .int (i32 x5))] → W p l e rmX9_go s m args below meth c H locs 0 0 (QIR below args s g post) (F0 m 36 ls [])) : ∀ (x1 x4 t0 : Int), inR x1 → inR x4 → inR t0 → ∀ (M : Mem) (H : Heap) (locs : List Loc) (ls : Array Slot), jbX9_go_90 post k36 x1 x4 t0 M → IR g s M H locs → lv_has ls 6 [(0, .ref (g.2.2.2 0)), (1, .int (i32 x1)), (4, .int (i32 x4))] → W p l e rmX9_go s m args below meth c H locs 0 0 (QIR below args s g post) (F0 m 90 ls [.int (i32 t0)]) := by
  obtain ⟨⟨hx, hb, hml, hown, hts⟩, hr, hlk⟩ := id C
  intro x1 x4 t0 h1 h4 ht0 M H locs ls hw I hl
  refine lv_istore_n (lv' := [(3, .int (i32 t0)), (0, .ref (g.2.2.2 0)), (1, .int (i32 x1)), (4, .int (i32 x4))]) hx hb dX9_go_90 rfl hl (by decide) rfl (fun ls hl => ?_)
  refine lv_aload_n hx hb dX9_go_91 rfl (lv_at hl 1 rfl) ?_
  refine rg_0_20 hx hb hts wu_X9 hown I wf_X9_55 dX9_go_92 ?_
  refine lv_bipush (v := i32 10) hx hb dX9_go_95 (by decide) ?_
  refine lv_iload hx hb dX9_go_97 (lv_at hl 3 rfl) ?_
  refine li_iadd hx hb dX9_go_99 ?_
  obtain ⟨h_1, hw⟩ := hw
  refine r_iald hx hb I 16 lenR_16 (by decide) h_1 dX9_go_100 ?_
  have h_2 := I.rng 16 (10 + x4)
  refine li_name (fun v101_2 ev101_2 => ?_)
  replace hw := hw v101_2 ev101_2
  have hv101_2 : inR v101_2 := ev101_2 ▸ h_2
  refine lv_istore (lv' := [(5, .int (i32 v101_2)), (3, .int (i32 t0)), (0, .ref (g.2.2.2 0)), (1, .int (i32 x1)), (4, .int (i32 x4))]) hx hb dX9_go_101 hl (by decide) rfl (fun ls hl => ?_)
  refine lv_goto (tgt := 36) hx hb dX9_go_103 (by decide) ?_
  exact hk36 x1 t0 v101_2 h1 ht0 hv101_2 _ _ _ _ hw I (lv_sub hl [2, 3, 1, 0] rfl)
set_option maxRecDepth 100000 in
set_option maxHeartbeats 4000000 in
theorem bX9_go_36 {p : Program} {l : Launch} {e : Env} {s : State} {m : MethodId} {args : Array Value} {below : List Frame} {meth : Method} {c : Code} {g : GP} (C : Cx p m c cX9_go 6 s args lw_g RX9 meth (some .int)) (post : Int → Mem → Prop) : ∀ (n : Nat), ∀ (x1 x3 x5 : Int), inR x1 → inR x3 → inR x5 → ∀ (M : Mem) (H : Heap) (locs : List Loc) (ls : Array Slot), lpX9_go_36 post n x1 x3 x5 M → IR g s M H locs → lv_has ls 6 [(0, .ref (g.2.2.2 0)), (1, .int (i32 x1)), (3, .int (i32 x3)), (5, .int (i32 x5))] → W p l e rmX9_go s m args below meth c H locs 0 0 (QIR below args s g post) (F0 m 36 ls []) := by
  obtain ⟨⟨hx, hb, hml, hown, hts⟩, hr, hlk⟩ := id C
  intro n
  induction n with
  | zero =>
    intro x1 x3 x5 h1 h3 h5 M H locs ls hw
    exact hw.elim
  | succ n ih =>
    intro x1 x3 x5 h1 h3 h5 M H locs ls hw I hl
    refine lv_aload_n hx hb dX9_go_36 rfl (lv_at hl 0 rfl) ?_
    refine rg_0_20 hx hb hts wu_X9 hown I wf_X9_55 dX9_go_37 ?_
    refine lv_iload hx hb dX9_go_40 (lv_at hl 3 rfl) ?_
    obtain ⟨h_1, hw⟩ := hw
    refine r_iald hx hb I 16 lenR_16 (by decide) h_1 dX9_go_42 ?_
    have h_2 := I.rng 16 x5
    refine li_iconst hx hb dX9_go_43 ?_
    refine li_icmp_eq (tgt := 106) hx hb dX9_go_44 (by decide) h_2 (by decide) (fun c_3 => ?_) (fun c_3 => ?_)
    · replace hw := hw.1 c_3
      refine lv_aload_n hx hb dX9_go_106 rfl (lv_at hl 0 rfl) ?_
      refine rg_0_16 hx hb hts wu_X9 hown I wf_X9_43 dX9_go_107 ?_
      refine lv_iload hx hb dX9_go_110 (lv_at hl 3 rfl) ?_
      obtain ⟨h_4, hw⟩ := hw
      refine r_iald hx hb I 12 lenR_12 (by decide) h_4 dX9_go_112 ?_
      have h_5 := I.rng 12 x5
      refine lv_iload_n hx hb dX9_go_113 rfl (lv_at hl 2 rfl) ?_
      refine li_icmp_ge (tgt := 127) hx hb dX9_go_114 (by decide) h_5 h3 (fun c_6 => ?_) (fun c_6 => ?_)
      · replace hw := hw.1 c_6
        refine lv_iload_n hx hb dX9_go_127 rfl (lv_at hl 2 rfl) ?_
        exact bX9_go_128 C post x1 x5 x3 h1 h5 h3 _ _ _ _ hw I (lv_sub hl [0, 1, 3] rfl)
      · replace hw := hw.2 c_6
        refine lv_aload_n hx hb dX9_go_117 rfl (lv_at hl 0 rfl) ?_
        refine rg_0_16 hx hb hts wu_X9 hown I wf_X9_43 dX9_go_118 ?_
        refine lv_iload hx hb dX9_go_121 (lv_at hl 3 rfl) ?_
        obtain ⟨h_7, hw⟩ := hw
        refine r_iald hx hb I 12 lenR_12 (by decide) h_7 dX9_go_123 ?_
        have h_8 := I.rng 12 x5
        refine lv_goto (tgt := 128) hx hb dX9_go_124 (by decide) ?_
        exact bX9_go_128 C post x1 x5 (M 12 x5) h1 h5 h_8 _ _ _ _ hw I (lv_sub hl [0, 1, 3] rfl)
    · replace hw := hw.2 c_3
      refine lv_aload_n hx hb dX9_go_47 rfl (lv_at hl 0 rfl) ?_
      refine rg_0_20 hx hb hts wu_X9 hown I wf_X9_55 dX9_go_48 ?_
      refine lv_iload hx hb dX9_go_51 (lv_at hl 3 rfl) ?_
      obtain ⟨h_9, hw⟩ := hw
      refine r_iald hx hb I 16 lenR_16 (by decide) h_9 dX9_go_53 ?_
      have h_10 := I.rng 16 x5
      refine li_name (fun v54_10 ev54_10 => ?_)
      replace hw := hw v54_10 ev54_10
      have hv54_10 : inR v54_10 := ev54_10 ▸ h_10
      refine lv_istore (lv' := [(4, .int (i32 v54_10)), (0, .ref (g.2.2.2 0)), (1, .int (i32 x1)), (3, .int (i32 x3)), (5, .int (i32 x5))]) hx hb dX9_go_54 hl (by decide) rfl (fun ls hl => ?_)
      refine lv_aload_n hx hb dX9_go_56 rfl (lv_at hl 1 rfl) ?_
      refine rg_0_15 hx hb hts wu_X9 hown I wf_X9_40 dX9_go_57 ?_
      refine lv_bipush (v := i32 10) hx hb dX9_go_60 (by decide) ?_
      refine lv_iload hx hb dX9_go_62 (lv_at hl 4 rfl) ?_
      refine li_imul hx hb dX9_go_64 ?_
      refine lv_iload hx hb dX9_go_65 (lv_at hl 0 rfl) ?_
      refine li_iadd hx hb dX9_go_67 ?_
      obtain ⟨h_12, hw⟩ := hw
      refine r_iald hx hb I 11 lenR_11 (by decide) h_12 dX9_go_68 ?_
      have h_13 := I.rng 11 ((10 * x5) + v54_10)
      refine lv_iload_n hx hb dX9_go_69 rfl (lv_at hl 3 rfl) ?_
      refine li_icmp_ge (tgt := 89) hx hb dX9_go_70 (by decide) h_13 h3 (fun c_14 => ?_) (fun c_14 => ?_)
      · replace hw := hw.1 c_14
        refine lv_iload_n hx hb dX9_go_89 rfl (lv_at hl 3 rfl) ?_
        exact bX9_go_90 C post (fun y1 y3 y5 N => lpX9_go_36 post n y1 y3 y5 N) ih x1 v54_10 x3 h1 hv54_10 h3 _ _ _ _ hw I (lv_sub hl [1, 2, 0] rfl)
      · replace hw := hw.2 c_14
        refine lv_aload_n hx hb dX9_go_73 rfl (lv_at hl 1 rfl) ?_
        refine rg_0_15 hx hb hts wu_X9 hown I wf_X9_40 dX9_go_74 ?_
        refine lv_bipush (v := i32 10) hx hb dX9_go_77 (by decide) ?_
        refine lv_iload hx hb dX9_go_79 (lv_at hl 4 rfl) ?_
        refine li_imul hx hb dX9_go_81 ?_
        refine lv_iload hx hb dX9_go_82 (lv_at hl 0 rfl) ?_
        refine li_iadd hx hb dX9_go_84 ?_
        obtain ⟨h_15, hw⟩ := hw
        refine r_iald hx hb I 11 lenR_11 (by decide) h_15 dX9_go_85 ?_
        have h_16 := I.rng 11 ((10 * x5) + v54_10)
        refine lv_goto (tgt := 90) hx hb dX9_go_86 (by decide) ?_
        exact bX9_go_90 C post (fun y1 y3 y5 N => lpX9_go_36 post n y1 y3 y5 N) ih x1 v54_10 (M 11 ((10 * x5) + v54_10)) h1 hv54_10 h_16 _ _ _ _ hw I (lv_sub hl [1, 2, 0] rfl)
set_option maxRecDepth 100000 in
set_option maxHeartbeats 4000000 in
theorem bX9_go_20 {p : Program} {l : Launch} {e : Env} {s : State} {m : MethodId} {args : Array Value} {below : List Frame} {meth : Method} {c : Code} {g : GP} (C : Cx p m c cX9_go 6 s args lw_g RX9 meth (some .int)) (post : Int → Mem → Prop) : ∀ (x1 t0 : Int), inR x1 → inR t0 → ∀ (M : Mem) (H : Heap) (locs : List Loc) (ls : Array Slot), jbX9_go_20 post x1 t0 M → IR g s M H locs → lv_has ls 6 [(0, .ref (g.2.2.2 0)), (1, .int (i32 x1))] → W p l e rmX9_go s m args below meth c H locs 0 0 (QIR below args s g post) (F0 m 20 ls [.int (i32 t0)]) := by
  obtain ⟨⟨hx, hb, hml, hown, hts⟩, hr, hlk⟩ := id C
  intro x1 t0 h1 ht0 M H locs ls hw I hl
  refine lv_istore_n (lv' := [(3, .int (i32 t0)), (0, .ref (g.2.2.2 0)), (1, .int (i32 x1))]) hx hb dX9_go_20 rfl hl (by decide) rfl (fun ls hl => ?_)
  refine lv_iload_n hx hb dX9_go_21 rfl (lv_at hl 2 rfl) ?_
  refine lv_istore (lv' := [(4, .int (i32 x1)), (3, .int (i32 t0)), (0, .ref (g.2.2.2 0)), (1, .int (i32 x1))]) hx hb dX9_go_22 hl (by decide) rfl (fun ls hl => ?_)
  refine lv_aload_n hx hb dX9_go_24 rfl (lv_at hl 2 rfl) ?_
  refine rg_0_20 hx hb hts wu_X9 hown I wf_X9_55 dX9_go_25 ?_
  refine lv_bipush (v := i32 10) hx hb dX9_go_28 (by decide) ?_
  refine lv_iload hx hb dX9_go_30 (lv_at hl 0 rfl) ?_
  refine li_iadd hx hb dX9_go_32 ?_
  obtain ⟨h_1, hw⟩ := hw
  refine r_iald hx hb I 16 lenR_16 (by decide) h_1 dX9_go_33 ?_
  have h_2 := I.rng 16 (10 + x1)
  refine li_name (fun v34_2 ev34_2 => ?_)
  replace hw := hw v34_2 ev34_2
  have hv34_2 : inR v34_2 := ev34_2 ▸ h_2
  refine lv_istore (lv' := [(5, .int (i32 v34_2)), (4, .int (i32 x1)), (3, .int (i32 t0)), (0, .ref (g.2.2.2 0)), (1, .int (i32 x1))]) hx hb dX9_go_34 hl (by decide) rfl (fun ls hl => ?_)
  obtain ⟨n1, hw⟩ := hw
  exact bX9_go_36 C post n1 x1 t0 v34_2 h1 ht0 hv34_2 _ _ _ _ hw I (lv_sub hl [3, 4, 2, 0] rfl)
set_option maxRecDepth 100000 in
set_option maxHeartbeats 4000000 in
theorem mX9_go (l : Launch) (g : GP) (a1 a2 : Int) (ha1 : inR a1) (ha2 : inR a2) (M : Mem) (post : Int → Mem → Prop) (sz : Nat) (hw : wpX9_go a1 a2 M post) : MIR l yX9_go wtX9_go rmX9_go g [.ref (g.2.2.2 0), .int (i32 a1), .int (i32 a2)] M sz post := by
  refine Met.ofW (cc := cX9_go) (maxL := 6) (ret := (some .int)) (by decide) rfl ?_
  intro p e s m args below meth c s₁ B hml hv
  obtain ⟨rfl, hpre⟩ := hv
  have hsz := hpre.1
  subst hsz
  have C : Cx p m c cX9_go 6 s _ lw_g RX9 meth (some .int) := ⟨⟨B.exec, B.bytes, hml, findClass_of_methodNamed B.named, fun w h => atoms_spec (ws := wtX9_go) B.pre w (List.mem_cons_of_mem _ h)⟩, B.returns, B.notSynchronized⟩
  obtain ⟨⟨hx, hb, hml, hown, hts⟩, hr, hlk⟩ := id C
  have I := InG.start hpre
  have hl := lv_entry ([.ref (g.2.2.2 0), .int (i32 a1), .int (i32 a2)]) (n := 6) (Nat.le_of_ble_eq_true rfl)
  rw [lg_entry_eq]
  generalize (lg_sl ([.ref (g.2.2.2 0), .int (i32 a1), .int (i32 a2)]) ++ List.replicate (6 - (lg_sl ([.ref (g.2.2.2 0), .int (i32 a1), .int (i32 a2)])).length) Slot.unset).toArray = ls at hl ⊢
  have hl : lv_has ls 6 [(0, .ref (g.2.2.2 0)), (1, .int (i32 a1)), (2, .int (i32 a2))] := hl
  show W p l e rmX9_go s m _ below meth c s.heap [] 0 0 (QIR below _ s g post) _
  refine lv_iload_n hx hb dX9_go_0 rfl (lv_at hl 2 rfl) ?_
  refine lv_aload_n hx hb dX9_go_1 rfl (lv_at hl 0 rfl) ?_
  refine rg_0_17 hx hb hts wu_X9 hown I wf_X9_46 dX9_go_2 ?_
  refine lv_iload_n hx hb dX9_go_5 rfl (lv_at hl 1 rfl) ?_
  obtain ⟨h_1, hw⟩ := hw
  refine r_iald hx hb I 13 lenR_13 (by decide) h_1 dX9_go_6 ?_
  have h_2 := I.rng 13 a1
  refine li_icmp_ge (tgt := 14) hx hb dX9_go_7 (by decide) ha2 h_2 (fun c_3 => ?_) (fun c_3 => ?_)
  · replace hw := hw.1 c_3
    refine lv_aload_n hx hb dX9_go_14 rfl (lv_at hl 0 rfl) ?_
    refine rg_0_17 hx hb hts wu_X9 hown I wf_X9_46 dX9_go_15 ?_
    refine lv_iload_n hx hb dX9_go_18 rfl (lv_at hl 1 rfl) ?_
    obtain ⟨h_4, hw⟩ := hw
    refine r_iald hx hb I 13 lenR_13 (by decide) h_4 dX9_go_19 ?_
    have h_5 := I.rng 13 a1
    exact bX9_go_20 C post a1 (M 13 a1) ha1 h_5 _ _ _ _ hw I (lv_sub hl [0, 1] rfl)
  · replace hw := hw.2 c_3
    refine lv_iload_n hx hb dX9_go_10 rfl (lv_at hl 2 rfl) ?_
    refine lv_goto (tgt := 20) hx hb dX9_go_11 (by decide) ?_
    exact bX9_go_20 C post a1 a2 ha1 ha2 _ _ _ _ hw I (lv_sub hl [0, 1] rfl)
