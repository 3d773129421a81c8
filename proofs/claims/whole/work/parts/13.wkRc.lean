abbrev rmX9_costOf : Room := { frames := 0, cells := 0, slots := 0, locals := 0 }
abbrev wtX9_costOf : List Cond := Cond.code yX9_costOf cX9_costOf 5 (some .int) :: lw_g
set_option maxRecDepth 100000 in
set_option maxHeartbeats 4000000 in
theorem bX9_costOf_15 {p : Program} {l : Launch} {e : Env} {s : State} {m : MethodId} {args : Array Value} {below : List Frame} {meth : Method} {c : Code} {g : GP} (r1 : Int) (C : Cx p m c cX9_costOf 5 s args lw_g RX9 meth (some .int)) (post : Int → Mem → Prop) (k4 : Int → Int → Mem → Prop) (hk4 : ∀ (x2 x3 : Int), inR x2 → inR x3 → ∀ (M : Mem) (H : Heap) (locs : List Loc) (ls : Array Slot), k4 x2 x3 M → IR g s M H locs → lv_has ls 5 [(0, .ref (g.2.2.2 0)), (1, .ref (g.2.2.2 r1)), (2, .int (i32 x2)), (3, .int (i32 x3))] → W p l e rmX9_costOf s m args below meth c H locs 0 0 (QIR below args s g post) (F0 m 4 ls [])) : ∀ (n : Nat), ∀ (x2 x3 x4 : Int), inR x2 → inR x3 → inR x4 → ∀ (M : Mem) (H : Heap) (locs : List Loc) (ls : Array Slot), lpX9_costOf_15 r1 post k4 n x2 x3 x4 M → IR g s M H locs → lv_has ls 5 [(0, .ref (g.2.2.2 0)), (1, .ref (g.2.2.2 r1)), (2, .int (i32 x2)), (3, .int (i32 x3)), (4, .int (i32 x4))] → W p l e rmX9_costOf s m args below meth c H locs 0 0 (QIR below args s g post) (F0 m 15 ls []) := by
  obtain ⟨⟨hx, hb, hml, hown, hts⟩, hr, hlk⟩ := id C
  intro n
  induction n with
  | zero =>
    intro x2 x3 x4 h2 h3 h4 M H locs ls hw
    exact hw.elim
  | succ n ih =>
    intro x2 x3 x4 h2 h3 h4 M H locs ls hw I hl
    refine lv_iload hx hb dX9_costOf_15 (lv_at hl 4 rfl) ?_
    refine lv_aload_n hx hb dX9_costOf_17 rfl (lv_at hl 0 rfl) ?_
    refine rg_0_0 hx hb hts wu_X9 hown I wf_X9_86 dX9_costOf_18 ?_
    have h_1 := I.rng 0 0
    refine li_icmp_ge (tgt := 55) hx hb dX9_costOf_21 (by decide) h4 h_1 (fun c_2 => ?_) (fun c_2 => ?_)
    · replace hw := hw.1 c_2
      refine li_iinc (lv' := [(3, .int (i32 (x3 + 1))), (0, .ref (g.2.2.2 0)), (1, .ref (g.2.2.2 r1)), (2, .int (i32 x2)), (4, .int (i32 x4))]) hx hb dX9_costOf_55 hl (k := 3) rfl (by decide) rfl (fun ls hl => ?_)
      refine lv_goto (tgt := 4) hx hb dX9_costOf_58 (by decide) ?_
      obtain ⟨h_3, hw⟩ := hw
      exact hk4 x2 (x3 + 1) h2 h_3 _ _ _ _ hw I (lv_sub hl [1, 2, 3, 0] rfl)
    · replace hw := hw.2 c_2
      refine lv_iload_n hx hb dX9_costOf_24 rfl (lv_at hl 2 rfl) ?_
      refine lv_aload_n hx hb dX9_costOf_25 rfl (lv_at hl 1 rfl) ?_
      refine lv_bipush (v := i32 10) hx hb dX9_costOf_26 (by decide) ?_
      refine lv_iload_n hx hb dX9_costOf_28 rfl (lv_at hl 3 rfl) ?_
      refine li_imul hx hb dX9_costOf_29 ?_
      refine lv_iload hx hb dX9_costOf_30 (lv_at hl 4 rfl) ?_
      refine li_iadd hx hb dX9_costOf_32 ?_
      obtain ⟨h_4, hw⟩ := hw
      obtain ⟨h_5, hw⟩ := hw
      refine r_iald hx hb I r1 rfl h_5 h_4 dX9_costOf_33 ?_
      have h_6 := I.rng r1 ((10 * x3) + x4)
      refine lv_aload_n hx hb dX9_costOf_34 rfl (lv_at hl 0 rfl) ?_
      refine rg_0_14 hx hb hts wu_X9 hown I wf_X9_37 dX9_costOf_35 ?_
      refine lv_bipush (v := i32 10) hx hb dX9_costOf_38 (by decide) ?_
      refine lv_iload_n hx hb dX9_costOf_40 rfl (lv_at hl 3 rfl) ?_
      refine li_imul hx hb dX9_costOf_41 ?_
      refine lv_iload hx hb dX9_costOf_42 (lv_at hl 4 rfl) ?_
      refine li_iadd hx hb dX9_costOf_44 ?_
      obtain ⟨h_7, hw⟩ := hw
      refine r_iald hx hb I 10 lenR_10 (by decide) h_7 dX9_costOf_45 ?_
      have h_8 := I.rng 10 ((10 * x3) + x4)
      refine li_imul hx hb dX9_costOf_46 ?_
      refine li_iadd hx hb dX9_costOf_47 ?_
      obtain ⟨h_9, hw⟩ := hw
      refine li_name (fun v48_9 ev48_9 => ?_)
      replace hw := hw v48_9 ev48_9
      have hv48_9 : inR v48_9 := ev48_9 ▸ h_9
      refine lv_istore_n (lv' := [(2, .int (i32 v48_9)), (0, .ref (g.2.2.2 0)), (1, .ref (g.2.2.2 r1)), (3, .int (i32 x3)), (4, .int (i32 x4))]) hx hb dX9_costOf_48 rfl hl (by decide) rfl (fun ls hl => ?_)
      refine li_iinc (lv' := [(4, .int (i32 (x4 + 1))), (2, .int (i32 v48_9)), (0, .ref (g.2.2.2 0)), (1, .ref (g.2.2.2 r1)), (3, .int (i32 x3))]) hx hb dX9_costOf_49 hl (k := 4) rfl (by decide) rfl (fun ls hl => ?_)
      refine lv_goto (tgt := 15) hx hb dX9_costOf_52 (by decide) ?_
      obtain ⟨h_11, hw⟩ := hw
      exact ih v48_9 x3 (x4 + 1) hv48_9 h3 h_11 _ _ _ _ hw I (lv_sub hl [2, 3, 1, 4, 0] rfl)
set_option maxRecDepth 100000 in
set_option maxHeartbeats 4000000 in
theorem bX9_costOf_4 {p : Program} {l : Launch} {e : Env} {s : State} {m : MethodId} {args : Array Value} {below : List Frame} {meth : Method} {c : Code} {g : GP} (r1 : Int) (C : Cx p m c cX9_costOf 5 s args lw_g RX9 meth (some .int)) (post : Int → Mem → Prop) : ∀ (n : Nat), ∀ (x2 x3 : Int), inR x2 → inR x3 → ∀ (M : Mem) (H : Heap) (locs : List Loc) (ls : Array Slot), lpX9_costOf_4 r1 post n x2 x3 M → IR g s M H locs → lv_has ls 5 [(0, .ref (g.2.2.2 0)), (1, .ref (g.2.2.2 r1)), (2, .int (i32 x2)), (3, .int (i32 x3))] → W p l e rmX9_costOf s m args below meth c H locs 0 0 (QIR below args s g post) (F0 m 4 ls []) := by
  obtain ⟨⟨hx, hb, hml, hown, hts⟩, hr, hlk⟩ := id C
  intro n
  induction n with
  | zero =>
    intro x2 x3 h2 h3 M H locs ls hw
    exact hw.elim
  | succ n ih =>
    intro x2 x3 h2 h3 M H locs ls hw I hl
    refine lv_iload_n hx hb dX9_costOf_4 rfl (lv_at hl 3 rfl) ?_
    refine lv_aload_n hx hb dX9_costOf_5 rfl (lv_at hl 0 rfl) ?_
    refine rg_0_0 hx hb hts wu_X9 hown I wf_X9_86 dX9_costOf_6 ?_
    have h_1 := I.rng 0 0
    refine li_icmp_ge (tgt := 61) hx hb dX9_costOf_9 (by decide) h3 h_1 (fun c_2 => ?_) (fun c_2 => ?_)
    · replace hw := hw.1 c_2
      refine lv_iload_n hx hb dX9_costOf_61 rfl (lv_at hl 2 rfl) ?_
      exact g_iret hx hb hr hlk I h2 hw dX9_costOf_62
    · replace hw := hw.2 c_2
      refine li_iconst hx hb dX9_costOf_12 ?_
      refine lv_istore (lv' := [(4, .int (i32 0)), (0, .ref (g.2.2.2 0)), (1, .ref (g.2.2.2 r1)), (2, .int (i32 x2)), (3, .int (i32 x3))]) hx hb dX9_costOf_13 hl (by decide) rfl (fun ls hl => ?_)
      obtain ⟨n1, hw⟩ := hw
      exact bX9_costOf_15 r1 C post (fun y2 y3 N => lpX9_costOf_4 r1 post n y2 y3 N) ih n1 x2 x3 0 h2 h3 (by decide) _ _ _ _ hw I (lv_sub hl [1, 2, 3, 4, 0] rfl)
set_option maxRecDepth 100000 in
set_option maxHeartbeats 4000000 in
theorem mX9_costOf (l : Launch) (g : GP) (r1 : Int) (M : Mem) (post : Int → Mem → Prop) (sz : Nat) (hw : wpX9_costOf r1 M post) : MIR l yX9_costOf wtX9_costOf rmX9_costOf g [.ref (g.2.2.2 0), .ref (g.2.2.2 r1)] M sz post := by
  refine Met.ofW (cc := cX9_costOf) (maxL := 5) (ret := (some .int)) (by decide) rfl ?_
  intro p e s m args below meth c s₁ B hml hv
  obtain ⟨rfl, hpre⟩ := hv
  have hsz := hpre.1
  subst hsz
  have C : Cx p m c cX9_costOf 5 s _ lw_g RX9 meth (some .int) := ⟨⟨B.exec, B.bytes, hml, findClass_of_methodNamed B.named, fun w h => atoms_spec (ws := wtX9_costOf) B.pre w (List.mem_cons_of_mem _ h)⟩, B.returns, B.notSynchronized⟩
  obtain ⟨⟨hx, hb, hml, hown, hts⟩, hr, hlk⟩ := id C
  have I := InG.start hpre
  have hl := lv_entry ([.ref (g.2.2.2 0), .ref (g.2.2.2 r1)]) (n := 5) (Nat.le_of_ble_eq_true rfl)
  rw [lg_entry_eq]
  generalize (lg_sl ([.ref (g.2.2.2 0), .ref (g.2.2.2 r1)]) ++ List.replicate (5 - (lg_sl ([.ref (g.2.2.2 0), .ref (g.2.2.2 r1)])).length) Slot.unset).toArray = ls at hl ⊢
  have hl : lv_has ls 5 [(0, .ref (g.2.2.2 0)), (1, .ref (g.2.2.2 r1))] := hl
  show W p l e rmX9_costOf s m _ below meth c s.heap [] 0 0 (QIR below _ s g post) _
  refine li_iconst hx hb dX9_costOf_0 ?_
  refine lv_istore_n (lv' := [(2, .int (i32 0)), (0, .ref (g.2.2.2 0)), (1, .ref (g.2.2.2 r1))]) hx hb dX9_costOf_1 rfl hl (by decide) rfl (fun ls hl => ?_)
  refine li_iconst hx hb dX9_costOf_2 ?_
  refine lv_istore_n (lv' := [(3, .int (i32 0)), (2, .int (i32 0)), (0, .ref (g.2.2.2 0)), (1, .ref (g.2.2.2 r1))]) hx hb dX9_costOf_3 rfl hl (by decide) rfl (fun ls hl => ?_)
  obtain ⟨n1, hw⟩ := hw
  exact bX9_costOf_4 r1 C post n1 0 0 (by decide) (by decide) _ _ _ _ hw I (lv_sub hl [2, 3, 1, 0] rfl)
abbrev rmX9_solve : Room := { frames := 1, cells := 0, slots := 0, locals := 25 }
abbrev wtX9_solve : List Cond := Cond.code yX9_solve cX9_solve 6 (some .int) :: lw_g
set_option maxRecDepth 100000 in
set_option maxHeartbeats 4000000 in
theorem bX9_solve_9 {p : Program} {l : Launch} {e : Env} {s : State} {m : MethodId} {args : Array Value} {below : List Frame} {meth : Method} {c : Code} {g : GP} (C : Cx p m c cX9_solve 6 s args lw_g RX9 meth (some .int)) (post : Int → Mem → Prop) : ∀ (n : Nat), ∀ (x4 : Int), inR x4 → ∀ (M : Mem) (H : Heap) (locs : List Loc) (ls : Array Slot), lpX9_solve_9 post n x4 M → IR g s M H locs → lv_has ls 6 [(0, .ref (g.2.2.2 0)), (4, .int (i32 x4))] → W p l e rmX9_solve s m args below meth c H locs 0 0 (QIR below args s g post) (F0 m 9 ls []) := by
  obtain ⟨⟨hx, hb, hml, hown, hts⟩, hr, hlk⟩ := id C
  intro n
  induction n with
  | zero =>
    intro x4 h4 M H locs ls hw
    exact hw.elim
  | succ n ih =>
    intro x4 h4 M H locs ls hw I hl
    refine lv_iload hx hb dX9_solve_9 (lv_at hl 1 rfl) ?_
    refine li_if_le (tgt := 36) hx hb dX9_solve_11 (by decide) h4 (fun c_1 => ?_) (fun c_1 => ?_)
    · replace hw := hw.1 c_1
      refine lv_aload_n hx hb dX9_solve_36 rfl (lv_at hl 0 rfl) ?_
      refine lv_aload_n hx hb dX9_solve_37 rfl (lv_at hl 0 rfl) ?_
      refine rg_0_15 hx hb hts wu_X9 hown I wf_X9_40 dX9_solve_38 ?_
      refine g_callVi (o := 0) (As := [.ref (g.2.2.2 11)]) (rest := []) ⟨hx, hb, hml, hown, hts⟩ I (mX9_costOf l g 11 M _ _ hw) (cwV 1 hts (gd_V wm_X9_138 wi_X9_costOf wl_X9_costOf wn_X9 wc_X9_costOf) rfl rfl rfl wd_X9_costOf ⟨Nat.le_of_ble_eq_true rfl, Nat.le_of_ble_eq_true rfl⟩) (by omega) (by omega) obR_0 rfl rfl hl.1 rfl (Nat.le_of_ble_eq_true rfl) dX9_solve_41 ⟨Nat.zero_le _, Nat.zero_le _⟩ (fun r41_1 M41_1 H locs hr41_1 hw I => ?_)
      exact g_iret hx hb hr hlk I hr41_1 hw dX9_solve_44
    · replace hw := hw.2 c_1
      refine lv_aload_n hx hb dX9_solve_14 rfl (lv_at hl 0 rfl) ?_
      refine g_callVi (o := 0) (As := []) (rest := []) ⟨hx, hb, hml, hown, hts⟩ I (mX9_findWay l g M _ _ hw) (cwV 0 hts (gd_V wm_X9_131 wi_X9_findWay wl_X9_findWay wn_X9 wc_X9_findWay) rfl rfl rfl wd_X9_findWay ⟨Nat.le_of_ble_eq_true rfl, Nat.le_of_ble_eq_true rfl⟩) (by omega) (by omega) obR_0 rfl rfl hl.1 rfl (Nat.le_of_ble_eq_true rfl) dX9_solve_15 ⟨Nat.zero_le _, Nat.zero_le _⟩ (fun r15_2 M15_2 H locs hr15_2 hw I => ?_)
      refine lv_istore (lv' := [(5, .int (i32 r15_2)), (0, .ref (g.2.2.2 0)), (4, .int (i32 x4))]) hx hb dX9_solve_18 hl (by decide) rfl (fun ls hl => ?_)
      refine lv_iload hx hb dX9_solve_20 (lv_at hl 2 rfl) ?_
      refine lv_aload_n hx hb dX9_solve_22 rfl (lv_at hl 1 rfl) ?_
      refine lv_iload hx hb dX9_solve_23 (lv_at hl 0 rfl) ?_
      refine lv_iload hx hb dX9_solve_25 (lv_at hl 2 rfl) ?_
      refine g_callVi (o := 0) (As := [.int (i32 r15_2), .int (i32 x4)]) (rest := [.int (i32 x4)]) ⟨hx, hb, hml, hown, hts⟩ I (mX9_go l g r15_2 x4 hr15_2 h4 M15_2 _ _ hw) (cwV 2 hts (gd_V wm_X9_135 wi_X9_go wl_X9_go wn_X9 wc_X9_go) rfl rfl rfl wd_X9_go ⟨Nat.le_of_ble_eq_true rfl, Nat.le_of_ble_eq_true rfl⟩) (by omega) (by omega) obR_0 rfl rfl hl.1 rfl (Nat.le_of_ble_eq_true rfl) dX9_solve_27 ⟨Nat.zero_le _, Nat.zero_le _⟩ (fun r27_3 M27_3 H locs hr27_3 hw I => ?_)
      refine li_isub hx hb dX9_solve_30 ?_
      obtain ⟨h_5, hw⟩ := hw
      refine li_name (fun v31_5 ev31_5 => ?_)
      replace hw := hw v31_5 ev31_5
      have hv31_5 : inR v31_5 := ev31_5 ▸ h_5
      refine lv_istore (lv' := [(4, .int (i32 v31_5)), (5, .int (i32 r15_2)), (0, .ref (g.2.2.2 0))]) hx hb dX9_solve_31 hl (by decide) rfl (fun ls hl => ?_)
      refine lv_goto (tgt := 9) hx hb dX9_solve_33 (by decide) ?_
      exact ih v31_5 hv31_5 _ _ _ _ hw I (lv_sub hl [2, 0] rfl)
set_option maxRecDepth 100000 in
set_option maxHeartbeats 4000000 in
theorem mX9_solve (l : Launch) (g : GP) (a1 a2 a3 : Int) (ha1 : inR a1) (ha2 : inR a2) (ha3 : inR a3) (M : Mem) (post : Int → Mem → Prop) (sz : Nat) (hw : wpX9_solve a1 a2 a3 M post) : MIR l yX9_solve wtX9_solve rmX9_solve g [.ref (g.2.2.2 0), .int (i32 a1), .int (i32 a2), .int (i32 a3)] M sz post := by
  refine Met.ofW (cc := cX9_solve) (maxL := 6) (ret := (some .int)) (by decide) rfl ?_
  intro p e s m args below meth c s₁ B hml hv
  obtain ⟨rfl, hpre⟩ := hv
  have hsz := hpre.1
  subst hsz
  have C : Cx p m c cX9_solve 6 s _ lw_g RX9 meth (some .int) := ⟨⟨B.exec, B.bytes, hml, findClass_of_methodNamed B.named, fun w h => atoms_spec (ws := wtX9_solve) B.pre w (List.mem_cons_of_mem _ h)⟩, B.returns, B.notSynchronized⟩
  obtain ⟨⟨hx, hb, hml, hown, hts⟩, hr, hlk⟩ := id C
  have I := InG.start hpre
  have hl := lv_entry ([.ref (g.2.2.2 0), .int (i32 a1), .int (i32 a2), .int (i32 a3)]) (n := 6) (Nat.le_of_ble_eq_true rfl)
  rw [lg_entry_eq]
  generalize (lg_sl ([.ref (g.2.2.2 0), .int (i32 a1), .int (i32 a2), .int (i32 a3)]) ++ List.replicate (6 - (lg_sl ([.ref (g.2.2.2 0), .int (i32 a1), .int (i32 a2), .int (i32 a3)])).length) Slot.unset).toArray = ls at hl ⊢
  have hl : lv_has ls 6 [(0, .ref (g.2.2.2 0)), (1, .int (i32 a1)), (2, .int (i32 a2)), (3, .int (i32 a3))] := hl
  show W p l e rmX9_solve s m _ below meth c s.heap [] 0 0 (QIR below _ s g post) _
  refine lv_aload_n hx hb dX9_solve_0 rfl (lv_at hl 0 rfl) ?_
  refine lv_iload_n hx hb dX9_solve_1 rfl (lv_at hl 1 rfl) ?_
  refine lv_iload_n hx hb dX9_solve_2 rfl (lv_at hl 2 rfl) ?_
  refine g_callVv (o := 0) (As := [.int (i32 a1), .int (i32 a2)]) (rest := []) ⟨hx, hb, hml, hown, hts⟩ I (mX9_begin l g a1 a2 ha1 ha2 M _ _ hw) (cwV 2 hts (gd_V wm_X9_127 wi_X9_begin wl_X9_begin wn_X9 wc_X9_begin) rfl rfl rfl wd_X9_begin ⟨Nat.le_of_ble_eq_true rfl, Nat.le_of_ble_eq_true rfl⟩) (by omega) (by omega) obR_0 rfl rfl hl.1 rfl (Nat.le_of_ble_eq_true rfl) dX9_solve_3 ⟨Nat.zero_le _, Nat.zero_le _⟩ (fun M3_0 H locs hw I => ?_)
  refine lv_iload_n hx hb dX9_solve_6 rfl (lv_at hl 3 rfl) ?_
  refine lv_istore (lv' := [(4, .int (i32 a3)), (0, .ref (g.2.2.2 0)), (1, .int (i32 a1)), (2, .int (i32 a2)), (3, .int (i32 a3))]) hx hb dX9_solve_7 hl (by decide) rfl (fun ls hl => ?_)
  obtain ⟨n1, hw⟩ := hw
  exact bX9_solve_9 C post n1 a3 ha3 _ _ _ _ hw I (lv_sub hl [1, 0] rfl)
abbrev rmX9_against : Room := { frames := 2, cells := 0, slots := 0, locals := 46 }
abbrev wtX9_against : List Cond := Cond.code yX9_against cX9_against 3 (some .int) :: lw_g
set_option maxRecDepth 100000 in
set_option maxHeartbeats 4000000 in
theorem bX9_against_16 {p : Program} {l : Launch} {e : Env} {s : State} {m : MethodId} {args : Array Value} {below : List Frame} {meth : Method} {c : Code} {g : GP} (C : Cx p m c cX9_against 3 s args lw_g RX9 meth (some .int)) (post : Int → Mem → Prop) : ∀ (M : Mem) (H : Heap) (locs : List Loc) (ls : Array Slot), jbX9_against_16 post  M → IR g s M H locs → lv_has ls 3 [(0, .ref (g.2.2.2 0))] → W p l e rmX9_against s m args below meth c H locs 0 0 (QIR below args s g post) (F0 m 16 ls []) := by
  obtain ⟨⟨hx, hb, hml, hown, hts⟩, hr, hlk⟩ := id C
  intro M H locs ls hw I hl
  refine lv_bipush (v := i32 (-2)) hx hb dX9_against_16 (by decide) ?_
  exact g_iret hx hb hr hlk I (by decide) hw dX9_against_18
set_option maxRecDepth 100000 in
set_option maxHeartbeats 4000000 in
theorem bX9_against_45 {p : Program} {l : Launch} {e : Env} {s : State} {m : MethodId} {args : Array Value} {below : List Frame} {meth : Method} {c : Code} {g : GP} (C : Cx p m c cX9_against 3 s args lw_g RX9 meth (some .int)) (post : Int → Mem → Prop) : ∀ (t0 : Int), inR t0 → ∀ (M : Mem) (H : Heap) (locs : List Loc) (ls : Array Slot), jbX9_against_45 post t0 M → IR g s M H locs → lv_has ls 3 [(0, .ref (g.2.2.2 0))] → W p l e rmX9_against s m args below meth c H locs 0 0 (QIR below args s g post) (F0 m 45 ls [.int (i32 t0)]) := by
  obtain ⟨⟨hx, hb, hml, hown, hts⟩, hr, hlk⟩ := id C
  intro t0 ht0 M H locs ls hw I hl
  exact g_iret hx hb hr hlk I ht0 hw dX9_against_45
set_option maxRecDepth 100000 in
set_option maxHeartbeats 4000000 in
theorem bX9_against_39 {p : Program} {l : Launch} {e : Env} {s : State} {m : MethodId} {args : Array Value} {below : List Frame} {meth : Method} {c : Code} {g : GP} (C : Cx p m c cX9_against 3 s args lw_g RX9 meth (some .int)) (post : Int → Mem → Prop) : ∀ (M : Mem) (H : Heap) (locs : List Loc) (ls : Array Slot), jbX9_against_39 post  M → IR g s M H locs → lv_has ls 3 [(0, .ref (g.2.2.2 0))] → W p l e rmX9_against s m args below meth c H locs 0 0 (QIR below args s g post) (F0 m 39 ls []) := by
  obtain ⟨⟨hx, hb, hml, hown, hts⟩, hr, hlk⟩ := id C
  intro M H locs ls hw I hl
  refine lv_bipush (v := i32 (-4)) hx hb dX9_against_39 (by decide) ?_
  refine lv_goto (tgt := 45) hx hb dX9_against_41 (by decide) ?_
  exact bX9_against_45 C post (-4) (by decide) _ _ _ _ hw I (lv_sub hl [0] rfl)
set_option maxRecDepth 100000 in
set_option maxHeartbeats 4000000 in
theorem mX9_against (l : Launch) (g : GP) (a1 a2 : Int) (ha1 : inR a1) (ha2 : inR a2) (M : Mem) (post : Int → Mem → Prop) (sz : Nat) (hw : wpX9_against a1 a2 M post) : MIR l yX9_against wtX9_against rmX9_against g [.ref (g.2.2.2 0), .int (i32 a1), .int (i32 a2)] M sz post := by
  refine Met.ofW (cc := cX9_against) (maxL := 3) (ret := (some .int)) (by decide) rfl ?_
  intro p e s m args below meth c s₁ B hml hv
  obtain ⟨rfl, hpre⟩ := hv
  have hsz := hpre.1
  subst hsz
  have C : Cx p m c cX9_against 3 s _ lw_g RX9 meth (some .int) := ⟨⟨B.exec, B.bytes, hml, findClass_of_methodNamed B.named, fun w h => atoms_spec (ws := wtX9_against) B.pre w (List.mem_cons_of_mem _ h)⟩, B.returns, B.notSynchronized⟩
  obtain ⟨⟨hx, hb, hml, hown, hts⟩, hr, hlk⟩ := id C
  have I := InG.start hpre
  have hl := lv_entry ([.ref (g.2.2.2 0), .int (i32 a1), .int (i32 a2)]) (n := 3) (Nat.le_of_ble_eq_true rfl)
  rw [lg_entry_eq]
  generalize (lg_sl ([.ref (g.2.2.2 0), .int (i32 a1), .int (i32 a2)]) ++ List.replicate (3 - (lg_sl ([.ref (g.2.2.2 0), .int (i32 a1), .int (i32 a2)])).length) Slot.unset).toArray = ls at hl ⊢
  have hl : lv_has ls 3 [(0, .ref (g.2.2.2 0)), (1, .int (i32 a1)), (2, .int (i32 a2))] := hl
  show W p l e rmX9_against s m _ below meth c s.heap [] 0 0 (QIR below _ s g post) _
  refine lv_aload_n hx hb dX9_against_0 rfl (lv_at hl 0 rfl) ?_
  refine lv_iload_n hx hb dX9_against_1 rfl (lv_at hl 1 rfl) ?_
  refine g_callVi (o := 0) (As := [.int (i32 a1)]) (rest := []) ⟨hx, hb, hml, hown, hts⟩ I (mX9_isHeap l g a1 ha1 M _ _ hw) (cwV 1 hts (gd_V wm_X9_111 wi_X9_isHeap wl_X9_isHeap wn_X9 wc_X9_isHeap) rfl rfl rfl wd_X9_isHeap ⟨Nat.le_of_ble_eq_true rfl, Nat.le_of_ble_eq_true rfl⟩) (by omega) (by omega) obR_0 rfl rfl hl.1 rfl (Nat.le_of_ble_eq_true rfl) dX9_against_2 ⟨Nat.zero_le _, Nat.zero_le _⟩ (fun r2_0 M2_0 H locs hr2_0 hw I => ?_)
  refine li_if_eq (tgt := 16) hx hb dX9_against_5 (by decide) hr2_0 (fun c_2 => ?_) (fun c_2 => ?_)
  · replace hw := hw.1 c_2
    exact bX9_against_16 C post _ _ _ _ hw I (lv_sub hl [0] rfl)
  · replace hw := hw.2 c_2
    refine lv_aload_n hx hb dX9_against_8 rfl (lv_at hl 0 rfl) ?_
    refine lv_iload_n hx hb dX9_against_9 rfl (lv_at hl 2 rfl) ?_
    refine g_callVi (o := 0) (As := [.int (i32 a2)]) (rest := []) ⟨hx, hb, hml, hown, hts⟩ I (mX9_isHeap l g a2 ha2 M2_0 _ _ hw) (cwV 1 hts (gd_V wm_X9_111 wi_X9_isHeap wl_X9_isHeap wn_X9 wc_X9_isHeap) rfl rfl rfl wd_X9_isHeap ⟨Nat.le_of_ble_eq_true rfl, Nat.le_of_ble_eq_true rfl⟩) (by omega) (by omega) obR_0 rfl rfl hl.1 rfl (Nat.le_of_ble_eq_true rfl) dX9_against_10 ⟨Nat.zero_le _, Nat.zero_le _⟩ (fun r10_2 M10_2 H locs hr10_2 hw I => ?_)
    refine li_if_ne (tgt := 19) hx hb dX9_against_13 (by decide) hr10_2 (fun c_4 => ?_) (fun c_4 => ?_)
    · replace hw := hw.1 c_4
      refine lv_aload_n hx hb dX9_against_19 rfl (lv_at hl 0 rfl) ?_
      refine g_callVi (o := 0) (As := []) (rest := []) ⟨hx, hb, hml, hown, hts⟩ I (mX9_isJoined l g M10_2 _ _ hw) (cwV 0 hts (gd_V wm_X9_142 wi_X9_isJoined wl_X9_isJoined wn_X9 wc_X9_isJoined) rfl rfl rfl wd_X9_isJoined ⟨Nat.le_of_ble_eq_true rfl, Nat.le_of_ble_eq_true rfl⟩) (by omega) (by omega) obR_0 rfl rfl hl.1 rfl (Nat.le_of_ble_eq_true rfl) dX9_against_20 ⟨Nat.zero_le _, Nat.zero_le _⟩ (fun r20_4 M20_4 H locs hr20_4 hw I => ?_)
      refine li_if_eq (tgt := 39) hx hb dX9_against_23 (by decide) hr20_4 (fun c_6 => ?_) (fun c_6 => ?_)
      · replace hw := hw.1 c_6
        exact bX9_against_39 C post _ _ _ _ hw I (lv_sub hl [0] rfl)
      · replace hw := hw.2 c_6
        refine lv_aload_n hx hb dX9_against_26 rfl (lv_at hl 0 rfl) ?_
        refine lv_iload_n hx hb dX9_against_27 rfl (lv_at hl 1 rfl) ?_
        refine g_callVi (o := 0) (As := [.int (i32 a1)]) (rest := []) ⟨hx, hb, hml, hown, hts⟩ I (mX9_sumOf l g a1 ha1 M20_4 _ _ hw) (cwV 1 hts (gd_V wm_X9_123 wi_X9_sumOf wl_X9_sumOf wn_X9 wc_X9_sumOf) rfl rfl rfl wd_X9_sumOf ⟨Nat.le_of_ble_eq_true rfl, Nat.le_of_ble_eq_true rfl⟩) (by omega) (by omega) obR_0 rfl rfl hl.1 rfl (Nat.le_of_ble_eq_true rfl) dX9_against_28 ⟨Nat.zero_le _, Nat.zero_le _⟩ (fun r28_6 M28_6 H locs hr28_6 hw I => ?_)
        refine lv_aload_n hx hb dX9_against_31 rfl (lv_at hl 0 rfl) ?_
        refine lv_iload_n hx hb dX9_against_32 rfl (lv_at hl 2 rfl) ?_
        refine g_callVi (o := 0) (As := [.int (i32 a2)]) (rest := [.int (i32 r28_6)]) ⟨hx, hb, hml, hown, hts⟩ I (mX9_sumOf l g a2 ha2 M28_6 _ _ hw) (cwV 1 hts (gd_V wm_X9_123 wi_X9_sumOf wl_X9_sumOf wn_X9 wc_X9_sumOf) rfl rfl rfl wd_X9_sumOf ⟨Nat.le_of_ble_eq_true rfl, Nat.le_of_ble_eq_true rfl⟩) (by omega) (by omega) obR_0 rfl rfl hl.1 rfl (Nat.le_of_ble_eq_true rfl) dX9_against_33 ⟨Nat.zero_le _, Nat.zero_le _⟩ (fun r33_7 M33_7 H locs hr33_7 hw I => ?_)
        refine li_icmp_eq (tgt := 44) hx hb dX9_against_36 (by decide) hr28_6 hr33_7 (fun c_9 => ?_) (fun c_9 => ?_)
        · replace hw := hw.1 c_9
          refine li_iconst hx hb dX9_against_44 ?_
          exact bX9_against_45 C post 0 (by decide) _ _ _ _ hw I (lv_sub hl [0] rfl)
        · replace hw := hw.2 c_9
          exact bX9_against_39 C post _ _ _ _ hw I (lv_sub hl [0] rfl)
    · replace hw := hw.2 c_4
      exact bX9_against_16 C post _ _ _ _ hw I (lv_sub hl [0] rfl)
abbrev rmX9_least : Room := { frames := 3, cells := 0, slots := 0, locals := 68 }
abbrev wtX9_least : List Cond := Cond.code yX9_least cX9_least 4 (some .int) :: lw_g
set_option maxRecDepth 100000 in
set_option maxHeartbeats 4000000 in
theorem bX9_least_26 {p : Program} {l : Launch} {e : Env} {s : State} {m : MethodId} {args : Array Value} {below : List Frame} {meth : Method} {c : Code} {g : GP} (C : Cx p m c cX9_least 4 s args lw_g RX9 meth (some .int)) (post : Int → Mem → Prop) : ∀ (t0 : Int), inR t0 → ∀ (M : Mem) (H : Heap) (locs : List Loc) (ls : Array Slot), jbX9_least_26 post t0 M → IR g s M H locs → lv_has ls 4 [(0, .ref (g.2.2.2 0))] → W p l e rmX9_least s m args below meth c H locs 0 0 (QIR below args s g post) (F0 m 26 ls [.int (i32 t0)]) := by
  obtain ⟨⟨hx, hb, hml, hown, hts⟩, hr, hlk⟩ := id C
  intro t0 ht0 M H locs ls hw I hl
  exact g_iret hx hb hr hlk I ht0 hw dX9_least_26
set_option maxRecDepth 100000 in
set_option maxHeartbeats 4000000 in
theorem mX9_least (l : Launch) (g : GP) (a1 a2 : Int) (ha1 : inR a1) (ha2 : inR a2) (M : Mem) (post : Int → Mem → Prop) (sz : Nat) (hw : wpX9_least a1 a2 M post) : MIR l yX9_least wtX9_least rmX9_least g [.ref (g.2.2.2 0), .int (i32 a1), .int (i32 a2)] M sz post := by
  refine Met.ofW (cc := cX9_least) (maxL := 4) (ret := (some .int)) (by decide) rfl ?_
  intro p e s m args below meth c s₁ B hml hv
  obtain ⟨rfl, hpre⟩ := hv
  have hsz := hpre.1
  subst hsz
  have C : Cx p m c cX9_least 4 s _ lw_g RX9 meth (some .int) := ⟨⟨B.exec, B.bytes, hml, findClass_of_methodNamed B.named, fun w h => atoms_spec (ws := wtX9_least) B.pre w (List.mem_cons_of_mem _ h)⟩, B.returns, B.notSynchronized⟩
  obtain ⟨⟨hx, hb, hml, hown, hts⟩, hr, hlk⟩ := id C
  have I := InG.start hpre
  have hl := lv_entry ([.ref (g.2.2.2 0), .int (i32 a1), .int (i32 a2)]) (n := 4) (Nat.le_of_ble_eq_true rfl)
  rw [lg_entry_eq]
  generalize (lg_sl ([.ref (g.2.2.2 0), .int (i32 a1), .int (i32 a2)]) ++ List.replicate (4 - (lg_sl ([.ref (g.2.2.2 0), .int (i32 a1), .int (i32 a2)])).length) Slot.unset).toArray = ls at hl ⊢
  have hl : lv_has ls 4 [(0, .ref (g.2.2.2 0)), (1, .int (i32 a1)), (2, .int (i32 a2))] := hl
  show W p l e rmX9_least s m _ below meth c s.heap [] 0 0 (QIR below _ s g post) _
  refine lv_aload_n hx hb dX9_least_0 rfl (lv_at hl 0 rfl) ?_
  refine lv_iload_n hx hb dX9_least_1 rfl (lv_at hl 1 rfl) ?_
  refine lv_iload_n hx hb dX9_least_2 rfl (lv_at hl 2 rfl) ?_
  refine g_callVi (o := 0) (As := [.int (i32 a1), .int (i32 a2)]) (rest := []) ⟨hx, hb, hml, hown, hts⟩ I (mX9_against l g a1 a2 ha1 ha2 M _ _ hw) (cwV 2 hts (gd_V wm_X9_146 wi_X9_against wl_X9_against wn_X9 wc_X9_against) rfl rfl rfl wd_X9_against ⟨Nat.le_of_ble_eq_true rfl, Nat.le_of_ble_eq_true rfl⟩) (by omega) (by omega) obR_0 rfl rfl hl.1 rfl (Nat.le_of_ble_eq_true rfl) dX9_least_3 ⟨Nat.zero_le _, Nat.zero_le _⟩ (fun r3_0 M3_0 H locs hr3_0 hw I => ?_)
  refine lv_istore_n (lv' := [(3, .int (i32 r3_0)), (0, .ref (g.2.2.2 0)), (1, .int (i32 a1)), (2, .int (i32 a2))]) hx hb dX9_least_6 rfl hl (by decide) rfl (fun ls hl => ?_)
  refine lv_iload_n hx hb dX9_least_7 rfl (lv_at hl 0 rfl) ?_
  refine li_if_eq (tgt := 15) hx hb dX9_least_8 (by decide) hr3_0 (fun c_2 => ?_) (fun c_2 => ?_)
  · replace hw := hw.1 c_2
    refine lv_aload_n hx hb dX9_least_15 rfl (lv_at hl 1 rfl) ?_
    refine lv_iload_n hx hb dX9_least_16 rfl (lv_at hl 2 rfl) ?_
    refine lv_iload_n hx hb dX9_least_17 rfl (lv_at hl 3 rfl) ?_
    refine lv_aload_n hx hb dX9_least_18 rfl (lv_at hl 1 rfl) ?_
    refine lv_iload_n hx hb dX9_least_19 rfl (lv_at hl 2 rfl) ?_
    refine g_callVi (o := 0) (As := [.int (i32 a1)]) (rest := [.int (i32 a2), .int (i32 a1), .ref (g.2.2.2 0)]) ⟨hx, hb, hml, hown, hts⟩ I (mX9_sumOf l g a1 ha1 M3_0 _ _ hw) (cwV 1 hts (gd_V wm_X9_123 wi_X9_sumOf wl_X9_sumOf wn_X9 wc_X9_sumOf) rfl rfl rfl wd_X9_sumOf ⟨Nat.le_of_ble_eq_true rfl, Nat.le_of_ble_eq_true rfl⟩) (by omega) (by omega) obR_0 rfl rfl hl.1 rfl (Nat.le_of_ble_eq_true rfl) dX9_least_20 ⟨Nat.zero_le _, Nat.zero_le _⟩ (fun r20_2 M20_2 H locs hr20_2 hw I => ?_)
    refine g_callVi (o := 0) (As := [.int (i32 a1), .int (i32 a2), .int (i32 r20_2)]) (rest := []) ⟨hx, hb, hml, hown, hts⟩ I (mX9_solve l g a1 a2 r20_2 ha1 ha2 hr20_2 M20_2 _ _ hw) (cwV 3 hts (gd_V wm_X9_149 wi_X9_solve wl_X9_solve wn_X9 wc_X9_solve) rfl rfl rfl wd_X9_solve ⟨Nat.le_of_ble_eq_true rfl, Nat.le_of_ble_eq_true rfl⟩) (by omega) (by omega) obR_0 rfl rfl hl.1 rfl (Nat.le_of_ble_eq_true rfl) dX9_least_23 ⟨Nat.zero_le _, Nat.zero_le _⟩ (fun r23_3 M23_3 H locs hr23_3 hw I => ?_)
    exact bX9_least_26 C post r23_3 hr23_3 _ _ _ _ hw I (lv_sub hl [1] rfl)
  · replace hw := hw.2 c_2
    refine lv_iload_n hx hb dX9_least_11 rfl (lv_at hl 0 rfl) ?_
    refine lv_goto (tgt := 26) hx hb dX9_least_12 (by decide) ?_
    exact bX9_least_26 C post r3_0 hr3_0 _ _ _ _ hw I (lv_sub hl [1] rfl)
abbrev rmX9_findHeights : Room := { frames := 0, cells := 0, slots := 0, locals := 0 }
abbrev wtX9_findHeights : List Cond := Cond.code yX9_findHeights cX9_findHeights 5 none :: lw_g
set_option maxRecDepth 100000 in
set_option maxHeartbeats 4000000 in
theorem bX9_findHeights_179 {p : Program} {l : Launch} {e : Env} {s : State} {m : MethodId} {args : Array Value} {below : List Frame} {meth : Method} {c : Code} {g : GP} (C : Cx p m c cX9_findHeights 5 s args lw_g RX9 meth none) (post : Mem → Prop) (k34 : Int → Mem → Prop) (k42 : Int → Int → Mem → Prop) (k52 : Int → Int → Int → Mem → Prop) (hk34 : ∀ (x1 : Int), inR x1 → ∀ (M : Mem) (H : Heap) (locs : List Loc) (ls : Array Slot), k34 x1 M → IR g s M H locs → lv_has ls 5 [(0, .ref (g.2.2.2 0)), (1, .int (i32 x1))] → W p l e rmX9_findHeights s m args below meth c H locs 0 0 (QVR below args s g post) (F0 m 34 ls [])) (hk42 : ∀ (x1 x2 : Int), inR x1 → inR x2 → ∀ (M : Mem) (H : Heap) (locs : List Loc) (ls : Array Slot), k42 x1 x2 M → IR g s M H locs → lv_has ls 5 [(0, .ref (g.2.2.2 0)), (1, .int (i32 x1)), (2, .int (i32 x2))] → W p l e rmX9_findHeights s m args below meth c H locs 0 0 (QVR below args s g post) (F0 m 42 ls [])) (hk52 : ∀ (x1 x2 x3 : Int), inR x1 → inR x2 → inR x3 → ∀ (M : Mem) (H : Heap) (locs : List Loc) (ls : Array Slot), k52 x1 x2 x3 M → IR g s M H locs → lv_has ls 5 [(0, .ref (g.2.2.2 0)), (1, .int (i32 x1)), (2, .int (i32 x2)), (3, .int (i32 x3))] → W p l e rmX9_findHeights s m args below meth c H locs 0 0 (QVR below args s g post) (F0 m 52 ls [])) : ∀ (x1 x2 x3 : Int), inR x1 → inR x2 → inR x3 → ∀ (M : Mem) (H : Heap) (locs : List Loc) (ls : Array Slot), jbX9_findHeights_179 post k34 k42 k52 x1 x2 x3 M → IR g s M H locs → lv_has ls 5 [(0, .ref (g.2.2.2 0)), (1, .int (i32 x1)), (2, .int (i32 x2)), (3, .int (i32 x3))] → W p l e rmX9_findHeights s m args below meth c H locs 0 0 (QVR below args s g post) (F0 m 179 ls []) := by
  obtain ⟨⟨hx, hb, hml, hown, hts⟩, hr, hlk⟩ := id C
  intro x1 x2 x3 h1 h2 h3 M H locs ls hw I hl
  refine li_iinc (lv' := [(3, .int (i32 (x3 + 1))), (0, .ref (g.2.2.2 0)), (1, .int (i32 x1)), (2, .int (i32 x2))]) hx hb dX9_findHeights_179 hl (k := 3) rfl (by decide) rfl (fun ls hl => ?_)
  refine lv_goto (tgt := 52) hx hb dX9_findHeights_182 (by decide) ?_
  obtain ⟨h_1, hw⟩ := hw
  exact hk52 x1 x2 (x3 + 1) h1 h2 h_1 _ _ _ _ hw I (lv_sub hl [1, 2, 3, 0] rfl)
set_option maxRecDepth 100000 in
set_option maxHeartbeats 4000000 in
theorem bX9_findHeights_119 {p : Program} {l : Launch} {e : Env} {s : State} {m : MethodId} {args : Array Value} {below : List Frame} {meth : Method} {c : Code} {g : GP} (C : Cx p m c cX9_findHeights 5 s args lw_g RX9 meth none) (post : Mem → Prop) (k34 : Int → Mem → Prop) (k42 : Int → Int → Mem → Prop) (k52 : Int → Int → Int → Mem → Prop) (hk34 : ∀ (x1 : Int), inR x1 → ∀ (M : Mem) (H : Heap) (locs : List Loc) (ls : Array Slot), k34 x1 M → IR g s M H locs → lv_has ls 5 [(0, .ref (g.2.2.2 0)), (1, .int (i32 x1))] → W p l e rmX9_findHeights s m args below meth c H locs 0 0 (QVR below args s g post) (F0 m 34 ls [])) (hk42 : ∀ (x1 x2 : Int), inR x1 → inR x2 → ∀ (M : Mem) (H : Heap) (locs : List Loc) (ls : Array Slot), k42 x1 x2 M → IR g s M H locs → lv_has ls 5 [(0, .ref (g.2.2.2 0)), (1, .int (i32 x1)), (2, .int (i32 x2))] → W p l e rmX9_findHeights s m args below meth c H locs 0 0 (QVR below args s g post) (F0 m 42 ls [])) (hk52 : ∀ (x1 x2 x3 : Int), inR x1 → inR x2 → inR x3 → ∀ (M : Mem) (H : Heap) (locs : List Loc) (ls : Array Slot), k52 x1 x2 x3 M → IR g s M H locs → lv_has ls 5 [(0, .ref (g.2.2.2 0)), (1, .int (i32 x1)), (2, .int (i32 x2)), (3, .int (i32 x3))] → W p l e rmX9_findHeights s m args below meth c H locs 0 0 (QVR below args s g post) (F0 m 52 ls [])) : ∀ (x1 x2 x3 x4 : Int), inR x1 → inR x2 → inR x3 → inR x4 → ∀ (M : Mem) (H : Heap) (locs : List Loc) (ls : Array Slot), jbX9_findHeights_119 post k34 k42 k52 x1 x2 x3 x4 M → IR g s M H locs → lv_has ls 5 [(0, .ref (g.2.2.2 0)), (1, .int (i32 x1)), (2, .int (i32 x2)), (3, .int (i32 x3)), (4, .int (i32 x4))] → W p l e rmX9_findHeights s m args below meth c H locs 0 0 (QVR below args s g post) (F0 m 119 ls []) := by
  obtain ⟨⟨hx, hb, hml, hown, hts⟩, hr, hlk⟩ := id C
  intro x1 x2 x3 x4 h1 h2 h3 h4 M H locs ls hw I hl
  refine lv_aload_n hx hb dX9_findHeights_119 rfl (lv_at hl 0 rfl) ?_
  refine rg_0_15 hx hb hts wu_X9 hown I wf_X9_40 dX9_findHeights_120 ?_
  refine lv_bipush (v := i32 10) hx hb dX9_findHeights_123 (by decide) ?_
  refine lv_iload_n hx hb dX9_findHeights_125 rfl (lv_at hl 2 rfl) ?_
  refine li_imul hx hb dX9_findHeights_126 ?_
  refine lv_iload_n hx hb dX9_findHeights_127 rfl (lv_at hl 3 rfl) ?_
  refine li_iadd hx hb dX9_findHeights_128 ?_
  obtain ⟨h_1, hw⟩ := hw
  refine r_iald hx hb I 11 lenR_11 (by decide) h_1 dX9_findHeights_129 ?_
  have h_2 := I.rng 11 ((10 * x2) + x3)
  refine li_if_le (tgt := 179) hx hb dX9_findHeights_130 (by decide) h_2 (fun c_3 => ?_) (fun c_3 => ?_)
  · replace hw := hw.1 c_3
    exact bX9_findHeights_179 C post k34 k42 k52 hk34 hk42 hk52 x1 x2 x3 h1 h2 h3 _ _ _ _ hw I (lv_sub hl [0, 1, 2, 3] rfl)
  · replace hw := hw.2 c_3
    refine lv_aload_n hx hb dX9_findHeights_133 rfl (lv_at hl 0 rfl) ?_
    refine rg_0_18 hx hb hts wu_X9 hown I wf_X9_49 dX9_findHeights_134 ?_
    refine lv_iload_n hx hb dX9_findHeights_137 rfl (lv_at hl 2 rfl) ?_
    obtain ⟨h_4, hw⟩ := hw
    refine r_iald hx hb I 14 lenR_14 (by decide) h_4 dX9_findHeights_138 ?_
    have h_5 := I.rng 14 x2
    refine lv_ldc (v := i32 1000000000) hx hb hown (hts _ wk_X9_115) dX9_findHeights_139 ?_
    refine li_icmp_ge (tgt := 179) hx hb dX9_findHeights_141 (by decide) h_5 (by decide) (fun c_6 => ?_) (fun c_6 => ?_)
    · replace hw := hw.1 c_6
      exact bX9_findHeights_179 C post k34 k42 k52 hk34 hk42 hk52 x1 x2 x3 h1 h2 h3 _ _ _ _ hw I (lv_sub hl [0, 1, 2, 3] rfl)
    · replace hw := hw.2 c_6
      refine lv_aload_n hx hb dX9_findHeights_144 rfl (lv_at hl 0 rfl) ?_
      refine rg_0_18 hx hb hts wu_X9 hown I wf_X9_49 dX9_findHeights_145 ?_
      refine lv_iload_n hx hb dX9_findHeights_148 rfl (lv_at hl 2 rfl) ?_
      obtain ⟨h_7, hw⟩ := hw
      refine r_iald hx hb I 14 lenR_14 (by decide) h_7 dX9_findHeights_149 ?_
      have h_8 := I.rng 14 x2
      refine lv_iload hx hb dX9_findHeights_150 (lv_at hl 4 rfl) ?_
      refine li_isub hx hb dX9_findHeights_152 ?_
      refine lv_aload_n hx hb dX9_findHeights_153 rfl (lv_at hl 0 rfl) ?_
      refine rg_0_18 hx hb hts wu_X9 hown I wf_X9_49 dX9_findHeights_154 ?_
      refine lv_iload_n hx hb dX9_findHeights_157 rfl (lv_at hl 3 rfl) ?_
      obtain ⟨h_9, hw⟩ := hw
      refine r_iald hx hb I 14 lenR_14 (by decide) h_9 dX9_findHeights_158 ?_
      have h_10 := I.rng 14 x3
      obtain ⟨h_12, hw⟩ := hw
      refine li_icmp_ge (tgt := 179) hx hb dX9_findHeights_159 (by decide) h_12 h_10 (fun c_11 => ?_) (fun c_11 => ?_)
      · replace hw := hw.1 c_11
        exact bX9_findHeights_179 C post k34 k42 k52 hk34 hk42 hk52 x1 x2 x3 h1 h2 h3 _ _ _ _ hw I (lv_sub hl [0, 1, 2, 3] rfl)
      · replace hw := hw.2 c_11
        refine lv_aload_n hx hb dX9_findHeights_162 rfl (lv_at hl 0 rfl) ?_
        refine rg_0_18 hx hb hts wu_X9 hown I wf_X9_49 dX9_findHeights_163 ?_
        refine lv_iload_n hx hb dX9_findHeights_166 rfl (lv_at hl 3 rfl) ?_
        refine lv_aload_n hx hb dX9_findHeights_167 rfl (lv_at hl 0 rfl) ?_
        refine rg_0_18 hx hb hts wu_X9 hown I wf_X9_49 dX9_findHeights_168 ?_
        refine lv_iload_n hx hb dX9_findHeights_171 rfl (lv_at hl 2 rfl) ?_
        obtain ⟨h_13, hw⟩ := hw
        refine r_iald hx hb I 14 lenR_14 (by decide) h_13 dX9_findHeights_172 ?_
        have h_14 := I.rng 14 x2
        refine lv_iload hx hb dX9_findHeights_173 (lv_at hl 4 rfl) ?_
        refine li_isub hx hb dX9_findHeights_175 ?_
        obtain ⟨h_15, hw⟩ := hw
        refine r_iast hx hb I 14 lenR_14 (by decide) h_15 h_12 dX9_findHeights_176 (fun H locs M176_15 eM176_15 I => ?_)
        replace hw := hw M176_15 eM176_15
        refine li_iconst hx hb dX9_findHeights_177 ?_
        refine lv_istore_n (lv' := [(1, .int (i32 1)), (0, .ref (g.2.2.2 0)), (2, .int (i32 x2)), (3, .int (i32 x3)), (4, .int (i32 x4))]) hx hb dX9_findHeights_178 rfl hl (by decide) rfl (fun ls hl => ?_)
        exact bX9_findHeights_179 C post k34 k42 k52 hk34 hk42 hk52 1 x2 x3 (by decide) h2 h3 _ _ _ _ hw I (lv_sub hl [1, 0, 2, 3] rfl)
set_option maxRecDepth 100000 in
set_option maxHeartbeats 4000000 in
theorem bX9_findHeights_52 {p : Program} {l : Launch} {e : Env} {s : State} {m : MethodId} {args : Array Value} {below : List Frame} {meth : Method} {c : Code} {g : GP} (C : Cx p m c cX9_findHeights 5 s args lw_g RX9 meth none) (post : Mem → Prop) (k34 : Int → Mem → Prop) (k42 : Int → Int → Mem → Prop) (hk34 : ∀ (x1 : Int), inR x1 → ∀ (M : Mem) (H : Heap) (locs : List Loc) (ls : Array Slot), k34 x1 M → IR g s M H locs → lv_has ls 5 [(0, .ref (g.2.2.2 0)), (1, .int (i32 x1))] → W p l e rmX9_findHeights s m args below meth c H locs 0 0 (QVR below args s g post) (F0 m 34 ls [])) (hk42 : ∀ (x1 x2 : Int), inR x1 → inR x2 → ∀ (M : Mem) (H : Heap) (locs : List Loc) (ls : Array Slot), k42 x1 x2 M → IR g s M H locs → lv_has ls 5 [(0, .ref (g.2.2.2 0)), (1, .int (i32 x1)), (2, .int (i32 x2))] → W p l e rmX9_findHeights s m args below meth c H locs 0 0 (QVR below args s g post) (F0 m 42 ls [])) : ∀ (n : Nat), ∀ (x1 x2 x3 : Int), inR x1 → inR x2 → inR x3 → ∀ (M : Mem) (H : Heap) (locs : List Loc) (ls : Array Slot), lpX9_findHeights_52 post k34 k42 n x1 x2 x3 M → IR g s M H locs → lv_has ls 5 [(0, .ref (g.2.2.2 0)), (1, .int (i32 x1)), (2, .int (i32 x2)), (3, .int (i32 x3))] → W p l e rmX9_findHeights s m args below meth c H locs 0 0 (QVR below args s g post) (F0 m 52 ls []) := by
  obtain ⟨⟨hx, hb, hml, hown, hts⟩, hr, hlk⟩ := id C
  intro n
  induction n with
  | zero =>
    intro x1 x2 x3 h1 h2 h3 M H locs ls hw
    exact hw.elim
  | succ n ih =>
    intro x1 x2 x3 h1 h2 h3 M H locs ls hw I hl
    refine lv_iload_n hx hb dX9_findHeights_52 rfl (lv_at hl 3 rfl) ?_
    refine lv_aload_n hx hb dX9_findHeights_53 rfl (lv_at hl 0 rfl) ?_
    refine rg_0_0 hx hb hts wu_X9 hown I wf_X9_86 dX9_findHeights_54 ?_
    have h_1 := I.rng 0 0
    refine li_icmp_ge (tgt := 185) hx hb dX9_findHeights_57 (by decide) h3 h_1 (fun c_2 => ?_) (fun c_2 => ?_)
    · replace hw := hw.1 c_2
      refine li_iinc (lv' := [(2, .int (i32 (x2 + 1))), (0, .ref (g.2.2.2 0)), (1, .int (i32 x1)), (3, .int (i32 x3))]) hx hb dX9_findHeights_185 hl (k := 2) rfl (by decide) rfl (fun ls hl => ?_)
      refine lv_goto (tgt := 42) hx hb dX9_findHeights_188 (by decide) ?_
      obtain ⟨h_3, hw⟩ := hw
      exact hk42 x1 (x2 + 1) h1 h_3 _ _ _ _ hw I (lv_sub hl [1, 2, 0] rfl)
    · replace hw := hw.2 c_2
      refine lv_aload_n hx hb dX9_findHeights_60 rfl (lv_at hl 0 rfl) ?_
      refine rg_0_14 hx hb hts wu_X9 hown I wf_X9_37 dX9_findHeights_61 ?_
      refine lv_bipush (v := i32 10) hx hb dX9_findHeights_64 (by decide) ?_
      refine lv_iload_n hx hb dX9_findHeights_66 rfl (lv_at hl 2 rfl) ?_
      refine li_imul hx hb dX9_findHeights_67 ?_
      refine lv_iload_n hx hb dX9_findHeights_68 rfl (lv_at hl 3 rfl) ?_
      refine li_iadd hx hb dX9_findHeights_69 ?_
      obtain ⟨h_4, hw⟩ := hw
      refine r_iald hx hb I 10 lenR_10 (by decide) h_4 dX9_findHeights_70 ?_
      have h_5 := I.rng 10 ((10 * x2) + x3)
      refine li_name (fun v71_5 ev71_5 => ?_)
      replace hw := hw v71_5 ev71_5
      have hv71_5 : inR v71_5 := ev71_5 ▸ h_5
      refine lv_istore (lv' := [(4, .int (i32 v71_5)), (0, .ref (g.2.2.2 0)), (1, .int (i32 x1)), (2, .int (i32 x2)), (3, .int (i32 x3))]) hx hb dX9_findHeights_71 hl (by decide) rfl (fun ls hl => ?_)
      refine lv_aload_n hx hb dX9_findHeights_73 rfl (lv_at hl 1 rfl) ?_
      refine rg_0_18 hx hb hts wu_X9 hown I wf_X9_49 dX9_findHeights_74 ?_
      refine lv_iload_n hx hb dX9_findHeights_77 rfl (lv_at hl 4 rfl) ?_
      obtain ⟨h_7, hw⟩ := hw
      refine r_iald hx hb I 14 lenR_14 (by decide) h_7 dX9_findHeights_78 ?_
      have h_8 := I.rng 14 x3
      refine lv_ldc (v := i32 1000000000) hx hb hown (hts _ wk_X9_115) dX9_findHeights_79 ?_
      refine li_icmp_ge (tgt := 119) hx hb dX9_findHeights_81 (by decide) h_8 (by decide) (fun c_9 => ?_) (fun c_9 => ?_)
      · replace hw := hw.1 c_9
        exact bX9_findHeights_119 C post k34 k42 (fun y1 y2 y3 N => lpX9_findHeights_52 post k34 k42 n y1 y2 y3 N) hk34 hk42 ih x1 x2 x3 v71_5 h1 h2 h3 hv71_5 _ _ _ _ hw I (lv_sub hl [1, 2, 3, 4, 0] rfl)
      · replace hw := hw.2 c_9
        refine lv_aload_n hx hb dX9_findHeights_84 rfl (lv_at hl 1 rfl) ?_
        refine rg_0_18 hx hb hts wu_X9 hown I wf_X9_49 dX9_findHeights_85 ?_
        refine lv_iload_n hx hb dX9_findHeights_88 rfl (lv_at hl 4 rfl) ?_
        obtain ⟨h_10, hw⟩ := hw
        refine r_iald hx hb I 14 lenR_14 (by decide) h_10 dX9_findHeights_89 ?_
        have h_11 := I.rng 14 x3
        refine lv_iload hx hb dX9_findHeights_90 (lv_at hl 0 rfl) ?_
        refine li_iadd hx hb dX9_findHeights_92 ?_
        refine lv_aload_n hx hb dX9_findHeights_93 rfl (lv_at hl 1 rfl) ?_
        refine rg_0_18 hx hb hts wu_X9 hown I wf_X9_49 dX9_findHeights_94 ?_
        refine lv_iload_n hx hb dX9_findHeights_97 rfl (lv_at hl 3 rfl) ?_
        obtain ⟨h_12, hw⟩ := hw
        refine r_iald hx hb I 14 lenR_14 (by decide) h_12 dX9_findHeights_98 ?_
        have h_13 := I.rng 14 x2
        obtain ⟨h_15, hw⟩ := hw
        refine li_icmp_ge (tgt := 119) hx hb dX9_findHeights_99 (by decide) h_15 h_13 (fun c_14 => ?_) (fun c_14 => ?_)
        · replace hw := hw.1 c_14
          exact bX9_findHeights_119 C post k34 k42 (fun y1 y2 y3 N => lpX9_findHeights_52 post k34 k42 n y1 y2 y3 N) hk34 hk42 ih x1 x2 x3 v71_5 h1 h2 h3 hv71_5 _ _ _ _ hw I (lv_sub hl [1, 2, 3, 4, 0] rfl)
        · replace hw := hw.2 c_14
          refine lv_aload_n hx hb dX9_findHeights_102 rfl (lv_at hl 1 rfl) ?_
          refine rg_0_18 hx hb hts wu_X9 hown I wf_X9_49 dX9_findHeights_103 ?_
          refine lv_iload_n hx hb dX9_findHeights_106 rfl (lv_at hl 3 rfl) ?_
          refine lv_aload_n hx hb dX9_findHeights_107 rfl (lv_at hl 1 rfl) ?_
          refine rg_0_18 hx hb hts wu_X9 hown I wf_X9_49 dX9_findHeights_108 ?_
          refine lv_iload_n hx hb dX9_findHeights_111 rfl (lv_at hl 4 rfl) ?_
          obtain ⟨h_16, hw⟩ := hw
          refine r_iald hx hb I 14 lenR_14 (by decide) h_16 dX9_findHeights_112 ?_
          have h_17 := I.rng 14 x3
          refine lv_iload hx hb dX9_findHeights_113 (lv_at hl 0 rfl) ?_
          refine li_iadd hx hb dX9_findHeights_115 ?_
          obtain ⟨h_18, hw⟩ := hw
          refine r_iast hx hb I 14 lenR_14 (by decide) h_18 h_15 dX9_findHeights_116 (fun H locs M116_18 eM116_18 I => ?_)
          replace hw := hw M116_18 eM116_18
          refine li_iconst hx hb dX9_findHeights_117 ?_
          refine lv_istore_n (lv' := [(1, .int (i32 1)), (4, .int (i32 v71_5)), (0, .ref (g.2.2.2 0)), (2, .int (i32 x2)), (3, .int (i32 x3))]) hx hb dX9_findHeights_118 rfl hl (by decide) rfl (fun ls hl => ?_)
          exact bX9_findHeights_119 C post k34 k42 (fun y1 y2 y3 N => lpX9_findHeights_52 post k34 k42 n y1 y2 y3 N) hk34 hk42 ih 1 x2 x3 v71_5 (by decide) h2 h3 hv71_5 _ _ _ _ hw I (lv_sub hl [2, 0, 3, 4, 1] rfl)
set_option maxRecDepth 100000 in
set_option maxHeartbeats 4000000 in
theorem bX9_findHeights_42 {p : Program} {l : Launch} {e : Env} {s : State} {m : MethodId} {args : Array Value} {below : List Frame} {meth : Method} {c : Code} {g : GP} (C : Cx p m c cX9_findHeights 5 s args lw_g RX9 meth none) (post : Mem → Prop) (k34 : Int → Mem → Prop) (hk34 : ∀ (x1 : Int), inR x1 → ∀ (M : Mem) (H : Heap) (locs : List Loc) (ls : Array Slot), k34 x1 M → IR g s M H locs → lv_has ls 5 [(0, .ref (g.2.2.2 0)), (1, .int (i32 x1))] → W p l e rmX9_findHeights s m args below meth c H locs 0 0 (QVR below args s g post) (F0 m 34 ls [])) : ∀ (n : Nat), ∀ (x1 x2 : Int), inR x1 → inR x2 → ∀ (M : Mem) (H : Heap) (locs : List Loc) (ls : Array Slot), lpX9_findHeights_42 post k34 n x1 x2 M → IR g s M H locs → lv_has ls 5 [(0, .ref (g.2.2.2 0)), (1, .int (i32 x1)), (2, .int (i32 x2))] → W p l e rmX9_findHeights s m args below meth c H locs 0 0 (QVR below args s g post) (F0 m 42 ls []) := by
  obtain ⟨⟨hx, hb, hml, hown, hts⟩, hr, hlk⟩ := id C
  intro n
  induction n with
  | zero =>
    intro x1 x2 h1 h2 M H locs ls hw
    exact hw.elim
  | succ n ih =>
    intro x1 x2 h1 h2 M H locs ls hw I hl
    refine lv_iload_n hx hb dX9_findHeights_42 rfl (lv_at hl 2 rfl) ?_
    refine lv_aload_n hx hb dX9_findHeights_43 rfl (lv_at hl 0 rfl) ?_
    refine rg_0_0 hx hb hts wu_X9 hown I wf_X9_86 dX9_findHeights_44 ?_
    have h_1 := I.rng 0 0
    refine li_icmp_ge (tgt := 191) hx hb dX9_findHeights_47 (by decide) h2 h_1 (fun c_2 => ?_) (fun c_2 => ?_)
    · replace hw := hw.1 c_2
      refine lv_goto (tgt := 34) hx hb dX9_findHeights_191 (by decide) ?_
      exact hk34 x1 h1 _ _ _ _ hw I (lv_sub hl [0, 1] rfl)
    · replace hw := hw.2 c_2
      refine li_iconst hx hb dX9_findHeights_50 ?_
      refine lv_istore_n (lv' := [(3, .int (i32 0)), (0, .ref (g.2.2.2 0)), (1, .int (i32 x1)), (2, .int (i32 x2))]) hx hb dX9_findHeights_51 rfl hl (by decide) rfl (fun ls hl => ?_)
      obtain ⟨n1, hw⟩ := hw
      exact bX9_findHeights_52 C post k34 (fun y1 y2 N => lpX9_findHeights_42 post k34 n y1 y2 N) hk34 ih n1 x1 x2 0 h1 h2 (by decide) _ _ _ _ hw I (lv_sub hl [1, 2, 3, 0] rfl)
set_option maxRecDepth 100000 in
set_option maxHeartbeats 4000000 in
theorem bX9_findHeights_34 {p : Program} {l : Launch} {e : Env} {s : State} {m : MethodId} {args : Array Value} {below : List Frame} {meth : Method} {c : Code} {g : GP} (C : Cx p m c cX9_findHeights 5 s args lw_g RX9 meth none) (post : Mem → Prop) : ∀ (n : Nat), ∀ (x1 : Int), inR x1 → ∀ (M : Mem) (H : Heap) (locs : List Loc) (ls : Array Slot), lpX9_findHeights_34 post n x1 M → IR g s M H locs → lv_has ls 5 [(0, .ref (g.2.2.2 0)), (1, .int (i32 x1))] → W p l e rmX9_findHeights s m args below meth c H locs 0 0 (QVR below args s g post) (F0 m 34 ls []) := by
  obtain ⟨⟨hx, hb, hml, hown, hts⟩, hr, hlk⟩ := id C
  intro n
  induction n with
  | zero =>
    intro x1 h1 M H locs ls hw
    exact hw.elim
  | succ n ih =>
    intro x1 h1 M H locs ls hw I hl
    refine lv_iload_n hx hb dX9_findHeights_34 rfl (lv_at hl 1 rfl) ?_
    refine li_if_eq (tgt := 194) hx hb dX9_findHeights_35 (by decide) h1 (fun c_1 => ?_) (fun c_1 => ?_)
    · replace hw := hw.1 c_1
      exact g_vret hx hb hr hlk I hw dX9_findHeights_194
    · replace hw := hw.2 c_1
      refine li_iconst hx hb dX9_findHeights_38 ?_
      refine lv_istore_n (lv' := [(1, .int (i32 0)), (0, .ref (g.2.2.2 0))]) hx hb dX9_findHeights_39 rfl hl (by decide) rfl (fun ls hl => ?_)
      refine li_iconst hx hb dX9_findHeights_40 ?_
      refine lv_istore_n (lv' := [(2, .int (i32 0)), (1, .int (i32 0)), (0, .ref (g.2.2.2 0))]) hx hb dX9_findHeights_41 rfl hl (by decide) rfl (fun ls hl => ?_)
      obtain ⟨n1, hw⟩ := hw
      exact bX9_findHeights_42 C post (fun y1 N => lpX9_findHeights_34 post n y1 N) ih n1 0 0 (by decide) (by decide) _ _ _ _ hw I (lv_sub hl [2, 1, 0] rfl)
set_option maxRecDepth 100000 in
set_option maxHeartbeats 4000000 in
theorem bX9_findHeights_25 {p : Program} {l : Launch} {e : Env} {s : State} {m : MethodId} {args : Array Value} {below : List Frame} {meth : Method} {c : Code} {g : GP} (C : Cx p m c cX9_findHeights 5 s args lw_g RX9 meth none) (post : Mem → Prop) (k2 : Int → Mem → Prop) (hk2 : ∀ (x1 : Int), inR x1 → ∀ (M : Mem) (H : Heap) (locs : List Loc) (ls : Array Slot), k2 x1 M → IR g s M H locs → lv_has ls 5 [(0, .ref (g.2.2.2 0)), (1, .int (i32 x1))] → W p l e rmX9_findHeights s m args below meth c H locs 0 0 (QVR below args s g post) (F0 m 2 ls [])) : ∀ (x1 t0 t1 : Int), inR x1 → inR t0 → inR t1 → ∀ (M : Mem) (H : Heap) (locs : List Loc) (ls : Array Slot), jbX9_findHeights_25 post k2 x1 t0 t1 M → IR g s M H locs → lv_has ls 5 [(0, .ref (g.2.2.2 0)), (1, .int (i32 x1))] → W p l e rmX9_findHeights s m args below meth c H locs 0 0 (QVR below args s g post) (F0 m 25 ls [.int (i32 t0), .int (i32 t1), .ref (g.2.2.2 14)]) := by
  obtain ⟨⟨hx, hb, hml, hown, hts⟩, hr, hlk⟩ := id C
  intro x1 t0 t1 h1 ht0 ht1 M H locs ls hw I hl
  obtain ⟨h_1, hw⟩ := hw
  refine r_iast hx hb I 14 lenR_14 (by decide) h_1 ht0 dX9_findHeights_25 (fun H locs M25_1 eM25_1 I => ?_)
  replace hw := hw M25_1 eM25_1
  refine li_iinc (lv' := [(1, .int (i32 (x1 + 1))), (0, .ref (g.2.2.2 0))]) hx hb dX9_findHeights_26 hl (k := 1) rfl (by decide) rfl (fun ls hl => ?_)
  refine lv_goto (tgt := 2) hx hb dX9_findHeights_29 (by decide) ?_
  obtain ⟨h_3, hw⟩ := hw
  exact hk2 (x1 + 1) h_3 _ _ _ _ hw I (lv_sub hl [1, 0] rfl)
set_option maxRecDepth 100000 in
set_option maxHeartbeats 4000000 in
theorem bX9_findHeights_2 {p : Program} {l : Launch} {e : Env} {s : State} {m : MethodId} {args : Array Value} {below : List Frame} {meth : Method} {c : Code} {g : GP} (C : Cx p m c cX9_findHeights 5 s args lw_g RX9 meth none) (post : Mem → Prop) : ∀ (n : Nat), ∀ (x1 : Int), inR x1 → ∀ (M : Mem) (H : Heap) (locs : List Loc) (ls : Array Slot), lpX9_findHeights_2 post n x1 M → IR g s M H locs → lv_has ls 5 [(0, .ref (g.2.2.2 0)), (1, .int (i32 x1))] → W p l e rmX9_findHeights s m args below meth c H locs 0 0 (QVR below args s g post) (F0 m 2 ls []) := by
  obtain ⟨⟨hx, hb, hml, hown, hts⟩, hr, hlk⟩ := id C
  intro n
  induction n with
  | zero =>
    intro x1 h1 M H locs ls hw
    exact hw.elim
  | succ n ih =>
    intro x1 h1 M H locs ls hw I hl
    refine lv_iload_n hx hb dX9_findHeights_2 rfl (lv_at hl 1 rfl) ?_
    refine lv_aload_n hx hb dX9_findHeights_3 rfl (lv_at hl 0 rfl) ?_
    refine rg_0_0 hx hb hts wu_X9 hown I wf_X9_86 dX9_findHeights_4 ?_
    have h_1 := I.rng 0 0
    refine li_icmp_ge (tgt := 32) hx hb dX9_findHeights_7 (by decide) h1 h_1 (fun c_2 => ?_) (fun c_2 => ?_)
    · replace hw := hw.1 c_2
      refine li_iconst hx hb dX9_findHeights_32 ?_
      refine lv_istore_n (lv' := [(1, .int (i32 1)), (0, .ref (g.2.2.2 0))]) hx hb dX9_findHeights_33 rfl hl (by decide) rfl (fun ls hl => ?_)
      obtain ⟨n1, hw⟩ := hw
      exact bX9_findHeights_34 C post n1 1 (by decide) _ _ _ _ hw I (lv_sub hl [1, 0] rfl)
    · replace hw := hw.2 c_2
      refine lv_aload_n hx hb dX9_findHeights_10 rfl (lv_at hl 0 rfl) ?_
      refine rg_0_18 hx hb hts wu_X9 hown I wf_X9_49 dX9_findHeights_11 ?_
      refine lv_iload_n hx hb dX9_findHeights_14 rfl (lv_at hl 1 rfl) ?_
      refine lv_iload_n hx hb dX9_findHeights_15 rfl (lv_at hl 1 rfl) ?_
      refine li_if_ne (tgt := 23) hx hb dX9_findHeights_16 (by decide) h1 (fun c_3 => ?_) (fun c_3 => ?_)
      · replace hw := hw.1 c_3
        refine lv_ldc (v := i32 1000000000) hx hb hown (hts _ wk_X9_115) dX9_findHeights_23 ?_
        exact bX9_findHeights_25 C post (fun y1 N => lpX9_findHeights_2 post n y1 N) ih x1 1000000000 x1 h1 (by decide) h1 _ _ _ _ hw I (lv_sub hl [0, 1] rfl)
      · replace hw := hw.2 c_3
        refine li_iconst hx hb dX9_findHeights_19 ?_
        refine lv_goto (tgt := 25) hx hb dX9_findHeights_20 (by decide) ?_
        exact bX9_findHeights_25 C post (fun y1 N => lpX9_findHeights_2 post n y1 N) ih x1 0 x1 h1 (by decide) h1 _ _ _ _ hw I (lv_sub hl [0, 1] rfl)
set_option maxRecDepth 100000 in
set_option maxHeartbeats 4000000 in
theorem mX9_findHeights (l : Launch) (g : GP) (M : Mem) (post : Mem → Prop) (sz : Nat) (hw : wpX9_findHeights M post) : MVR l yX9_findHeights wtX9_findHeights rmX9_findHeights g [.ref (g.2.2.2 0)] M sz post := by
  refine Met.ofW (cc := cX9_findHeights) (maxL := 5) (ret := none) (by decide) rfl ?_
  intro p e s m args below meth c s₁ B hml hv
  obtain ⟨rfl, hpre⟩ := hv
  have hsz := hpre.1
  subst hsz
  have C : Cx p m c cX9_findHeights 5 s _ lw_g RX9 meth none := ⟨⟨B.exec, B.bytes, hml, findClass_of_methodNamed B.named, fun w h => atoms_spec (ws := wtX9_findHeights) B.pre w (List.mem_cons_of_mem _ h)⟩, B.returns, B.notSynchronized⟩
  obtain ⟨⟨hx, hb, hml, hown, hts⟩, hr, hlk⟩ := id C
  have I := InG.start hpre
  have hl := lv_entry ([.ref (g.2.2.2 0)]) (n := 5) (Nat.le_of_ble_eq_true rfl)
  rw [lg_entry_eq]
  generalize (lg_sl ([.ref (g.2.2.2 0)]) ++ List.replicate (5 - (lg_sl ([.ref (g.2.2.2 0)])).length) Slot.unset).toArray = ls at hl ⊢
  have hl : lv_has ls 5 [(0, .ref (g.2.2.2 0))] := hl
  show W p l e rmX9_findHeights s m _ below meth c s.heap [] 0 0 (QVR below _ s g post) _
  refine li_iconst hx hb dX9_findHeights_0 ?_
  refine lv_istore_n (lv' := [(1, .int (i32 0)), (0, .ref (g.2.2.2 0))]) hx hb dX9_findHeights_1 rfl hl (by decide) rfl (fun ls hl => ?_)
  obtain ⟨n1, hw⟩ := hw
  exact bX9_findHeights_2 C post n1 0 (by decide) _ _ _ _ hw I (lv_sub hl [1, 0] rfl)
abbrev rmX9_isTight : Room := { frames := 0, cells := 0, slots := 0, locals := 0 }
abbrev wtX9_isTight : List Cond := Cond.code yX9_isTight cX9_isTight 3 (some .boolean) :: lw_g
set_option maxRecDepth 100000 in
set_option maxHeartbeats 4000000 in
theorem bX9_isTight_32 {p : Program} {l : Launch} {e : Env} {s : State} {m : MethodId} {args : Array Value} {below : List Frame} {meth : Method} {c : Code} {g : GP} (C : Cx p m c cX9_isTight 3 s args lw_g RX9 meth (some .boolean)) (post : Int → Mem → Prop) : ∀ (t0 : Int), inR t0 → ∀ (M : Mem) (H : Heap) (locs : List Loc) (ls : Array Slot), jbX9_isTight_32 post t0 M → IR g s M H locs → lv_has ls 3 [(0, .ref (g.2.2.2 0))] → W p l e rmX9_isTight s m args below meth c H locs 0 0 (QIR below args s g post) (F0 m 32 ls [.int (i32 t0)]) := by
  obtain ⟨⟨hx, hb, hml, hown, hts⟩, hr, hlk⟩ := id C
  intro t0 ht0 M H locs ls hw I hl
  obtain ⟨h_1, hw⟩ := hw
  exact g_zret hx hb hr hlk I h_1 hw dX9_isTight_32
set_option maxRecDepth 100000 in
set_option maxHeartbeats 4000000 in
theorem mX9_isTight (l : Launch) (g : GP) (a1 a2 : Int) (ha1 : inR a1) (ha2 : inR a2) (M : Mem) (post : Int → Mem → Prop) (sz : Nat) (hw : wpX9_isTight a1 a2 M post) : MIR l yX9_isTight wtX9_isTight rmX9_isTight g [.ref (g.2.2.2 0), .int (i32 a1), .int (i32 a2)] M sz post := by
  refine Met.ofW (cc := cX9_isTight) (maxL := 3) (ret := (some .boolean)) (by decide) rfl ?_
  intro p e s m args below meth c s₁ B hml hv
  obtain ⟨rfl, hpre⟩ := hv
  have hsz := hpre.1
  subst hsz
  have C : Cx p m c cX9_isTight 3 s _ lw_g RX9 meth (some .boolean) := ⟨⟨B.exec, B.bytes, hml, findClass_of_methodNamed B.named, fun w h => atoms_spec (ws := wtX9_isTight) B.pre w (List.mem_cons_of_mem _ h)⟩, B.returns, B.notSynchronized⟩
  obtain ⟨⟨hx, hb, hml, hown, hts⟩, hr, hlk⟩ := id C
  have I := InG.start hpre
  have hl := lv_entry ([.ref (g.2.2.2 0), .int (i32 a1), .int (i32 a2)]) (n := 3) (Nat.le_of_ble_eq_true rfl)
  rw [lg_entry_eq]
  generalize (lg_sl ([.ref (g.2.2.2 0), .int (i32 a1), .int (i32 a2)]) ++ List.replicate (3 - (lg_sl ([.ref (g.2.2.2 0), .int (i32 a1), .int (i32 a2)])).length) Slot.unset).toArray = ls at hl ⊢
  have hl : lv_has ls 3 [(0, .ref (g.2.2.2 0)), (1, .int (i32 a1)), (2, .int (i32 a2))] := hl
  show W p l e rmX9_isTight s m _ below meth c s.heap [] 0 0 (QIR below _ s g post) _
  refine lv_aload_n hx hb dX9_isTight_0 rfl (lv_at hl 0 rfl) ?_
  refine rg_0_18 hx hb hts wu_X9 hown I wf_X9_49 dX9_isTight_1 ?_
  refine lv_iload_n hx hb dX9_isTight_4 rfl (lv_at hl 1 rfl) ?_
  obtain ⟨h_1, hw⟩ := hw
  refine r_iald hx hb I 14 lenR_14 (by decide) h_1 dX9_isTight_5 ?_
  have h_2 := I.rng 14 a1
  refine lv_aload_n hx hb dX9_isTight_6 rfl (lv_at hl 0 rfl) ?_
  refine rg_0_18 hx hb hts wu_X9 hown I wf_X9_49 dX9_isTight_7 ?_
  refine lv_iload_n hx hb dX9_isTight_10 rfl (lv_at hl 2 rfl) ?_
  obtain ⟨h_3, hw⟩ := hw
  refine r_iald hx hb I 14 lenR_14 (by decide) h_3 dX9_isTight_11 ?_
  have h_4 := I.rng 14 a2
  refine li_isub hx hb dX9_isTight_12 ?_
  refine lv_aload_n hx hb dX9_isTight_13 rfl (lv_at hl 0 rfl) ?_
  refine rg_0_14 hx hb hts wu_X9 hown I wf_X9_37 dX9_isTight_14 ?_
  refine lv_bipush (v := i32 10) hx hb dX9_isTight_17 (by decide) ?_
  refine lv_iload_n hx hb dX9_isTight_19 rfl (lv_at hl 1 rfl) ?_
  refine li_imul hx hb dX9_isTight_20 ?_
  refine lv_iload_n hx hb dX9_isTight_21 rfl (lv_at hl 2 rfl) ?_
  refine li_iadd hx hb dX9_isTight_22 ?_
  obtain ⟨h_5, hw⟩ := hw
  refine r_iald hx hb I 10 lenR_10 (by decide) h_5 dX9_isTight_23 ?_
  have h_6 := I.rng 10 ((10 * a1) + a2)
  obtain ⟨h_8, hw⟩ := hw
  refine li_icmp_ne (tgt := 31) hx hb dX9_isTight_24 (by decide) h_8 h_6 (fun c_7 => ?_) (fun c_7 => ?_)
  · replace hw := hw.1 c_7
    refine li_iconst hx hb dX9_isTight_31 ?_
    exact bX9_isTight_32 C post 0 (by decide) _ _ _ _ hw I (lv_sub hl [0] rfl)
  · replace hw := hw.2 c_7
    refine li_iconst hx hb dX9_isTight_27 ?_
    refine lv_goto (tgt := 32) hx hb dX9_isTight_28 (by decide) ?_
    exact bX9_isTight_32 C post 1 (by decide) _ _ _ _ hw I (lv_sub hl [0] rfl)
abbrev rmX9_canTurn : Room := { frames := 1, cells := 0, slots := 0, locals := 22 }
abbrev wtX9_canTurn : List Cond := Cond.code yX9_canTurn cX9_canTurn 10 (some .boolean) :: lw_g
set_option maxRecDepth 100000 in
set_option maxHeartbeats 4000000 in
theorem bX9_canTurn_253 {p : Program} {l : Launch} {e : Env} {s : State} {m : MethodId} {args : Array Value} {below : List Frame} {meth : Method} {c : Code} {g : GP} (C : Cx p m c cX9_canTurn 10 s args lw_g RX9 meth (some .boolean)) (post : Int → Mem → Prop) : ∀ (x1 : Int), inR x1 → ∀ (M : Mem) (H : Heap) (locs : List Loc) (ls : Array Slot), jbX9_canTurn_253 post x1 M → IR g s M H locs → lv_has ls 10 [(0, .ref (g.2.2.2 0)), (1, .int (i32 x1))] → W p l e rmX9_canTurn s m args below meth c H locs 0 0 (QIR below args s g post) (F0 m 253 ls []) := by
  obtain ⟨⟨hx, hb, hml, hown, hts⟩, hr, hlk⟩ := id C
  intro x1 h1 M H locs ls hw I hl
  refine lv_aload_n hx hb dX9_canTurn_253 rfl (lv_at hl 0 rfl) ?_
  refine rg_0_22 hx hb hts wu_X9 hown I wf_X9_62 dX9_canTurn_254 ?_
  refine lv_iload_n hx hb dX9_canTurn_257 rfl (lv_at hl 1 rfl) ?_
  obtain ⟨h_1, hw⟩ := hw
  refine r_zald hx hb I 18 lenR_18 (by decide) h_1 dX9_canTurn_258 ?_
  have h_2 := I.rng 18 x1
  obtain ⟨h_3, hw⟩ := hw
  exact g_zret hx hb hr hlk I h_3 hw dX9_canTurn_259
set_option maxRecDepth 100000 in
set_option maxHeartbeats 4000000 in
theorem bX9_canTurn_244 {p : Program} {l : Launch} {e : Env} {s : State} {m : MethodId} {args : Array Value} {below : List Frame} {meth : Method} {c : Code} {g : GP} (C : Cx p m c cX9_canTurn 10 s args lw_g RX9 meth (some .boolean)) (post : Int → Mem → Prop) (k53 : Int → Int → Int → Int → Mem → Prop) (k82 : Int → Int → Int → Int → Int → Int → Mem → Prop) (hk53 : ∀ (x1 x2 x3 x4 : Int), inR x1 → inR x2 → inR x3 → inR x4 → ∀ (M : Mem) (H : Heap) (locs : List Loc) (ls : Array Slot), k53 x1 x2 x3 x4 M → IR g s M H locs → lv_has ls 10 [(0, .ref (g.2.2.2 0)), (1, .int (i32 x1)), (2, .int (i32 x2)), (3, .int (i32 x3)), (4, .int (i32 x4))] → W p l e rmX9_canTurn s m args below meth c H locs 0 0 (QIR below args s g post) (F0 m 53 ls [])) (hk82 : ∀ (x1 x2 x3 x4 x5 x6 : Int), inR x1 → inR x2 → inR x3 → inR x4 → inR x5 → inR x6 → ∀ (M : Mem) (H : Heap) (locs : List Loc) (ls : Array Slot), k82 x1 x2 x3 x4 x5 x6 M → IR g s M H locs → lv_has ls 10 [(0, .ref (g.2.2.2 0)), (1, .int (i32 x1)), (2, .int (i32 x2)), (3, .int (i32 x3)), (4, .int (i32 x4)), (5, .int (i32 x5)), (6, .int (i32 x6))] → W p l e rmX9_canTurn s m args below meth c H locs 0 0 (QIR below args s g post) (F0 m 82 ls [])) : ∀ (x1 x2 x3 x4 x5 x6 : Int), inR x1 → inR x2 → inR x3 → inR x4 → inR x5 → inR x6 → ∀ (M : Mem) (H : Heap) (locs : List Loc) (ls : Array Slot), jbX9_canTurn_244 post k53 k82 x1 x2 x3 x4 x5 x6 M → IR g s M H locs → lv_has ls 10 [(0, .ref (g.2.2.2 0)), (1, .int (i32 x1)), (2, .int (i32 x2)), (3, .int (i32 x3)), (4, .int (i32 x4)), (5, .int (i32 x5)), (6, .int (i32 x6))] → W p l e rmX9_canTurn s m args below meth c H locs 0 0 (QIR below args s g post) (F0 m 244 ls []) := by
  obtain ⟨⟨hx, hb, hml, hown, hts⟩, hr, hlk⟩ := id C
  intro x1 x2 x3 x4 x5 x6 h1 h2 h3 h4 h5 h6 M H locs ls hw I hl
  refine li_iinc (lv' := [(6, .int (i32 (x6 + 1))), (0, .ref (g.2.2.2 0)), (1, .int (i32 x1)), (2, .int (i32 x2)), (3, .int (i32 x3)), (4, .int (i32 x4)), (5, .int (i32 x5))]) hx hb dX9_canTurn_244 hl (k := 6) rfl (by decide) rfl (fun ls hl => ?_)
  refine lv_goto (tgt := 82) hx hb dX9_canTurn_247 (by decide) ?_
  obtain ⟨h_1, hw⟩ := hw
  exact hk82 x1 x2 x3 x4 x5 (x6 + 1) h1 h2 h3 h4 h5 h_1 _ _ _ _ hw I (lv_sub hl [1, 2, 3, 4, 5, 6, 0] rfl)
set_option maxRecDepth 100000 in
set_option maxHeartbeats 4000000 in
theorem bX9_canTurn_198 {p : Program} {l : Launch} {e : Env} {s : State} {m : MethodId} {args : Array Value} {below : List Frame} {meth : Method} {c : Code} {g : GP} (C : Cx p m c cX9_canTurn 10 s args lw_g RX9 meth (some .boolean)) (post : Int → Mem → Prop) (k53 : Int → Int → Int → Int → Mem → Prop) (k82 : Int → Int → Int → Int → Int → Int → Mem → Prop) (hk53 : ∀ (x1 x2 x3 x4 : Int), inR x1 → inR x2 → inR x3 → inR x4 → ∀ (M : Mem) (H : Heap) (locs : List Loc) (ls : Array Slot), k53 x1 x2 x3 x4 M → IR g s M H locs → lv_has ls 10 [(0, .ref (g.2.2.2 0)), (1, .int (i32 x1)), (2, .int (i32 x2)), (3, .int (i32 x3)), (4, .int (i32 x4))] → W p l e rmX9_canTurn s m args below meth c H locs 0 0 (QIR below args s g post) (F0 m 53 ls [])) (hk82 : ∀ (x1 x2 x3 x4 x5 x6 : Int), inR x1 → inR x2 → inR x3 → inR x4 → inR x5 → inR x6 → ∀ (M : Mem) (H : Heap) (locs : List Loc) (ls : Array Slot), k82 x1 x2 x3 x4 x5 x6 M → IR g s M H locs → lv_has ls 10 [(0, .ref (g.2.2.2 0)), (1, .int (i32 x1)), (2, .int (i32 x2)), (3, .int (i32 x3)), (4, .int (i32 x4)), (5, .int (i32 x5)), (6, .int (i32 x6))] → W p l e rmX9_canTurn s m args below meth c H locs 0 0 (QIR below args s g post) (F0 m 82 ls [])) : ∀ (x1 x2 x3 x4 x5 x6 x8 t0 : Int), inR x1 → inR x2 → inR x3 → inR x4 → inR x5 → inR x6 → inR x8 → inR t0 → ∀ (M : Mem) (H : Heap) (locs : List Loc) (ls : Array Slot), jbX9_canTurn_198 post k53 k82 x1 x2 x3 x4 x5 x6 x8 t0 M → IR g s M H locs → lv_has ls 10 [(0, .ref (g.2.2.2 0)), (1, .int (i32 x1)), (2, .int (i32 x2)), (3, .int (i32 x3)), (4, .int (i32 x4)), (5, .int (i32 x5)), (6, .int (i32 x6)), (8, .int (i32 x8))] → W p l e rmX9_canTurn s m args below meth c H locs 0 0 (QIR below args s g post) (F0 m 198 ls [.int (i32 t0)]) := by
  obtain ⟨⟨hx, hb, hml, hown, hts⟩, hr, hlk⟩ := id C
  intro x1 x2 x3 x4 x5 x6 x8 t0 h1 h2 h3 h4 h5 h6 h8 ht0 M H locs ls hw I hl
  refine lv_istore (lv' := [(9, .int (i32 t0)), (0, .ref (g.2.2.2 0)), (1, .int (i32 x1)), (2, .int (i32 x2)), (3, .int (i32 x3)), (4, .int (i32 x4)), (5, .int (i32 x5)), (6, .int (i32 x6)), (8, .int (i32 x8))]) hx hb dX9_canTurn_198 hl (by decide) rfl (fun ls hl => ?_)
  refine lv_iload hx hb dX9_canTurn_200 (lv_at hl 0 rfl) ?_
  refine li_if_eq (tgt := 244) hx hb dX9_canTurn_202 (by decide) ht0 (fun c_1 => ?_) (fun c_1 => ?_)
  · replace hw := hw.1 c_1
    exact bX9_canTurn_244 C post k53 k82 hk53 hk82 x1 x2 x3 x4 x5 x6 h1 h2 h3 h4 h5 h6 _ _ _ _ hw I (lv_sub hl [1, 2, 3, 4, 5, 6, 7] rfl)
  · replace hw := hw.2 c_1
    refine lv_aload_n hx hb dX9_canTurn_205 rfl (lv_at hl 1 rfl) ?_
    refine rg_0_22 hx hb hts wu_X9 hown I wf_X9_62 dX9_canTurn_206 ?_
    refine lv_iload hx hb dX9_canTurn_209 (lv_at hl 8 rfl) ?_
    obtain ⟨h_2, hw⟩ := hw
    refine r_zald hx hb I 18 lenR_18 (by decide) h_2 dX9_canTurn_211 ?_
    have h_3 := I.rng 18 x8
    refine li_if_ne (tgt := 244) hx hb dX9_canTurn_212 (by decide) h_3 (fun c_4 => ?_) (fun c_4 => ?_)
    · replace hw := hw.1 c_4
      exact bX9_canTurn_244 C post k53 k82 hk53 hk82 x1 x2 x3 x4 x5 x6 h1 h2 h3 h4 h5 h6 _ _ _ _ hw I (lv_sub hl [1, 2, 3, 4, 5, 6, 7] rfl)
    · replace hw := hw.2 c_4
      refine lv_aload_n hx hb dX9_canTurn_215 rfl (lv_at hl 1 rfl) ?_
      refine rg_0_22 hx hb hts wu_X9 hown I wf_X9_62 dX9_canTurn_216 ?_
      refine lv_iload hx hb dX9_canTurn_219 (lv_at hl 8 rfl) ?_
      refine li_iconst hx hb dX9_canTurn_221 ?_
      obtain ⟨h_5, hw⟩ := hw
      refine r_zast hx hb I 18 lenR_18 (by decide) h_5 (Or.inr rfl) dX9_canTurn_222 (fun H locs M222_5 eM222_5 I => ?_)
      replace hw := hw M222_5 eM222_5
      refine lv_aload_n hx hb dX9_canTurn_223 rfl (lv_at hl 1 rfl) ?_
      refine rg_0_20 hx hb hts wu_X9 hown I wf_X9_55 dX9_canTurn_224 ?_
      refine lv_iload hx hb dX9_canTurn_227 (lv_at hl 8 rfl) ?_
      refine lv_iload hx hb dX9_canTurn_229 (lv_at hl 6 rfl) ?_
      obtain ⟨h_7, hw⟩ := hw
      refine r_iast hx hb I 16 lenR_16 (by decide) h_7 h5 dX9_canTurn_231 (fun H locs M231_7 eM231_7 I => ?_)
      replace hw := hw M231_7 eM231_7
      refine lv_aload_n hx hb dX9_canTurn_232 rfl (lv_at hl 1 rfl) ?_
      refine rg_0_23 hx hb hts wu_X9 hown I wf_X9_65 dX9_canTurn_233 ?_
      refine lv_iload hx hb dX9_canTurn_236 (lv_at hl 5 rfl) ?_
      refine lv_iload hx hb dX9_canTurn_238 (lv_at hl 8 rfl) ?_
      obtain ⟨h_9, hw⟩ := hw
      refine r_iast hx hb I 19 lenR_19 (by decide) h_9 h8 dX9_canTurn_240 (fun H locs M240_9 eM240_9 I => ?_)
      replace hw := hw M240_9 eM240_9
      refine li_iinc (lv' := [(4, .int (i32 (x4 + 1))), (9, .int (i32 t0)), (0, .ref (g.2.2.2 0)), (1, .int (i32 x1)), (2, .int (i32 x2)), (3, .int (i32 x3)), (5, .int (i32 x5)), (6, .int (i32 x6)), (8, .int (i32 x8))]) hx hb dX9_canTurn_241 hl (k := 5) rfl (by decide) rfl (fun ls hl => ?_)
      obtain ⟨h_11, hw⟩ := hw
      exact bX9_canTurn_244 C post k53 k82 hk53 hk82 x1 x2 x3 (x4 + 1) x5 x6 h1 h2 h3 h_11 h5 h6 _ _ _ _ hw I (lv_sub hl [2, 3, 4, 5, 0, 6, 7] rfl)
set_option maxRecDepth 100000 in
set_option maxHeartbeats 4000000 in
theorem bX9_canTurn_197 {p : Program} {l : Launch} {e : Env} {s : State} {m : MethodId} {args : Array Value} {below : List Frame} {meth : Method} {c : Code} {g : GP} (C : Cx p m c cX9_canTurn 10 s args lw_g RX9 meth (some .boolean)) (post : Int → Mem → Prop) (k53 : Int → Int → Int → Int → Mem → Prop) (k82 : Int → Int → Int → Int → Int → Int → Mem → Prop) (hk53 : ∀ (x1 x2 x3 x4 : Int), inR x1 → inR x2 → inR x3 → inR x4 → ∀ (M : Mem) (H : Heap) (locs : List Loc) (ls : Array Slot), k53 x1 x2 x3 x4 M → IR g s M H locs → lv_has ls 10 [(0, .ref (g.2.2.2 0)), (1, .int (i32 x1)), (2, .int (i32 x2)), (3, .int (i32 x3)), (4, .int (i32 x4))] → W p l e rmX9_canTurn s m args below meth c H locs 0 0 (QIR below args s g post) (F0 m 53 ls [])) (hk82 : ∀ (x1 x2 x3 x4 x5 x6 : Int), inR x1 → inR x2 → inR x3 → inR x4 → inR x5 → inR x6 → ∀ (M : Mem) (H : Heap) (locs : List Loc) (ls : Array Slot), k82 x1 x2 x3 x4 x5 x6 M → IR g s M H locs → lv_has ls 10 [(0, .ref (g.2.2.2 0)), (1, .int (i32 x1)), (2, .int (i32 x2)), (3, .int (i32 x3)), (4, .int (i32 x4)), (5, .int (i32 x5)), (6, .int (i32 x6))] → W p l e rmX9_canTurn s m args below meth c H locs 0 0 (QIR below args s g post) (F0 m 82 ls [])) : ∀ (x1 x2 x3 x4 x5 x6 x8 : Int), inR x1 → inR x2 → inR x3 → inR x4 → inR x5 → inR x6 → inR x8 → ∀ (M : Mem) (H : Heap) (locs : List Loc) (ls : Array Slot), jbX9_canTurn_197 post k53 k82 x1 x2 x3 x4 x5 x6 x8 M → IR g s M H locs → lv_has ls 10 [(0, .ref (g.2.2.2 0)), (1, .int (i32 x1)), (2, .int (i32 x2)), (3, .int (i32 x3)), (4, .int (i32 x4)), (5, .int (i32 x5)), (6, .int (i32 x6)), (8, .int (i32 x8))] → W p l e rmX9_canTurn s m args below meth c H locs 0 0 (QIR below args s g post) (F0 m 197 ls []) := by
  obtain ⟨⟨hx, hb, hml, hown, hts⟩, hr, hlk⟩ := id C
  intro x1 x2 x3 x4 x5 x6 x8 h1 h2 h3 h4 h5 h6 h8 M H locs ls hw I hl
  refine li_iconst hx hb dX9_canTurn_197 ?_
  exact bX9_canTurn_198 C post k53 k82 hk53 hk82 x1 x2 x3 x4 x5 x6 x8 0 h1 h2 h3 h4 h5 h6 h8 (by decide) _ _ _ _ hw I (lv_sub hl [0, 1, 2, 3, 4, 5, 6, 7] rfl)
set_option maxRecDepth 100000 in
set_option maxHeartbeats 4000000 in
theorem bX9_canTurn_193 {p : Program} {l : Launch} {e : Env} {s : State} {m : MethodId} {args : Array Value} {below : List Frame} {meth : Method} {c : Code} {g : GP} (C : Cx p m c cX9_canTurn 10 s args lw_g RX9 meth (some .boolean)) (post : Int → Mem → Prop) (k53 : Int → Int → Int → Int → Mem → Prop) (k82 : Int → Int → Int → Int → Int → Int → Mem → Prop) (hk53 : ∀ (x1 x2 x3 x4 : Int), inR x1 → inR x2 → inR x3 → inR x4 → ∀ (M : Mem) (H : Heap) (locs : List Loc) (ls : Array Slot), k53 x1 x2 x3 x4 M → IR g s M H locs → lv_has ls 10 [(0, .ref (g.2.2.2 0)), (1, .int (i32 x1)), (2, .int (i32 x2)), (3, .int (i32 x3)), (4, .int (i32 x4))] → W p l e rmX9_canTurn s m args below meth c H locs 0 0 (QIR below args s g post) (F0 m 53 ls [])) (hk82 : ∀ (x1 x2 x3 x4 x5 x6 : Int), inR x1 → inR x2 → inR x3 → inR x4 → inR x5 → inR x6 → ∀ (M : Mem) (H : Heap) (locs : List Loc) (ls : Array Slot), k82 x1 x2 x3 x4 x5 x6 M → IR g s M H locs → lv_has ls 10 [(0, .ref (g.2.2.2 0)), (1, .int (i32 x1)), (2, .int (i32 x2)), (3, .int (i32 x3)), (4, .int (i32 x4)), (5, .int (i32 x5)), (6, .int (i32 x6))] → W p l e rmX9_canTurn s m args below meth c H locs 0 0 (QIR below args s g post) (F0 m 82 ls [])) : ∀ (x1 x2 x3 x4 x5 x6 x8 : Int), inR x1 → inR x2 → inR x3 → inR x4 → inR x5 → inR x6 → inR x8 → ∀ (M : Mem) (H : Heap) (locs : List Loc) (ls : Array Slot), jbX9_canTurn_193 post k53 k82 x1 x2 x3 x4 x5 x6 x8 M → IR g s M H locs → lv_has ls 10 [(0, .ref (g.2.2.2 0)), (1, .int (i32 x1)), (2, .int (i32 x2)), (3, .int (i32 x3)), (4, .int (i32 x4)), (5, .int (i32 x5)), (6, .int (i32 x6)), (8, .int (i32 x8))] → W p l e rmX9_canTurn s m args below meth c H locs 0 0 (QIR below args s g post) (F0 m 193 ls []) := by
  obtain ⟨⟨hx, hb, hml, hown, hts⟩, hr, hlk⟩ := id C
  intro x1 x2 x3 x4 x5 x6 x8 h1 h2 h3 h4 h5 h6 h8 M H locs ls hw I hl
  refine li_iconst hx hb dX9_canTurn_193 ?_
  refine lv_goto (tgt := 198) hx hb dX9_canTurn_194 (by decide) ?_
  exact bX9_canTurn_198 C post k53 k82 hk53 hk82 x1 x2 x3 x4 x5 x6 x8 1 h1 h2 h3 h4 h5 h6 h8 (by decide) _ _ _ _ hw I (lv_sub hl [0, 1, 2, 3, 4, 5, 6, 7] rfl)
set_option maxRecDepth 100000 in
set_option maxHeartbeats 4000000 in
theorem bX9_canTurn_139 {p : Program} {l : Launch} {e : Env} {s : State} {m : MethodId} {args : Array Value} {below : List Frame} {meth : Method} {c : Code} {g : GP} (C : Cx p m c cX9_canTurn 10 s args lw_g RX9 meth (some .boolean)) (post : Int → Mem → Prop) (k53 : Int → Int → Int → Int → Mem → Prop) (k82 : Int → Int → Int → Int → Int → Int → Mem → Prop) (hk53 : ∀ (x1 x2 x3 x4 : Int), inR x1 → inR x2 → inR x3 → inR x4 → ∀ (M : Mem) (H : Heap) (locs : List Loc) (ls : Array Slot), k53 x1 x2 x3 x4 M → IR g s M H locs → lv_has ls 10 [(0, .ref (g.2.2.2 0)), (1, .int (i32 x1)), (2, .int (i32 x2)), (3, .int (i32 x3)), (4, .int (i32 x4))] → W p l e rmX9_canTurn s m args below meth c H locs 0 0 (QIR below args s g post) (F0 m 53 ls [])) (hk82 : ∀ (x1 x2 x3 x4 x5 x6 : Int), inR x1 → inR x2 → inR x3 → inR x4 → inR x5 → inR x6 → ∀ (M : Mem) (H : Heap) (locs : List Loc) (ls : Array Slot), k82 x1 x2 x3 x4 x5 x6 M → IR g s M H locs → lv_has ls 10 [(0, .ref (g.2.2.2 0)), (1, .int (i32 x1)), (2, .int (i32 x2)), (3, .int (i32 x3)), (4, .int (i32 x4)), (5, .int (i32 x5)), (6, .int (i32 x6))] → W p l e rmX9_canTurn s m args below meth c H locs 0 0 (QIR below args s g post) (F0 m 82 ls [])) : ∀ (x1 x2 x3 x4 x5 x6 x7 t0 : Int), inR x1 → inR x2 → inR x3 → inR x4 → inR x5 → inR x6 → inR x7 → inR t0 → ∀ (M : Mem) (H : Heap) (locs : List Loc) (ls : Array Slot), jbX9_canTurn_139 post k53 k82 x1 x2 x3 x4 x5 x6 x7 t0 M → IR g s M H locs → lv_has ls 10 [(0, .ref (g.2.2.2 0)), (1, .int (i32 x1)), (2, .int (i32 x2)), (3, .int (i32 x3)), (4, .int (i32 x4)), (5, .int (i32 x5)), (6, .int (i32 x6)), (7, .int (i32 x7))] → W p l e rmX9_canTurn s m args below meth c H locs 0 0 (QIR below args s g post) (F0 m 139 ls [.int (i32 t0)]) := by
  obtain ⟨⟨hx, hb, hml, hown, hts⟩, hr, hlk⟩ := id C
  intro x1 x2 x3 x4 x5 x6 x7 t0 h1 h2 h3 h4 h5 h6 h7 ht0 M H locs ls hw I hl
  refine lv_istore (lv' := [(8, .int (i32 t0)), (0, .ref (g.2.2.2 0)), (1, .int (i32 x1)), (2, .int (i32 x2)), (3, .int (i32 x3)), (4, .int (i32 x4)), (5, .int (i32 x5)), (6, .int (i32 x6)), (7, .int (i32 x7))]) hx hb dX9_canTurn_139 hl (by decide) rfl (fun ls hl => ?_)
  refine lv_aload_n hx hb dX9_canTurn_141 rfl (lv_at hl 1 rfl) ?_
  refine rg_0_21 hx hb hts wu_X9 hown I wf_X9_58 dX9_canTurn_142 ?_
  refine lv_iload hx hb dX9_canTurn_145 (lv_at hl 8 rfl) ?_
  obtain ⟨h_1, hw⟩ := hw
  refine r_zald hx hb I 17 lenR_17 (by decide) h_1 dX9_canTurn_147 ?_
  have h_2 := I.rng 17 x7
  refine li_if_ne (tgt := 197) hx hb dX9_canTurn_148 (by decide) h_2 (fun c_3 => ?_) (fun c_3 => ?_)
  · replace hw := hw.1 c_3
    exact bX9_canTurn_197 C post k53 k82 hk53 hk82 x1 x2 x3 x4 x5 x6 t0 h1 h2 h3 h4 h5 h6 ht0 _ _ _ _ hw I (lv_sub hl [1, 2, 3, 4, 5, 6, 7, 0] rfl)
  · replace hw := hw.2 c_3
    refine lv_iload hx hb dX9_canTurn_151 (lv_at hl 8 rfl) ?_
    refine lv_bipush (v := i32 10) hx hb dX9_canTurn_153 (by decide) ?_
    refine lv_iload_n hx hb dX9_canTurn_155 rfl (lv_at hl 2 rfl) ?_
    refine li_imul hx hb dX9_canTurn_156 ?_
    refine lv_iload_n hx hb dX9_canTurn_157 rfl (lv_at hl 3 rfl) ?_
    refine li_iadd hx hb dX9_canTurn_158 ?_
    obtain ⟨h_5, hw⟩ := hw
    refine li_icmp_eq (tgt := 197) hx hb dX9_canTurn_159 (by decide) h7 h_5 (fun c_4 => ?_) (fun c_4 => ?_)
    · replace hw := hw.1 c_4
      exact bX9_canTurn_197 C post k53 k82 hk53 hk82 x1 x2 x3 x4 x5 x6 t0 h1 h2 h3 h4 h5 h6 ht0 _ _ _ _ hw I (lv_sub hl [1, 2, 3, 4, 5, 6, 7, 0] rfl)
    · replace hw := hw.2 c_4
      refine lv_iload hx hb dX9_canTurn_162 (lv_at hl 6 rfl) ?_
      refine lv_bipush (v := i32 10) hx hb dX9_canTurn_164 (by decide) ?_
      refine li_icmp_lt (tgt := 182) hx hb dX9_canTurn_166 (by decide) h5 (by decide) (fun c_6 => ?_) (fun c_6 => ?_)
      · replace hw := hw.1 c_6
        refine lv_aload_n hx hb dX9_canTurn_182 rfl (lv_at hl 1 rfl) ?_
        refine lv_iload hx hb dX9_canTurn_183 (lv_at hl 6 rfl) ?_
        refine lv_iload hx hb dX9_canTurn_185 (lv_at hl 7 rfl) ?_
        refine g_callVi (o := 0) (As := [.int (i32 x5), .int (i32 x6)]) (rest := []) ⟨hx, hb, hml, hown, hts⟩ I (mX9_isTight l g x5 x6 h5 h6 M _ _ hw) (cwV 2 hts (gd_V wm_X9_153 wi_X9_isTight wl_X9_isTight wn_X9 wc_X9_isTight) rfl rfl rfl wd_X9_isTight ⟨Nat.le_of_ble_eq_true rfl, Nat.le_of_ble_eq_true rfl⟩) (by omega) (by omega) obR_0 rfl rfl hl.1 rfl (Nat.le_of_ble_eq_true rfl) dX9_canTurn_187 ⟨Nat.zero_le _, Nat.zero_le _⟩ (fun r187_6 M187_6 H locs hr187_6 hw I => ?_)
        refine li_if_eq (tgt := 197) hx hb dX9_canTurn_190 (by decide) hr187_6 (fun c_8 => ?_) (fun c_8 => ?_)
        · replace hw := hw.1 c_8
          exact bX9_canTurn_197 C post k53 k82 hk53 hk82 x1 x2 x3 x4 x5 x6 t0 h1 h2 h3 h4 h5 h6 ht0 _ _ _ _ hw I (lv_sub hl [1, 2, 3, 4, 5, 6, 7, 0] rfl)
        · replace hw := hw.2 c_8
          exact bX9_canTurn_193 C post k53 k82 hk53 hk82 x1 x2 x3 x4 x5 x6 t0 h1 h2 h3 h4 h5 h6 ht0 _ _ _ _ hw I (lv_sub hl [1, 2, 3, 4, 5, 6, 7, 0] rfl)
      · replace hw := hw.2 c_6
        refine lv_aload_n hx hb dX9_canTurn_169 rfl (lv_at hl 1 rfl) ?_
        refine rg_0_15 hx hb hts wu_X9 hown I wf_X9_40 dX9_canTurn_170 ?_
        refine lv_iload hx hb dX9_canTurn_173 (lv_at hl 8 rfl) ?_
        obtain ⟨h_9, hw⟩ := hw
        refine r_iald hx hb I 11 lenR_11 (by decide) h_9 dX9_canTurn_175 ?_
        have h_10 := I.rng 11 x7
        refine li_if_le (tgt := 197) hx hb dX9_canTurn_176 (by decide) h_10 (fun c_11 => ?_) (fun c_11 => ?_)
        · replace hw := hw.1 c_11
          exact bX9_canTurn_197 C post k53 k82 hk53 hk82 x1 x2 x3 x4 x5 x6 t0 h1 h2 h3 h4 h5 h6 ht0 _ _ _ _ hw I (lv_sub hl [1, 2, 3, 4, 5, 6, 7, 0] rfl)
        · replace hw := hw.2 c_11
          refine lv_goto (tgt := 193) hx hb dX9_canTurn_179 (by decide) ?_
          exact bX9_canTurn_193 C post k53 k82 hk53 hk82 x1 x2 x3 x4 x5 x6 t0 h1 h2 h3 h4 h5 h6 ht0 _ _ _ _ hw I (lv_sub hl [1, 2, 3, 4, 5, 6, 7, 0] rfl)
set_option maxRecDepth 100000 in
set_option maxHeartbeats 4000000 in
theorem bX9_canTurn_120 {p : Program} {l : Launch} {e : Env} {s : State} {m : MethodId} {args : Array Value} {below : List Frame} {meth : Method} {c : Code} {g : GP} (C : Cx p m c cX9_canTurn 10 s args lw_g RX9 meth (some .boolean)) (post : Int → Mem → Prop) (k53 : Int → Int → Int → Int → Mem → Prop) (k82 : Int → Int → Int → Int → Int → Int → Mem → Prop) (hk53 : ∀ (x1 x2 x3 x4 : Int), inR x1 → inR x2 → inR x3 → inR x4 → ∀ (M : Mem) (H : Heap) (locs : List Loc) (ls : Array Slot), k53 x1 x2 x3 x4 M → IR g s M H locs → lv_has ls 10 [(0, .ref (g.2.2.2 0)), (1, .int (i32 x1)), (2, .int (i32 x2)), (3, .int (i32 x3)), (4, .int (i32 x4))] → W p l e rmX9_canTurn s m args below meth c H locs 0 0 (QIR below args s g post) (F0 m 53 ls [])) (hk82 : ∀ (x1 x2 x3 x4 x5 x6 : Int), inR x1 → inR x2 → inR x3 → inR x4 → inR x5 → inR x6 → ∀ (M : Mem) (H : Heap) (locs : List Loc) (ls : Array Slot), k82 x1 x2 x3 x4 x5 x6 M → IR g s M H locs → lv_has ls 10 [(0, .ref (g.2.2.2 0)), (1, .int (i32 x1)), (2, .int (i32 x2)), (3, .int (i32 x3)), (4, .int (i32 x4)), (5, .int (i32 x5)), (6, .int (i32 x6))] → W p l e rmX9_canTurn s m args below meth c H locs 0 0 (QIR below args s g post) (F0 m 82 ls [])) : ∀ (x1 x2 x3 x4 x5 x6 t0 : Int), inR x1 → inR x2 → inR x3 → inR x4 → inR x5 → inR x6 → inR t0 → ∀ (M : Mem) (H : Heap) (locs : List Loc) (ls : Array Slot), jbX9_canTurn_120 post k53 k82 x1 x2 x3 x4 x5 x6 t0 M → IR g s M H locs → lv_has ls 10 [(0, .ref (g.2.2.2 0)), (1, .int (i32 x1)), (2, .int (i32 x2)), (3, .int (i32 x3)), (4, .int (i32 x4)), (5, .int (i32 x5)), (6, .int (i32 x6))] → W p l e rmX9_canTurn s m args below meth c H locs 0 0 (QIR below args s g post) (F0 m 120 ls [.int (i32 t0)]) := by
  obtain ⟨⟨hx, hb, hml, hown, hts⟩, hr, hlk⟩ := id C
  intro x1 x2 x3 x4 x5 x6 t0 h1 h2 h3 h4 h5 h6 ht0 M H locs ls hw I hl
  refine lv_istore (lv' := [(7, .int (i32 t0)), (0, .ref (g.2.2.2 0)), (1, .int (i32 x1)), (2, .int (i32 x2)), (3, .int (i32 x3)), (4, .int (i32 x4)), (5, .int (i32 x5)), (6, .int (i32 x6))]) hx hb dX9_canTurn_120 hl (by decide) rfl (fun ls hl => ?_)
  refine lv_iload hx hb dX9_canTurn_122 (lv_at hl 6 rfl) ?_
  refine lv_bipush (v := i32 10) hx hb dX9_canTurn_124 (by decide) ?_
  refine li_icmp_lt (tgt := 134) hx hb dX9_canTurn_126 (by decide) h5 (by decide) (fun c_1 => ?_) (fun c_1 => ?_)
  · replace hw := hw.1 c_1
    refine lv_bipush (v := i32 10) hx hb dX9_canTurn_134 (by decide) ?_
    refine lv_iload hx hb dX9_canTurn_136 (lv_at hl 7 rfl) ?_
    refine li_iadd hx hb dX9_canTurn_138 ?_
    obtain ⟨h_2, hw⟩ := hw
    exact bX9_canTurn_139 C post k53 k82 hk53 hk82 x1 x2 x3 x4 x5 x6 t0 (10 + x6) h1 h2 h3 h4 h5 h6 ht0 h_2 _ _ _ _ hw I (lv_sub hl [1, 2, 3, 4, 5, 6, 7, 0] rfl)
  · replace hw := hw.2 c_1
    refine lv_iload hx hb dX9_canTurn_129 (lv_at hl 7 rfl) ?_
    refine lv_goto (tgt := 139) hx hb dX9_canTurn_131 (by decide) ?_
    exact bX9_canTurn_139 C post k53 k82 hk53 hk82 x1 x2 x3 x4 x5 x6 t0 x6 h1 h2 h3 h4 h5 h6 ht0 h6 _ _ _ _ hw I (lv_sub hl [1, 2, 3, 4, 5, 6, 7, 0] rfl)
set_option maxRecDepth 100000 in
set_option maxHeartbeats 4000000 in
theorem bX9_canTurn_82 {p : Program} {l : Launch} {e : Env} {s : State} {m : MethodId} {args : Array Value} {below : List Frame} {meth : Method} {c : Code} {g : GP} (C : Cx p m c cX9_canTurn 10 s args lw_g RX9 meth (some .boolean)) (post : Int → Mem → Prop) (k53 : Int → Int → Int → Int → Mem → Prop) (hk53 : ∀ (x1 x2 x3 x4 : Int), inR x1 → inR x2 → inR x3 → inR x4 → ∀ (M : Mem) (H : Heap) (locs : List Loc) (ls : Array Slot), k53 x1 x2 x3 x4 M → IR g s M H locs → lv_has ls 10 [(0, .ref (g.2.2.2 0)), (1, .int (i32 x1)), (2, .int (i32 x2)), (3, .int (i32 x3)), (4, .int (i32 x4))] → W p l e rmX9_canTurn s m args below meth c H locs 0 0 (QIR below args s g post) (F0 m 53 ls [])) : ∀ (n : Nat), ∀ (x1 x2 x3 x4 x5 x6 : Int), inR x1 → inR x2 → inR x3 → inR x4 → inR x5 → inR x6 → ∀ (M : Mem) (H : Heap) (locs : List Loc) (ls : Array Slot), lpX9_canTurn_82 post k53 n x1 x2 x3 x4 x5 x6 M → IR g s M H locs → lv_has ls 10 [(0, .ref (g.2.2.2 0)), (1, .int (i32 x1)), (2, .int (i32 x2)), (3, .int (i32 x3)), (4, .int (i32 x4)), (5, .int (i32 x5)), (6, .int (i32 x6))] → W p l e rmX9_canTurn s m args below meth c H locs 0 0 (QIR below args s g post) (F0 m 82 ls []) := by
  obtain ⟨⟨hx, hb, hml, hown, hts⟩, hr, hlk⟩ := id C
  intro n
  induction n with
  | zero =>
    intro x1 x2 x3 x4 x5 x6 h1 h2 h3 h4 h5 h6 M H locs ls hw
    exact hw.elim
  | succ n ih =>
    intro x1 x2 x3 x4 x5 x6 h1 h2 h3 h4 h5 h6 M H locs ls hw I hl
    refine lv_iload hx hb dX9_canTurn_82 (lv_at hl 6 rfl) ?_
    refine lv_aload_n hx hb dX9_canTurn_84 rfl (lv_at hl 0 rfl) ?_
    refine rg_0_0 hx hb hts wu_X9 hown I wf_X9_86 dX9_canTurn_85 ?_
    have h_1 := I.rng 0 0
    refine li_icmp_ge (tgt := 250) hx hb dX9_canTurn_88 (by decide) h6 h_1 (fun c_2 => ?_) (fun c_2 => ?_)
    · replace hw := hw.1 c_2
      refine lv_goto (tgt := 53) hx hb dX9_canTurn_250 (by decide) ?_
      exact hk53 x1 x2 x3 x4 h1 h2 h3 h4 _ _ _ _ hw I (lv_sub hl [0, 1, 2, 3, 4] rfl)
    · replace hw := hw.2 c_2
      refine lv_iload hx hb dX9_canTurn_91 (lv_at hl 5 rfl) ?_
      refine lv_bipush (v := i32 10) hx hb dX9_canTurn_93 (by decide) ?_
      refine li_icmp_lt (tgt := 112) hx hb dX9_canTurn_95 (by decide) h5 (by decide) (fun c_3 => ?_) (fun c_3 => ?_)
      · replace hw := hw.1 c_3
        refine lv_bipush (v := i32 10) hx hb dX9_canTurn_112 (by decide) ?_
        refine lv_iload hx hb dX9_canTurn_114 (lv_at hl 5 rfl) ?_
        refine li_imul hx hb dX9_canTurn_116 ?_
        refine lv_iload hx hb dX9_canTurn_117 (lv_at hl 6 rfl) ?_
        refine li_iadd hx hb dX9_canTurn_119 ?_
        obtain ⟨h_4, hw⟩ := hw
        exact bX9_canTurn_120 C post k53 (fun y1 y2 y3 y4 y5 y6 N => lpX9_canTurn_82 post k53 n y1 y2 y3 y4 y5 y6 N) hk53 ih x1 x2 x3 x4 x5 x6 ((10 * x5) + x6) h1 h2 h3 h4 h5 h6 h_4 _ _ _ _ hw I (lv_sub hl [0, 1, 2, 3, 4, 5, 6] rfl)
      · replace hw := hw.2 c_3
        refine lv_bipush (v := i32 10) hx hb dX9_canTurn_98 (by decide) ?_
        refine lv_iload hx hb dX9_canTurn_100 (lv_at hl 6 rfl) ?_
        refine li_imul hx hb dX9_canTurn_102 ?_
        refine lv_iload hx hb dX9_canTurn_103 (lv_at hl 5 rfl) ?_
        refine li_iadd hx hb dX9_canTurn_105 ?_
        refine lv_bipush (v := i32 10) hx hb dX9_canTurn_106 (by decide) ?_
        refine li_isub hx hb dX9_canTurn_108 ?_
        refine lv_goto (tgt := 120) hx hb dX9_canTurn_109 (by decide) ?_
        obtain ⟨h_5, hw⟩ := hw
        exact bX9_canTurn_120 C post k53 (fun y1 y2 y3 y4 y5 y6 N => lpX9_canTurn_82 post k53 n y1 y2 y3 y4 y5 y6 N) hk53 ih x1 x2 x3 x4 x5 x6 (((10 * x6) + x5) - 10) h1 h2 h3 h4 h5 h6 h_5 _ _ _ _ hw I (lv_sub hl [0, 1, 2, 3, 4, 5, 6] rfl)
set_option maxRecDepth 100000 in
set_option maxHeartbeats 4000000 in
theorem bX9_canTurn_53 {p : Program} {l : Launch} {e : Env} {s : State} {m : MethodId} {args : Array Value} {below : List Frame} {meth : Method} {c : Code} {g : GP} (C : Cx p m c cX9_canTurn 10 s args lw_g RX9 meth (some .boolean)) (post : Int → Mem → Prop) : ∀ (n : Nat), ∀ (x1 x2 x3 x4 : Int), inR x1 → inR x2 → inR x3 → inR x4 → ∀ (M : Mem) (H : Heap) (locs : List Loc) (ls : Array Slot), lpX9_canTurn_53 post n x1 x2 x3 x4 M → IR g s M H locs → lv_has ls 10 [(0, .ref (g.2.2.2 0)), (1, .int (i32 x1)), (2, .int (i32 x2)), (3, .int (i32 x3)), (4, .int (i32 x4))] → W p l e rmX9_canTurn s m args below meth c H locs 0 0 (QIR below args s g post) (F0 m 53 ls []) := by
  obtain ⟨⟨hx, hb, hml, hown, hts⟩, hr, hlk⟩ := id C
  intro n
  induction n with
  | zero =>
    intro x1 x2 x3 x4 h1 h2 h3 h4 M H locs ls hw
    exact hw.elim
  | succ n ih =>
    intro x1 x2 x3 x4 h1 h2 h3 h4 M H locs ls hw I hl
    refine lv_iload_n hx hb dX9_canTurn_53 rfl (lv_at hl 3 rfl) ?_
    refine lv_iload hx hb dX9_canTurn_54 (lv_at hl 4 rfl) ?_
    refine li_icmp_ge (tgt := 253) hx hb dX9_canTurn_56 (by decide) h3 h4 (fun c_1 => ?_) (fun c_1 => ?_)
    · replace hw := hw.1 c_1
      exact bX9_canTurn_253 C post x1 h1 _ _ _ _ hw I (lv_sub hl [0, 1] rfl)
    · replace hw := hw.2 c_1
      refine lv_aload_n hx hb dX9_canTurn_59 rfl (lv_at hl 0 rfl) ?_
      refine rg_0_22 hx hb hts wu_X9 hown I wf_X9_62 dX9_canTurn_60 ?_
      refine lv_iload_n hx hb dX9_canTurn_63 rfl (lv_at hl 1 rfl) ?_
      obtain ⟨h_2, hw⟩ := hw
      refine r_zald hx hb I 18 lenR_18 (by decide) h_2 dX9_canTurn_64 ?_
      have h_3 := I.rng 18 x1
      refine li_if_ne (tgt := 253) hx hb dX9_canTurn_65 (by decide) h_3 (fun c_4 => ?_) (fun c_4 => ?_)
      · replace hw := hw.1 c_4
        exact bX9_canTurn_253 C post x1 h1 _ _ _ _ hw I (lv_sub hl [0, 1] rfl)
      · replace hw := hw.2 c_4
        refine lv_aload_n hx hb dX9_canTurn_68 rfl (lv_at hl 0 rfl) ?_
        refine rg_0_23 hx hb hts wu_X9 hown I wf_X9_65 dX9_canTurn_69 ?_
        refine lv_iload_n hx hb dX9_canTurn_72 rfl (lv_at hl 3 rfl) ?_
        obtain ⟨h_5, hw⟩ := hw
        refine r_iald hx hb I 19 lenR_19 (by decide) h_5 dX9_canTurn_73 ?_
        have h_6 := I.rng 19 x3
        refine li_name (fun v74_6 ev74_6 => ?_)
        replace hw := hw v74_6 ev74_6
        have hv74_6 : inR v74_6 := ev74_6 ▸ h_6
        refine lv_istore (lv' := [(5, .int (i32 v74_6)), (0, .ref (g.2.2.2 0)), (1, .int (i32 x1)), (2, .int (i32 x2)), (3, .int (i32 x3)), (4, .int (i32 x4))]) hx hb dX9_canTurn_74 hl (by decide) rfl (fun ls hl => ?_)
        refine li_iinc (lv' := [(3, .int (i32 (x3 + 1))), (5, .int (i32 v74_6)), (0, .ref (g.2.2.2 0)), (1, .int (i32 x1)), (2, .int (i32 x2)), (4, .int (i32 x4))]) hx hb dX9_canTurn_76 hl (k := 4) rfl (by decide) rfl (fun ls hl => ?_)
        refine li_iconst hx hb dX9_canTurn_79 ?_
        refine lv_istore (lv' := [(6, .int (i32 0)), (3, .int (i32 (x3 + 1))), (5, .int (i32 v74_6)), (0, .ref (g.2.2.2 0)), (1, .int (i32 x1)), (2, .int (i32 x2)), (4, .int (i32 x4))]) hx hb dX9_canTurn_80 hl (by decide) rfl (fun ls hl => ?_)
        obtain ⟨h_8, hw⟩ := hw
        obtain ⟨n1, hw⟩ := hw
        exact bX9_canTurn_82 C post (fun y1 y2 y3 y4 N => lpX9_canTurn_53 post n y1 y2 y3 y4 N) ih n1 x1 x2 (x3 + 1) x4 v74_6 0 h1 h2 h_8 h4 hv74_6 (by decide) _ _ _ _ hw I (lv_sub hl [3, 4, 5, 1, 6, 2, 0] rfl)
set_option maxRecDepth 100000 in
set_option maxHeartbeats 4000000 in
theorem bX9_canTurn_2 {p : Program} {l : Launch} {e : Env} {s : State} {m : MethodId} {args : Array Value} {below : List Frame} {meth : Method} {c : Code} {g : GP} (C : Cx p m c cX9_canTurn 10 s args lw_g RX9 meth (some .boolean)) (post : Int → Mem → Prop) : ∀ (n : Nat), ∀ (x1 x2 x3 : Int), inR x1 → inR x2 → inR x3 → ∀ (M : Mem) (H : Heap) (locs : List Loc) (ls : Array Slot), lpX9_canTurn_2 post n x1 x2 x3 M → IR g s M H locs → lv_has ls 10 [(0, .ref (g.2.2.2 0)), (1, .int (i32 x1)), (2, .int (i32 x2)), (3, .int (i32 x3))] → W p l e rmX9_canTurn s m args below meth c H locs 0 0 (QIR below args s g post) (F0 m 2 ls []) := by
  obtain ⟨⟨hx, hb, hml, hown, hts⟩, hr, hlk⟩ := id C
  intro n
  induction n with
  | zero =>
    intro x1 x2 x3 h1 h2 h3 M H locs ls hw
    exact hw.elim
  | succ n ih =>
    intro x1 x2 x3 h1 h2 h3 M H locs ls hw I hl
    refine lv_iload_n hx hb dX9_canTurn_2 rfl (lv_at hl 3 rfl) ?_
    refine lv_bipush (v := i32 20) hx hb dX9_canTurn_3 (by decide) ?_
    refine li_icmp_ge (tgt := 28) hx hb dX9_canTurn_5 (by decide) h3 (by decide) (fun c_1 => ?_) (fun c_1 => ?_)
    · replace hw := hw.1 c_1
      refine li_iconst hx hb dX9_canTurn_28 ?_
      refine lv_istore_n (lv' := [(3, .int (i32 0)), (0, .ref (g.2.2.2 0)), (1, .int (i32 x1)), (2, .int (i32 x2))]) hx hb dX9_canTurn_29 rfl hl (by decide) rfl (fun ls hl => ?_)
      refine li_iconst hx hb dX9_canTurn_30 ?_
      refine lv_istore (lv' := [(4, .int (i32 1)), (3, .int (i32 0)), (0, .ref (g.2.2.2 0)), (1, .int (i32 x1)), (2, .int (i32 x2))]) hx hb dX9_canTurn_31 hl (by decide) rfl (fun ls hl => ?_)
      refine lv_aload_n hx hb dX9_canTurn_33 rfl (lv_at hl 2 rfl) ?_
      refine rg_0_23 hx hb hts wu_X9 hown I wf_X9_65 dX9_canTurn_34 ?_
      refine li_iconst hx hb dX9_canTurn_37 ?_
      refine lv_bipush (v := i32 10) hx hb dX9_canTurn_38 (by decide) ?_
      refine lv_iload_n hx hb dX9_canTurn_40 rfl (lv_at hl 4 rfl) ?_
      refine li_iadd hx hb dX9_canTurn_41 ?_
      obtain ⟨h_2, hw⟩ := hw
      refine r_iast hx hb I 19 lenR_19 (by decide) (by decide) h_2 dX9_canTurn_42 (fun H locs M42_2 eM42_2 I => ?_)
      replace hw := hw M42_2 eM42_2
      refine lv_aload_n hx hb dX9_canTurn_43 rfl (lv_at hl 2 rfl) ?_
      refine rg_0_22 hx hb hts wu_X9 hown I wf_X9_62 dX9_canTurn_44 ?_
      refine lv_bipush (v := i32 10) hx hb dX9_canTurn_47 (by decide) ?_
      refine lv_iload_n hx hb dX9_canTurn_49 rfl (lv_at hl 4 rfl) ?_
      refine li_iadd hx hb dX9_canTurn_50 ?_
      refine li_iconst hx hb dX9_canTurn_51 ?_
      obtain ⟨h_4, hw⟩ := hw
      refine r_zast hx hb I 18 lenR_18 (by decide) h_4 (Or.inr rfl) dX9_canTurn_52 (fun H locs M52_4 eM52_4 I => ?_)
      replace hw := hw M52_4 eM52_4
      obtain ⟨n1, hw⟩ := hw
      exact bX9_canTurn_53 C post n1 x1 x2 0 1 h1 h2 (by decide) (by decide) _ _ _ _ hw I (lv_sub hl [2, 3, 4, 1, 0] rfl)
    · replace hw := hw.2 c_1
      refine lv_aload_n hx hb dX9_canTurn_8 rfl (lv_at hl 0 rfl) ?_
      refine rg_0_22 hx hb hts wu_X9 hown I wf_X9_62 dX9_canTurn_9 ?_
      refine lv_iload_n hx hb dX9_canTurn_12 rfl (lv_at hl 3 rfl) ?_
      refine li_iconst hx hb dX9_canTurn_13 ?_
      obtain ⟨h_6, hw⟩ := hw
      refine r_zast hx hb I 18 lenR_18 (by decide) h_6 (Or.inl rfl) dX9_canTurn_14 (fun H locs M14_6 eM14_6 I => ?_)
      replace hw := hw M14_6 eM14_6
      refine lv_aload_n hx hb dX9_canTurn_15 rfl (lv_at hl 0 rfl) ?_
      refine rg_0_20 hx hb hts wu_X9 hown I wf_X9_55 dX9_canTurn_16 ?_
      refine lv_iload_n hx hb dX9_canTurn_19 rfl (lv_at hl 3 rfl) ?_
      refine li_iconst hx hb dX9_canTurn_20 ?_
      obtain ⟨h_8, hw⟩ := hw
      refine r_iast hx hb I 16 lenR_16 (by decide) h_8 (by decide) dX9_canTurn_21 (fun H locs M21_8 eM21_8 I => ?_)
      replace hw := hw M21_8 eM21_8
      refine li_iinc (lv' := [(3, .int (i32 (x3 + 1))), (0, .ref (g.2.2.2 0)), (1, .int (i32 x1)), (2, .int (i32 x2))]) hx hb dX9_canTurn_22 hl (k := 3) rfl (by decide) rfl (fun ls hl => ?_)
      refine lv_goto (tgt := 2) hx hb dX9_canTurn_25 (by decide) ?_
      obtain ⟨h_10, hw⟩ := hw
      exact ih x1 x2 (x3 + 1) h1 h2 h_10 _ _ _ _ hw I (lv_sub hl [1, 2, 3, 0] rfl)
set_option maxRecDepth 100000 in
set_option maxHeartbeats 4000000 in
theorem mX9_canTurn (l : Launch) (g : GP) (a1 a2 : Int) (ha1 : inR a1) (ha2 : inR a2) (M : Mem) (post : Int → Mem → Prop) (sz : Nat) (hw : wpX9_canTurn a1 a2 M post) : MIR l yX9_canTurn wtX9_canTurn rmX9_canTurn g [.ref (g.2.2.2 0), .int (i32 a1), .int (i32 a2)] M sz post := by
  refine Met.ofW (cc := cX9_canTurn) (maxL := 10) (ret := (some .boolean)) (by decide) rfl ?_
  intro p e s m args below meth c s₁ B hml hv
  obtain ⟨rfl, hpre⟩ := hv
  have hsz := hpre.1
  subst hsz
  have C : Cx p m c cX9_canTurn 10 s _ lw_g RX9 meth (some .boolean) := ⟨⟨B.exec, B.bytes, hml, findClass_of_methodNamed B.named, fun w h => atoms_spec (ws := wtX9_canTurn) B.pre w (List.mem_cons_of_mem _ h)⟩, B.returns, B.notSynchronized⟩
  obtain ⟨⟨hx, hb, hml, hown, hts⟩, hr, hlk⟩ := id C
  have I := InG.start hpre
  have hl := lv_entry ([.ref (g.2.2.2 0), .int (i32 a1), .int (i32 a2)]) (n := 10) (Nat.le_of_ble_eq_true rfl)
  rw [lg_entry_eq]
  generalize (lg_sl ([.ref (g.2.2.2 0), .int (i32 a1), .int (i32 a2)]) ++ List.replicate (10 - (lg_sl ([.ref (g.2.2.2 0), .int (i32 a1), .int (i32 a2)])).length) Slot.unset).toArray = ls at hl ⊢
  have hl : lv_has ls 10 [(0, .ref (g.2.2.2 0)), (1, .int (i32 a1)), (2, .int (i32 a2))] := hl
  show W p l e rmX9_canTurn s m _ below meth c s.heap [] 0 0 (QIR below _ s g post) _
  refine li_iconst hx hb dX9_canTurn_0 ?_
  refine lv_istore_n (lv' := [(3, .int (i32 0)), (0, .ref (g.2.2.2 0)), (1, .int (i32 a1)), (2, .int (i32 a2))]) hx hb dX9_canTurn_1 rfl hl (by decide) rfl (fun ls hl => ?_)
  obtain ⟨n1, hw⟩ := hw
  exact bX9_canTurn_2 C post n1 a1 a2 0 ha1 ha2 (by decide) _ _ _ _ hw I (lv_sub hl [1, 2, 3, 0] rfl)
abbrev rmX9_turn : Room := { frames := 0, cells := 0, slots := 0, locals := 0 }
abbrev wtX9_turn : List Cond := Cond.code yX9_turn cX9_turn 6 none :: lw_g
set_option maxRecDepth 100000 in
set_option maxHeartbeats 4000000 in
theorem bX9_turn_142 {p : Program} {l : Launch} {e : Env} {s : State} {m : MethodId} {args : Array Value} {below : List Frame} {meth : Method} {c : Code} {g : GP} (C : Cx p m c cX9_turn 6 s args lw_g RX9 meth none) (post : Mem → Prop) (k73 : Int → Int → Int → Int → Mem → Prop) (hk73 : ∀ (x1 x2 x3 x4 : Int), inR x1 → inR x2 → inR x3 → inR x4 → ∀ (M : Mem) (H : Heap) (locs : List Loc) (ls : Array Slot), k73 x1 x2 x3 x4 M → IR g s M H locs → lv_has ls 6 [(0, .ref (g.2.2.2 0)), (1, .int (i32 x1)), (2, .int (i32 x2)), (3, .int (i32 x3)), (4, .int (i32 x4))] → W p l e rmX9_turn s m args below meth c H locs 0 0 (QVR below args s g post) (F0 m 73 ls [])) : ∀ (x1 x2 x3 x4 : Int), inR x1 → inR x2 → inR x3 → inR x4 → ∀ (M : Mem) (H : Heap) (locs : List Loc) (ls : Array Slot), jbX9_turn_142 post k73 x1 x2 x3 x4 M → IR g s M H locs → lv_has ls 6 [(0, .ref (g.2.2.2 0)), (1, .int (i32 x1)), (2, .int (i32 x2)), (3, .int (i32 x3)), (4, .int (i32 x4))] → W p l e rmX9_turn s m args below meth c H locs 0 0 (QVR below args s g post) (F0 m 142 ls []) := by
  obtain ⟨⟨hx, hb, hml, hown, hts⟩, hr, hlk⟩ := id C
  intro x1 x2 x3 x4 h1 h2 h3 h4 M H locs ls hw I hl
  refine lv_aload_n hx hb dX9_turn_142 rfl (lv_at hl 0 rfl) ?_
  refine rg_0_20 hx hb hts wu_X9 hown I wf_X9_55 dX9_turn_143 ?_
  refine lv_iload hx hb dX9_turn_146 (lv_at hl 4 rfl) ?_
  obtain ⟨h_1, hw⟩ := hw
  refine r_iald hx hb I 16 lenR_16 (by decide) h_1 dX9_turn_148 ?_
  have h_2 := I.rng 16 x4
  refine li_name (fun v149_2 ev149_2 => ?_)
  replace hw := hw v149_2 ev149_2
  have hv149_2 : inR v149_2 := ev149_2 ▸ h_2
  refine lv_istore (lv' := [(4, .int (i32 v149_2)), (0, .ref (g.2.2.2 0)), (1, .int (i32 x1)), (2, .int (i32 x2)), (3, .int (i32 x3))]) hx hb dX9_turn_149 hl (by decide) rfl (fun ls hl => ?_)
  refine lv_goto (tgt := 73) hx hb dX9_turn_151 (by decide) ?_
  exact hk73 x1 x2 x3 v149_2 h1 h2 h3 hv149_2 _ _ _ _ hw I (lv_sub hl [1, 2, 3, 4, 0] rfl)
set_option maxRecDepth 100000 in
set_option maxHeartbeats 4000000 in
theorem bX9_turn_73 {p : Program} {l : Launch} {e : Env} {s : State} {m : MethodId} {args : Array Value} {below : List Frame} {meth : Method} {c : Code} {g : GP} (C : Cx p m c cX9_turn 6 s args lw_g RX9 meth none) (post : Mem → Prop) : ∀ (n : Nat), ∀ (x1 x2 x3 x4 : Int), inR x1 → inR x2 → inR x3 → inR x4 → ∀ (M : Mem) (H : Heap) (locs : List Loc) (ls : Array Slot), lpX9_turn_73 post n x1 x2 x3 x4 M → IR g s M H locs → lv_has ls 6 [(0, .ref (g.2.2.2 0)), (1, .int (i32 x1)), (2, .int (i32 x2)), (3, .int (i32 x3)), (4, .int (i32 x4))] → W p l e rmX9_turn s m args below meth c H locs 0 0 (QVR below args s g post) (F0 m 73 ls []) := by
  obtain ⟨⟨hx, hb, hml, hown, hts⟩, hr, hlk⟩ := id C
  intro n
  induction n with
  | zero =>
    intro x1 x2 x3 x4 h1 h2 h3 h4 M H locs ls hw
    exact hw.elim
  | succ n ih =>
    intro x1 x2 x3 x4 h1 h2 h3 h4 M H locs ls hw I hl
    refine lv_iload hx hb dX9_turn_73 (lv_at hl 4 rfl) ?_
    refine lv_bipush (v := i32 10) hx hb dX9_turn_75 (by decide) ?_
    refine lv_iload_n hx hb dX9_turn_77 rfl (lv_at hl 2 rfl) ?_
    refine li_iadd hx hb dX9_turn_78 ?_
    obtain ⟨h_2, hw⟩ := hw
    refine li_icmp_eq (tgt := 154) hx hb dX9_turn_79 (by decide) h4 h_2 (fun c_1 => ?_) (fun c_1 => ?_)
    · replace hw := hw.1 c_1
      refine lv_aload_n hx hb dX9_turn_154 rfl (lv_at hl 0 rfl) ?_
      refine rg_0_15 hx hb hts wu_X9 hown I wf_X9_40 dX9_turn_155 ?_
      refine lv_bipush (v := i32 10) hx hb dX9_turn_158 (by decide) ?_
      refine lv_iload_n hx hb dX9_turn_160 rfl (lv_at hl 1 rfl) ?_
      refine li_imul hx hb dX9_turn_161 ?_
      refine lv_iload_n hx hb dX9_turn_162 rfl (lv_at hl 2 rfl) ?_
      refine li_iadd hx hb dX9_turn_163 ?_
      refine lv_dup2_11 hx hb dX9_turn_164 rfl rfl ?_
      obtain ⟨h_3, hw⟩ := hw
      refine r_iald hx hb I 11 lenR_11 (by decide) h_3 dX9_turn_165 ?_
      have h_4 := I.rng 11 ((10 * x1) + x2)
      refine lv_iload_n hx hb dX9_turn_166 rfl (lv_at hl 3 rfl) ?_
      refine li_iadd hx hb dX9_turn_167 ?_
      obtain ⟨h_5, hw⟩ := hw
      obtain ⟨h_6, hw⟩ := hw
      refine r_iast hx hb I 11 lenR_11 (by decide) h_5 h_6 dX9_turn_168 (fun H locs M168_6 eM168_6 I => ?_)
      replace hw := hw M168_6 eM168_6
      exact g_vret hx hb hr hlk I hw dX9_turn_169
    · replace hw := hw.2 c_1
      refine lv_iload hx hb dX9_turn_82 (lv_at hl 4 rfl) ?_
      refine lv_bipush (v := i32 10) hx hb dX9_turn_84 (by decide) ?_
      refine li_icmp_ge (tgt := 117) hx hb dX9_turn_86 (by decide) h4 (by decide) (fun c_8 => ?_) (fun c_8 => ?_)
      · replace hw := hw.1 c_8
        refine lv_aload_n hx hb dX9_turn_117 rfl (lv_at hl 0 rfl) ?_
        refine rg_0_15 hx hb hts wu_X9 hown I wf_X9_40 dX9_turn_118 ?_
        refine lv_bipush (v := i32 10) hx hb dX9_turn_121 (by decide) ?_
        refine lv_aload_n hx hb dX9_turn_123 rfl (lv_at hl 0 rfl) ?_
        refine rg_0_20 hx hb hts wu_X9 hown I wf_X9_55 dX9_turn_124 ?_
        refine lv_iload hx hb dX9_turn_127 (lv_at hl 4 rfl) ?_
        obtain ⟨h_9, hw⟩ := hw
        refine r_iald hx hb I 16 lenR_16 (by decide) h_9 dX9_turn_129 ?_
        have h_10 := I.rng 16 x4
        refine li_imul hx hb dX9_turn_130 ?_
        refine lv_iload hx hb dX9_turn_131 (lv_at hl 4 rfl) ?_
        refine li_iadd hx hb dX9_turn_133 ?_
        refine lv_bipush (v := i32 10) hx hb dX9_turn_134 (by decide) ?_
        refine li_isub hx hb dX9_turn_136 ?_
        refine lv_dup2_11 hx hb dX9_turn_137 rfl rfl ?_
        obtain ⟨h_11, hw⟩ := hw
        refine r_iald hx hb I 11 lenR_11 (by decide) h_11 dX9_turn_138 ?_
        have h_12 := I.rng 11 (((10 * (M 16 x4)) + x4) - 10)
        refine lv_iload_n hx hb dX9_turn_139 rfl (lv_at hl 3 rfl) ?_
        refine li_iadd hx hb dX9_turn_140 ?_
        obtain ⟨h_13, hw⟩ := hw
        obtain ⟨h_14, hw⟩ := hw
        refine r_iast hx hb I 11 lenR_11 (by decide) h_13 h_14 dX9_turn_141 (fun H locs M141_14 eM141_14 I => ?_)
        replace hw := hw M141_14 eM141_14
        exact bX9_turn_142 C post (fun y1 y2 y3 y4 N => lpX9_turn_73 post n y1 y2 y3 y4 N) ih x1 x2 x3 x4 h1 h2 h3 h4 _ _ _ _ hw I (lv_sub hl [0, 1, 2, 3, 4] rfl)
      · replace hw := hw.2 c_8
        refine lv_aload_n hx hb dX9_turn_89 rfl (lv_at hl 0 rfl) ?_
        refine rg_0_15 hx hb hts wu_X9 hown I wf_X9_40 dX9_turn_90 ?_
        refine lv_bipush (v := i32 10) hx hb dX9_turn_93 (by decide) ?_
        refine lv_iload hx hb dX9_turn_95 (lv_at hl 4 rfl) ?_
        refine li_imul hx hb dX9_turn_97 ?_
        refine lv_aload_n hx hb dX9_turn_98 rfl (lv_at hl 0 rfl) ?_
        refine rg_0_20 hx hb hts wu_X9 hown I wf_X9_55 dX9_turn_99 ?_
        refine lv_iload hx hb dX9_turn_102 (lv_at hl 4 rfl) ?_
        obtain ⟨h_16, hw⟩ := hw
        refine r_iald hx hb I 16 lenR_16 (by decide) h_16 dX9_turn_104 ?_
        have h_17 := I.rng 16 x4
        refine li_iadd hx hb dX9_turn_105 ?_
        refine lv_bipush (v := i32 10) hx hb dX9_turn_106 (by decide) ?_
        refine li_isub hx hb dX9_turn_108 ?_
        refine lv_dup2_11 hx hb dX9_turn_109 rfl rfl ?_
        obtain ⟨h_18, hw⟩ := hw
        refine r_iald hx hb I 11 lenR_11 (by decide) h_18 dX9_turn_110 ?_
        have h_19 := I.rng 11 (((10 * x4) + (M 16 x4)) - 10)
        refine lv_iload_n hx hb dX9_turn_111 rfl (lv_at hl 3 rfl) ?_
        refine li_isub hx hb dX9_turn_112 ?_
        obtain ⟨h_20, hw⟩ := hw
        obtain ⟨h_21, hw⟩ := hw
        refine r_iast hx hb I 11 lenR_11 (by decide) h_20 h_21 dX9_turn_113 (fun H locs M113_21 eM113_21 I => ?_)
        replace hw := hw M113_21 eM113_21
        refine lv_goto (tgt := 142) hx hb dX9_turn_114 (by decide) ?_
        exact bX9_turn_142 C post (fun y1 y2 y3 y4 N => lpX9_turn_73 post n y1 y2 y3 y4 N) ih x1 x2 x3 x4 h1 h2 h3 h4 _ _ _ _ hw I (lv_sub hl [0, 1, 2, 3, 4] rfl)
set_option maxRecDepth 100000 in
set_option maxHeartbeats 4000000 in
theorem bX9_turn_58 {p : Program} {l : Launch} {e : Env} {s : State} {m : MethodId} {args : Array Value} {below : List Frame} {meth : Method} {c : Code} {g : GP} (C : Cx p m c cX9_turn 6 s args lw_g RX9 meth none) (post : Mem → Prop) (k6 : Int → Int → Int → Int → Mem → Prop) (hk6 : ∀ (x1 x2 x3 x4 : Int), inR x1 → inR x2 → inR x3 → inR x4 → ∀ (M : Mem) (H : Heap) (locs : List Loc) (ls : Array Slot), k6 x1 x2 x3 x4 M → IR g s M H locs → lv_has ls 6 [(0, .ref (g.2.2.2 0)), (1, .int (i32 x1)), (2, .int (i32 x2)), (3, .int (i32 x3)), (4, .int (i32 x4))] → W p l e rmX9_turn s m args below meth c H locs 0 0 (QVR below args s g post) (F0 m 6 ls [])) : ∀ (x1 x2 x3 x4 : Int), inR x1 → inR x2 → inR x3 → inR x4 → ∀ (M : Mem) (H : Heap) (locs : List Loc) (ls : Array Slot), jbX9_turn_58 post k6 x1 x2 x3 x4 M → IR g s M H locs → lv_has ls 6 [(0, .ref (g.2.2.2 0)), (1, .int (i32 x1)), (2, .int (i32 x2)), (3, .int (i32 x3)), (4, .int (i32 x4))] → W p l e rmX9_turn s m args below meth c H locs 0 0 (QVR below args s g post) (F0 m 58 ls []) := by
  obtain ⟨⟨hx, hb, hml, hown, hts⟩, hr, hlk⟩ := id C
  intro x1 x2 x3 x4 h1 h2 h3 h4 M H locs ls hw I hl
  refine lv_aload_n hx hb dX9_turn_58 rfl (lv_at hl 0 rfl) ?_
  refine rg_0_20 hx hb hts wu_X9 hown I wf_X9_55 dX9_turn_59 ?_
  refine lv_iload hx hb dX9_turn_62 (lv_at hl 4 rfl) ?_
  obtain ⟨h_1, hw⟩ := hw
  refine r_iald hx hb I 16 lenR_16 (by decide) h_1 dX9_turn_64 ?_
  have h_2 := I.rng 16 x4
  refine li_name (fun v65_2 ev65_2 => ?_)
  replace hw := hw v65_2 ev65_2
  have hv65_2 : inR v65_2 := ev65_2 ▸ h_2
  refine lv_istore (lv' := [(4, .int (i32 v65_2)), (0, .ref (g.2.2.2 0)), (1, .int (i32 x1)), (2, .int (i32 x2)), (3, .int (i32 x3))]) hx hb dX9_turn_65 hl (by decide) rfl (fun ls hl => ?_)
  refine lv_goto (tgt := 6) hx hb dX9_turn_67 (by decide) ?_
  exact hk6 x1 x2 x3 v65_2 h1 h2 h3 hv65_2 _ _ _ _ hw I (lv_sub hl [1, 2, 3, 4, 0] rfl)
set_option maxRecDepth 100000 in
set_option maxHeartbeats 4000000 in
theorem bX9_turn_57 {p : Program} {l : Launch} {e : Env} {s : State} {m : MethodId} {args : Array Value} {below : List Frame} {meth : Method} {c : Code} {g : GP} (C : Cx p m c cX9_turn 6 s args lw_g RX9 meth none) (post : Mem → Prop) (k6 : Int → Int → Int → Int → Mem → Prop) (hk6 : ∀ (x1 x2 x3 x4 : Int), inR x1 → inR x2 → inR x3 → inR x4 → ∀ (M : Mem) (H : Heap) (locs : List Loc) (ls : Array Slot), k6 x1 x2 x3 x4 M → IR g s M H locs → lv_has ls 6 [(0, .ref (g.2.2.2 0)), (1, .int (i32 x1)), (2, .int (i32 x2)), (3, .int (i32 x3)), (4, .int (i32 x4))] → W p l e rmX9_turn s m args below meth c H locs 0 0 (QVR below args s g post) (F0 m 6 ls [])) : ∀ (x1 x2 x4 t0 : Int), inR x1 → inR x2 → inR x4 → inR t0 → ∀ (M : Mem) (H : Heap) (locs : List Loc) (ls : Array Slot), jbX9_turn_57 post k6 x1 x2 x4 t0 M → IR g s M H locs → lv_has ls 6 [(0, .ref (g.2.2.2 0)), (1, .int (i32 x1)), (2, .int (i32 x2)), (4, .int (i32 x4))] → W p l e rmX9_turn s m args below meth c H locs 0 0 (QVR below args s g post) (F0 m 57 ls [.int (i32 t0)]) := by
  obtain ⟨⟨hx, hb, hml, hown, hts⟩, hr, hlk⟩ := id C
  intro x1 x2 x4 t0 h1 h2 h4 ht0 M H locs ls hw I hl
  refine lv_istore_n (lv' := [(3, .int (i32 t0)), (0, .ref (g.2.2.2 0)), (1, .int (i32 x1)), (2, .int (i32 x2)), (4, .int (i32 x4))]) hx hb dX9_turn_57 rfl hl (by decide) rfl (fun ls hl => ?_)
  exact bX9_turn_58 C post k6 hk6 x1 x2 t0 x4 h1 h2 ht0 h4 _ _ _ _ hw I (lv_sub hl [1, 2, 3, 0, 4] rfl)
set_option maxRecDepth 100000 in
set_option maxHeartbeats 4000000 in
theorem bX9_turn_6 {p : Program} {l : Launch} {e : Env} {s : State} {m : MethodId} {args : Array Value} {below : List Frame} {meth : Method} {c : Code} {g : GP} (C : Cx p m c cX9_turn 6 s args lw_g RX9 meth none) (post : Mem → Prop) : ∀ (n : Nat), ∀ (x1 x2 x3 x4 : Int), inR x1 → inR x2 → inR x3 → inR x4 → ∀ (M : Mem) (H : Heap) (locs : List Loc) (ls : Array Slot), lpX9_turn_6 post n x1 x2 x3 x4 M → IR g s M H locs → lv_has ls 6 [(0, .ref (g.2.2.2 0)), (1, .int (i32 x1)), (2, .int (i32 x2)), (3, .int (i32 x3)), (4, .int (i32 x4))] → W p l e rmX9_turn s m args below meth c H locs 0 0 (QVR below args s g post) (F0 m 6 ls []) := by
  obtain ⟨⟨hx, hb, hml, hown, hts⟩, hr, hlk⟩ := id C
  intro n
  induction n with
  | zero =>
    intro x1 x2 x3 x4 h1 h2 h3 h4 M H locs ls hw
    exact hw.elim
  | succ n ih =>
    intro x1 x2 x3 x4 h1 h2 h3 h4 M H locs ls hw I hl
    refine lv_iload hx hb dX9_turn_6 (lv_at hl 4 rfl) ?_
    refine lv_bipush (v := i32 10) hx hb dX9_turn_8 (by decide) ?_
    refine lv_iload_n hx hb dX9_turn_10 rfl (lv_at hl 2 rfl) ?_
    refine li_iadd hx hb dX9_turn_11 ?_
    obtain ⟨h_2, hw⟩ := hw
    refine li_icmp_eq (tgt := 70) hx hb dX9_turn_12 (by decide) h4 h_2 (fun c_1 => ?_) (fun c_1 => ?_)
    · replace hw := hw.1 c_1
      refine lv_iload_n hx hb dX9_turn_70 rfl (lv_at hl 1 rfl) ?_
      refine lv_istore (lv' := [(4, .int (i32 x1)), (0, .ref (g.2.2.2 0)), (1, .int (i32 x1)), (2, .int (i32 x2)), (3, .int (i32 x3))]) hx hb dX9_turn_71 hl (by decide) rfl (fun ls hl => ?_)
      obtain ⟨n1, hw⟩ := hw
      exact bX9_turn_73 C post n1 x1 x2 x3 x1 h1 h2 h3 h1 _ _ _ _ hw I (lv_sub hl [1, 2, 3, 4, 0] rfl)
    · replace hw := hw.2 c_1
      refine lv_iload hx hb dX9_turn_15 (lv_at hl 4 rfl) ?_
      refine lv_bipush (v := i32 10) hx hb dX9_turn_17 (by decide) ?_
      refine li_icmp_ge (tgt := 58) hx hb dX9_turn_19 (by decide) h4 (by decide) (fun c_3 => ?_) (fun c_3 => ?_)
      · replace hw := hw.1 c_3
        exact bX9_turn_58 C post (fun y1 y2 y3 y4 N => lpX9_turn_6 post n y1 y2 y3 y4 N) ih x1 x2 x3 x4 h1 h2 h3 h4 _ _ _ _ hw I (lv_sub hl [0, 1, 2, 3, 4] rfl)
      · replace hw := hw.2 c_3
        refine lv_aload_n hx hb dX9_turn_22 rfl (lv_at hl 0 rfl) ?_
        refine rg_0_15 hx hb hts wu_X9 hown I wf_X9_40 dX9_turn_23 ?_
        refine lv_bipush (v := i32 10) hx hb dX9_turn_26 (by decide) ?_
        refine lv_iload hx hb dX9_turn_28 (lv_at hl 4 rfl) ?_
        refine li_imul hx hb dX9_turn_30 ?_
        refine lv_aload_n hx hb dX9_turn_31 rfl (lv_at hl 0 rfl) ?_
        refine rg_0_20 hx hb hts wu_X9 hown I wf_X9_55 dX9_turn_32 ?_
        refine lv_iload hx hb dX9_turn_35 (lv_at hl 4 rfl) ?_
        obtain ⟨h_4, hw⟩ := hw
        refine r_iald hx hb I 16 lenR_16 (by decide) h_4 dX9_turn_37 ?_
        have h_5 := I.rng 16 x4
        refine li_iadd hx hb dX9_turn_38 ?_
        refine lv_bipush (v := i32 10) hx hb dX9_turn_39 (by decide) ?_
        refine li_isub hx hb dX9_turn_41 ?_
        obtain ⟨h_6, hw⟩ := hw
        refine r_iald hx hb I 11 lenR_11 (by decide) h_6 dX9_turn_42 ?_
        have h_7 := I.rng 11 (((10 * x4) + (M 16 x4)) - 10)
        refine li_name (fun v43_7 ev43_7 => ?_)
        replace hw := hw v43_7 ev43_7
        have hv43_7 : inR v43_7 := ev43_7 ▸ h_7
        refine lv_istore (lv' := [(5, .int (i32 v43_7)), (0, .ref (g.2.2.2 0)), (1, .int (i32 x1)), (2, .int (i32 x2)), (3, .int (i32 x3)), (4, .int (i32 x4))]) hx hb dX9_turn_43 hl (by decide) rfl (fun ls hl => ?_)
        refine lv_iload hx hb dX9_turn_45 (lv_at hl 0 rfl) ?_
        refine lv_iload_n hx hb dX9_turn_47 rfl (lv_at hl 4 rfl) ?_
        refine li_icmp_ge (tgt := 56) hx hb dX9_turn_48 (by decide) hv43_7 h3 (fun c_9 => ?_) (fun c_9 => ?_)
        · replace hw := hw.1 c_9
          refine lv_iload_n hx hb dX9_turn_56 rfl (lv_at hl 4 rfl) ?_
          exact bX9_turn_57 C post (fun y1 y2 y3 y4 N => lpX9_turn_6 post n y1 y2 y3 y4 N) ih x1 x2 x4 x3 h1 h2 h4 h3 _ _ _ _ hw I (lv_sub hl [1, 2, 3, 5] rfl)
        · replace hw := hw.2 c_9
          refine lv_iload hx hb dX9_turn_51 (lv_at hl 0 rfl) ?_
          refine lv_goto (tgt := 57) hx hb dX9_turn_53 (by decide) ?_
          exact bX9_turn_57 C post (fun y1 y2 y3 y4 N => lpX9_turn_6 post n y1 y2 y3 y4 N) ih x1 x2 x4 v43_7 h1 h2 h4 hv43_7 _ _ _ _ hw I (lv_sub hl [1, 2, 3, 5] rfl)
set_option maxRecDepth 100000 in
set_option maxHeartbeats 4000000 in
theorem mX9_turn (l : Launch) (g : GP) (a1 a2 : Int) (ha1 : inR a1) (ha2 : inR a2) (M : Mem) (post : Mem → Prop) (sz : Nat) (hw : wpX9_turn a1 a2 M post) : MVR l yX9_turn wtX9_turn rmX9_turn g [.ref (g.2.2.2 0), .int (i32 a1), .int (i32 a2)] M sz post := by
  refine Met.ofW (cc := cX9_turn) (maxL := 6) (ret := none) (by decide) rfl ?_
  intro p e s m args below meth c s₁ B hml hv
  obtain ⟨rfl, hpre⟩ := hv
  have hsz := hpre.1
  subst hsz
  have C : Cx p m c cX9_turn 6 s _ lw_g RX9 meth none := ⟨⟨B.exec, B.bytes, hml, findClass_of_methodNamed B.named, fun w h => atoms_spec (ws := wtX9_turn) B.pre w (List.mem_cons_of_mem _ h)⟩, B.returns, B.notSynchronized⟩
  obtain ⟨⟨hx, hb, hml, hown, hts⟩, hr, hlk⟩ := id C
  have I := InG.start hpre
  have hl := lv_entry ([.ref (g.2.2.2 0), .int (i32 a1), .int (i32 a2)]) (n := 6) (Nat.le_of_ble_eq_true rfl)
  rw [lg_entry_eq]
  generalize (lg_sl ([.ref (g.2.2.2 0), .int (i32 a1), .int (i32 a2)]) ++ List.replicate (6 - (lg_sl ([.ref (g.2.2.2 0), .int (i32 a1), .int (i32 a2)])).length) Slot.unset).toArray = ls at hl ⊢
  have hl : lv_has ls 6 [(0, .ref (g.2.2.2 0)), (1, .int (i32 a1)), (2, .int (i32 a2))] := hl
  show W p l e rmX9_turn s m _ below meth c s.heap [] 0 0 (QVR below _ s g post) _
  refine lv_ldc (v := i32 1000000000) hx hb hown (hts _ wk_X9_115) dX9_turn_0 ?_
  refine lv_istore_n (lv' := [(3, .int (i32 1000000000)), (0, .ref (g.2.2.2 0)), (1, .int (i32 a1)), (2, .int (i32 a2))]) hx hb dX9_turn_2 rfl hl (by decide) rfl (fun ls hl => ?_)
  refine lv_iload_n hx hb dX9_turn_3 rfl (lv_at hl 2 rfl) ?_
  refine lv_istore (lv' := [(4, .int (i32 a1)), (3, .int (i32 1000000000)), (0, .ref (g.2.2.2 0)), (1, .int (i32 a1)), (2, .int (i32 a2))]) hx hb dX9_turn_4 hl (by decide) rfl (fun ls hl => ?_)
  obtain ⟨n1, hw⟩ := hw
  exact bX9_turn_6 C post n1 a1 a2 1000000000 a1 ha1 ha2 (by decide) ha1 _ _ _ _ hw I (lv_sub hl [2, 3, 4, 1, 0] rfl)
abbrev rmX9_loosen : Room := { frames := 0, cells := 0, slots := 0, locals := 0 }
abbrev wtX9_loosen : List Cond := Cond.code yX9_loosen cX9_loosen 2 none :: lw_g
set_option maxRecDepth 100000 in
set_option maxHeartbeats 4000000 in
theorem bX9_loosen_2 {p : Program} {l : Launch} {e : Env} {s : State} {m : MethodId} {args : Array Value} {below : List Frame} {meth : Method} {c : Code} {g : GP} (C : Cx p m c cX9_loosen 2 s args lw_g RX9 meth none) (post : Mem → Prop) : ∀ (n : Nat), ∀ (x1 : Int), inR x1 → ∀ (M : Mem) (H : Heap) (locs : List Loc) (ls : Array Slot), lpX9_loosen_2 post n x1 M → IR g s M H locs → lv_has ls 2 [(0, .ref (g.2.2.2 0)), (1, .int (i32 x1))] → W p l e rmX9_loosen s m args below meth c H locs 0 0 (QVR below args s g post) (F0 m 2 ls []) := by
  obtain ⟨⟨hx, hb, hml, hown, hts⟩, hr, hlk⟩ := id C
  intro n
  induction n with
  | zero =>
    intro x1 h1 M H locs ls hw
    exact hw.elim
  | succ n ih =>
    intro x1 h1 M H locs ls hw I hl
    refine lv_iload_n hx hb dX9_loosen_2 rfl (lv_at hl 1 rfl) ?_
    refine lv_bipush (v := i32 100) hx hb dX9_loosen_3 (by decide) ?_
    refine li_icmp_ge (tgt := 21) hx hb dX9_loosen_5 (by decide) h1 (by decide) (fun c_1 => ?_) (fun c_1 => ?_)
    · replace hw := hw.1 c_1
      exact g_vret hx hb hr hlk I hw dX9_loosen_21
    · replace hw := hw.2 c_1
      refine lv_aload_n hx hb dX9_loosen_8 rfl (lv_at hl 0 rfl) ?_
      refine rg_0_21 hx hb hts wu_X9 hown I wf_X9_58 dX9_loosen_9 ?_
      refine lv_iload_n hx hb dX9_loosen_12 rfl (lv_at hl 1 rfl) ?_
      refine li_iconst hx hb dX9_loosen_13 ?_
      obtain ⟨h_2, hw⟩ := hw
      refine r_zast hx hb I 17 lenR_17 (by decide) h_2 (Or.inl rfl) dX9_loosen_14 (fun H locs M14_2 eM14_2 I => ?_)
      replace hw := hw M14_2 eM14_2
      refine li_iinc (lv' := [(1, .int (i32 (x1 + 1))), (0, .ref (g.2.2.2 0))]) hx hb dX9_loosen_15 hl (k := 1) rfl (by decide) rfl (fun ls hl => ?_)
      refine lv_goto (tgt := 2) hx hb dX9_loosen_18 (by decide) ?_
      obtain ⟨h_4, hw⟩ := hw
      exact ih (x1 + 1) h_4 _ _ _ _ hw I (lv_sub hl [1, 0] rfl)
set_option maxRecDepth 100000 in
set_option maxHeartbeats 4000000 in
theorem mX9_loosen (l : Launch) (g : GP) (M : Mem) (post : Mem → Prop) (sz : Nat) (hw : wpX9_loosen M post) : MVR l yX9_loosen wtX9_loosen rmX9_loosen g [.ref (g.2.2.2 0)] M sz post := by
  refine Met.ofW (cc := cX9_loosen) (maxL := 2) (ret := none) (by decide) rfl ?_
  intro p e s m args below meth c s₁ B hml hv
  obtain ⟨rfl, hpre⟩ := hv
  have hsz := hpre.1
  subst hsz
  have C : Cx p m c cX9_loosen 2 s _ lw_g RX9 meth none := ⟨⟨B.exec, B.bytes, hml, findClass_of_methodNamed B.named, fun w h => atoms_spec (ws := wtX9_loosen) B.pre w (List.mem_cons_of_mem _ h)⟩, B.returns, B.notSynchronized⟩
  obtain ⟨⟨hx, hb, hml, hown, hts⟩, hr, hlk⟩ := id C
  have I := InG.start hpre
  have hl := lv_entry ([.ref (g.2.2.2 0)]) (n := 2) (Nat.le_of_ble_eq_true rfl)
  rw [lg_entry_eq]
  generalize (lg_sl ([.ref (g.2.2.2 0)]) ++ List.replicate (2 - (lg_sl ([.ref (g.2.2.2 0)])).length) Slot.unset).toArray = ls at hl ⊢
  have hl : lv_has ls 2 [(0, .ref (g.2.2.2 0))] := hl
  show W p l e rmX9_loosen s m _ below meth c s.heap [] 0 0 (QVR below _ s g post) _
  refine li_iconst hx hb dX9_loosen_0 ?_
  refine lv_istore_n (lv' := [(1, .int (i32 0)), (0, .ref (g.2.2.2 0))]) hx hb dX9_loosen_1 rfl hl (by decide) rfl (fun ls hl => ?_)
  obtain ⟨n1, hw⟩ := hw
  exact bX9_loosen_2 C post n1 0 (by decide) _ _ _ _ hw I (lv_sub hl [1, 0] rfl)
