abbrev rmX6_putFirst : Room := { frames := 3, cells := 0, slots := 0, locals := 78 }
abbrev wtX6_putFirst : List Cond := Cond.code yX6_putFirst cX6_putFirst 6 none :: lw_g
set_option maxRecDepth 100000 in
set_option maxHeartbeats 4000000 in
theorem bX6_putFirst_74 {p : Program} {l : Launch} {e : Env} {s : State} {m : MethodId} {args : Array Value} {below : List Frame} {meth : Method} {c : Code} {g : GP} (C : Cx p m c cX6_putFirst 6 s args lw_g RX6 meth none) (post : Mem → Prop) (k2 : Int → Mem → Prop) (k12 : Int → Int → Mem → Prop) (hk2 : ∀ (x2 : Int), inR x2 → ∀ (M : Mem) (H : Heap) (locs : List Loc) (ls : Array Slot), k2 x2 M → IX g s M H locs → lv_has ls 6 [(0, .ref (g.2.2.2 6)), (1, .ref (g.2.2.2 1)), (2, .int (i32 x2))] → W p l e rmX6_putFirst s m args below meth c H locs 0 0 (QVX below args s g post) (F0 m 2 ls [])) (hk12 : ∀ (x2 x3 : Int), inR x2 → inR x3 → ∀ (M : Mem) (H : Heap) (locs : List Loc) (ls : Array Slot), k12 x2 x3 M → IX g s M H locs → lv_has ls 6 [(0, .ref (g.2.2.2 6)), (1, .ref (g.2.2.2 1)), (2, .int (i32 x2)), (3, .int (i32 x3))] → W p l e rmX6_putFirst s m args below meth c H locs 0 0 (QVX below args s g post) (F0 m 12 ls [])) : ∀ (x2 x3 : Int), inR x2 → inR x3 → ∀ (M : Mem) (H : Heap) (locs : List Loc) (ls : Array Slot), jbX6_putFirst_74 post k2 k12 x2 x3 M → IX g s M H locs → lv_has ls 6 [(0, .ref (g.2.2.2 6)), (1, .ref (g.2.2.2 1)), (2, .int (i32 x2)), (3, .int (i32 x3))] → W p l e rmX6_putFirst s m args below meth c H locs 0 0 (QVX below args s g post) (F0 m 74 ls []) := by
  obtain ⟨⟨hx, hb, hml, hown, hts⟩, hr, hlk⟩ := id C
  intro x2 x3 h2 h3 M H locs ls hw I hl
  refine li_iinc (lv' := [(3, .int (i32 (x3 + 1))), (0, .ref (g.2.2.2 6)), (1, .ref (g.2.2.2 1)), (2, .int (i32 x2))]) hx hb dX6_putFirst_74 hl (k := 3) rfl (by decide) rfl (fun ls hl => ?_)
  refine lv_goto (tgt := 12) hx hb dX6_putFirst_77 (by decide) ?_
  obtain ⟨h_1, hw⟩ := hw
  exact hk12 x2 (x3 + 1) h2 h_1 _ _ _ _ hw I (lv_sub hl [1, 2, 3, 0] rfl)
set_option maxRecDepth 100000 in
set_option maxHeartbeats 4000000 in
theorem bX6_putFirst_42 {p : Program} {l : Launch} {e : Env} {s : State} {m : MethodId} {args : Array Value} {below : List Frame} {meth : Method} {c : Code} {g : GP} (C : Cx p m c cX6_putFirst 6 s args lw_g RX6 meth none) (post : Mem → Prop) (k2 : Int → Mem → Prop) (k12 : Int → Int → Mem → Prop) (hk2 : ∀ (x2 : Int), inR x2 → ∀ (M : Mem) (H : Heap) (locs : List Loc) (ls : Array Slot), k2 x2 M → IX g s M H locs → lv_has ls 6 [(0, .ref (g.2.2.2 6)), (1, .ref (g.2.2.2 1)), (2, .int (i32 x2))] → W p l e rmX6_putFirst s m args below meth c H locs 0 0 (QVX below args s g post) (F0 m 2 ls [])) (hk12 : ∀ (x2 x3 : Int), inR x2 → inR x3 → ∀ (M : Mem) (H : Heap) (locs : List Loc) (ls : Array Slot), k12 x2 x3 M → IX g s M H locs → lv_has ls 6 [(0, .ref (g.2.2.2 6)), (1, .ref (g.2.2.2 1)), (2, .int (i32 x2)), (3, .int (i32 x3))] → W p l e rmX6_putFirst s m args below meth c H locs 0 0 (QVX below args s g post) (F0 m 12 ls [])) : ∀ (n : Nat), ∀ (x2 x3 x4 x5 : Int), inR x2 → inR x3 → inR x4 → inR x5 → ∀ (M : Mem) (H : Heap) (locs : List Loc) (ls : Array Slot), lpX6_putFirst_42 post k2 k12 n x2 x3 x4 x5 M → IX g s M H locs → lv_has ls 6 [(0, .ref (g.2.2.2 6)), (1, .ref (g.2.2.2 1)), (2, .int (i32 x2)), (3, .int (i32 x3)), (4, .int (i32 x4)), (5, .int (i32 x5))] → W p l e rmX6_putFirst s m args below meth c H locs 0 0 (QVX below args s g post) (F0 m 42 ls []) := by
  obtain ⟨⟨hx, hb, hml, hown, hts⟩, hr, hlk⟩ := id C
  intro n
  induction n with
  | zero =>
    intro x2 x3 x4 x5 h2 h3 h4 h5 M H locs ls hw
    exact hw.elim
  | succ n ih =>
    intro x2 x3 x4 x5 h2 h3 h4 h5 M H locs ls hw I hl
    refine lv_iload hx hb dX6_putFirst_42 (lv_at hl 5 rfl) ?_
    refine lv_sipush (v := i32 1000) hx hb dX6_putFirst_44 (by decide) ?_
    refine li_icmp_ge (tgt := 74) hx hb dX6_putFirst_47 (by decide) h5 (by decide) (fun c_1 => ?_) (fun c_1 => ?_)
    · replace hw := hw.1 c_1
      exact bX6_putFirst_74 C post k2 k12 hk2 hk12 x2 x3 h2 h3 _ _ _ _ hw I (lv_sub hl [0, 1, 2, 3] rfl)
    · replace hw := hw.2 c_1
      refine lv_aload_n hx hb dX6_putFirst_50 rfl (lv_at hl 0 rfl) ?_
      refine lv_aload_n hx hb dX6_putFirst_51 rfl (lv_at hl 1 rfl) ?_
      refine lv_iload_n hx hb dX6_putFirst_52 rfl (lv_at hl 2 rfl) ?_
      refine lv_iload_n hx hb dX6_putFirst_53 rfl (lv_at hl 3 rfl) ?_
      refine lv_iload hx hb dX6_putFirst_54 (lv_at hl 4 rfl) ?_
      refine g_callVi (o := 6) (As := [.ref (g.2.2.2 1), .int (i32 x2), .int (i32 x3), .int (i32 x4)]) (rest := []) ⟨hx, hb, hml, hown, hts⟩ I (mX6_findRing l g x2 x3 x4 h2 h3 h4 M _ _ hw) (cwV 4 hts (gd_V wm_X6_96 wi_X6_findRing wl_X6_findRing wn_X6 wc_X6_findRing) rfl rfl rfl wd_X6_findRing ⟨Nat.le_of_ble_eq_true rfl, Nat.le_of_ble_eq_true rfl⟩) (by omega) (by omega) obX_6 rfl rfl hl.1 rfl (Nat.le_of_ble_eq_true rfl) dX6_putFirst_56 ⟨Nat.zero_le _, Nat.zero_le _⟩ (fun r56_1 M56_1 H locs hr56_1 hw I => ?_)
      refine li_if_eq (tgt := 74) hx hb dX6_putFirst_59 (by decide) hr56_1 (fun c_3 => ?_) (fun c_3 => ?_)
      · replace hw := hw.1 c_3
        exact bX6_putFirst_74 C post k2 k12 hk2 hk12 x2 x3 h2 h3 _ _ _ _ hw I (lv_sub hl [0, 1, 2, 3] rfl)
      · replace hw := hw.2 c_3
        refine lv_aload_n hx hb dX6_putFirst_62 rfl (lv_at hl 0 rfl) ?_
        refine lv_iload_n hx hb dX6_putFirst_63 rfl (lv_at hl 2 rfl) ?_
        refine lv_iload_n hx hb dX6_putFirst_64 rfl (lv_at hl 3 rfl) ?_
        refine g_callVv (o := 6) (As := [.int (i32 x2), .int (i32 x3)]) (rest := []) ⟨hx, hb, hml, hown, hts⟩ I (mX6_turnRing l g x2 x3 h2 h3 M56_1 _ _ hw) (cwV 2 hts (gd_V wm_X6_100 wi_X6_turnRing wl_X6_turnRing wn_X6 wc_X6_turnRing) rfl rfl rfl wd_X6_turnRing ⟨Nat.le_of_ble_eq_true rfl, Nat.le_of_ble_eq_true rfl⟩) (by omega) (by omega) obX_6 rfl rfl hl.1 rfl (Nat.le_of_ble_eq_true rfl) dX6_putFirst_65 ⟨Nat.zero_le _, Nat.zero_le _⟩ (fun M65_3 H locs hw I => ?_)
        refine li_iinc (lv' := [(5, .int (i32 (x5 + 1))), (0, .ref (g.2.2.2 6)), (1, .ref (g.2.2.2 1)), (2, .int (i32 x2)), (3, .int (i32 x3)), (4, .int (i32 x4))]) hx hb dX6_putFirst_68 hl (k := 5) rfl (by decide) rfl (fun ls hl => ?_)
        refine lv_goto (tgt := 42) hx hb dX6_putFirst_71 (by decide) ?_
        obtain ⟨h_5, hw⟩ := hw
        exact ih x2 x3 x4 (x5 + 1) h2 h3 h4 h_5 _ _ _ _ hw I (lv_sub hl [1, 2, 3, 4, 5, 0] rfl)
set_option maxRecDepth 100000 in
set_option maxHeartbeats 4000000 in
theorem bX6_putFirst_12 {p : Program} {l : Launch} {e : Env} {s : State} {m : MethodId} {args : Array Value} {below : List Frame} {meth : Method} {c : Code} {g : GP} (C : Cx p m c cX6_putFirst 6 s args lw_g RX6 meth none) (post : Mem → Prop) (k2 : Int → Mem → Prop) (hk2 : ∀ (x2 : Int), inR x2 → ∀ (M : Mem) (H : Heap) (locs : List Loc) (ls : Array Slot), k2 x2 M → IX g s M H locs → lv_has ls 6 [(0, .ref (g.2.2.2 6)), (1, .ref (g.2.2.2 1)), (2, .int (i32 x2))] → W p l e rmX6_putFirst s m args below meth c H locs 0 0 (QVX below args s g post) (F0 m 2 ls [])) : ∀ (n : Nat), ∀ (x2 x3 : Int), inR x2 → inR x3 → ∀ (M : Mem) (H : Heap) (locs : List Loc) (ls : Array Slot), lpX6_putFirst_12 post k2 n x2 x3 M → IX g s M H locs → lv_has ls 6 [(0, .ref (g.2.2.2 6)), (1, .ref (g.2.2.2 1)), (2, .int (i32 x2)), (3, .int (i32 x3))] → W p l e rmX6_putFirst s m args below meth c H locs 0 0 (QVX below args s g post) (F0 m 12 ls []) := by
  obtain ⟨⟨hx, hb, hml, hown, hts⟩, hr, hlk⟩ := id C
  intro n
  induction n with
  | zero =>
    intro x2 x3 h2 h3 M H locs ls hw
    exact hw.elim
  | succ n ih =>
    intro x2 x3 h2 h3 M H locs ls hw I hl
    refine lv_iload_n hx hb dX6_putFirst_12 rfl (lv_at hl 3 rfl) ?_
    refine lv_aload_n hx hb dX6_putFirst_13 rfl (lv_at hl 1 rfl) ?_
    refine xg_1_0 hx hb hts wu_X3 hown I wf_X6_35 dX6_putFirst_14 ?_
    have h_1 := I.rng 1 0
    refine li_icmp_ge (tgt := 80) hx hb dX6_putFirst_17 (by decide) h3 h_1 (fun c_2 => ?_) (fun c_2 => ?_)
    · replace hw := hw.1 c_2
      refine li_iinc (lv' := [(2, .int (i32 (x2 + 1))), (0, .ref (g.2.2.2 6)), (1, .ref (g.2.2.2 1)), (3, .int (i32 x3))]) hx hb dX6_putFirst_80 hl (k := 2) rfl (by decide) rfl (fun ls hl => ?_)
      refine lv_goto (tgt := 2) hx hb dX6_putFirst_83 (by decide) ?_
      obtain ⟨h_3, hw⟩ := hw
      exact hk2 (x2 + 1) h_3 _ _ _ _ hw I (lv_sub hl [1, 2, 0] rfl)
    · replace hw := hw.2 c_2
      refine lv_aload_n hx hb dX6_putFirst_20 rfl (lv_at hl 0 rfl) ?_
      refine lv_aload_n hx hb dX6_putFirst_21 rfl (lv_at hl 1 rfl) ?_
      refine lv_iload_n hx hb dX6_putFirst_22 rfl (lv_at hl 2 rfl) ?_
      refine lv_iload_n hx hb dX6_putFirst_23 rfl (lv_at hl 3 rfl) ?_
      refine g_callVi (o := 6) (As := [.ref (g.2.2.2 1), .int (i32 x2), .int (i32 x3)]) (rest := []) ⟨hx, hb, hml, hown, hts⟩ I (mX6_isTight l g x2 x3 h2 h3 M _ _ hw) (cwV 3 hts (gd_V wm_X6_89 wi_X6_isTight wl_X6_isTight wn_X6 wc_X6_isTight) rfl rfl rfl wd_X6_isTight ⟨Nat.le_of_ble_eq_true rfl, Nat.le_of_ble_eq_true rfl⟩) (by omega) (by omega) obX_6 rfl rfl hl.1 rfl (Nat.le_of_ble_eq_true rfl) dX6_putFirst_24 ⟨Nat.zero_le _, Nat.zero_le _⟩ (fun r24_3 M24_3 H locs hr24_3 hw I => ?_)
      refine li_if_eq (tgt := 74) hx hb dX6_putFirst_27 (by decide) hr24_3 (fun c_5 => ?_) (fun c_5 => ?_)
      · replace hw := hw.1 c_5
        exact bX6_putFirst_74 C post k2 (fun y2 y3 N => lpX6_putFirst_12 post k2 n y2 y3 N) hk2 ih x2 x3 h2 h3 _ _ _ _ hw I (lv_sub hl [0, 1, 2, 3] rfl)
      · replace hw := hw.2 c_5
        refine lv_iload_n hx hb dX6_putFirst_30 rfl (lv_at hl 2 rfl) ?_
        refine lv_iload_n hx hb dX6_putFirst_31 rfl (lv_at hl 3 rfl) ?_
        refine g_callSi (As := [.int (i32 x2), .int (i32 x3)]) (rest := []) ⟨hx, hb, hml, hown, hts⟩ I (mX6_cell l g x2 x3 h2 h3 M24_3 _ _ hw) (va_cwS 2 hts (gd_S wm_X6_93 wa_X6_cell wn_X6 wc_X6_cell) rfl rfl rfl wd_X6_cell ⟨Nat.le_of_ble_eq_true rfl, Nat.le_of_ble_eq_true rfl⟩) rfl hl.1 rfl (Nat.le_of_ble_eq_true rfl) dX6_putFirst_32 ⟨Nat.zero_le _, Nat.zero_le _⟩ (fun r32_5 M32_5 H locs hr32_5 hw I => ?_)
        refine li_iconst hx hb dX6_putFirst_35 ?_
        refine li_iadd hx hb dX6_putFirst_36 ?_
        obtain ⟨h_7, hw⟩ := hw
        refine li_name (fun v37_7 ev37_7 => ?_)
        replace hw := hw v37_7 ev37_7
        have hv37_7 : inR v37_7 := ev37_7 ▸ h_7
        refine lv_istore (lv' := [(4, .int (i32 v37_7)), (0, .ref (g.2.2.2 6)), (1, .ref (g.2.2.2 1)), (2, .int (i32 x2)), (3, .int (i32 x3))]) hx hb dX6_putFirst_37 hl (by decide) rfl (fun ls hl => ?_)
        refine li_iconst hx hb dX6_putFirst_39 ?_
        refine lv_istore (lv' := [(5, .int (i32 0)), (4, .int (i32 v37_7)), (0, .ref (g.2.2.2 6)), (1, .ref (g.2.2.2 1)), (2, .int (i32 x2)), (3, .int (i32 x3))]) hx hb dX6_putFirst_40 hl (by decide) rfl (fun ls hl => ?_)
        obtain ⟨n1, hw⟩ := hw
        exact bX6_putFirst_42 C post k2 (fun y2 y3 N => lpX6_putFirst_12 post k2 n y2 y3 N) hk2 ih n1 x2 x3 v37_7 0 h2 h3 hv37_7 (by decide) _ _ _ _ hw I (lv_sub hl [2, 3, 4, 5, 1, 0] rfl)
set_option maxRecDepth 100000 in
set_option maxHeartbeats 4000000 in
theorem bX6_putFirst_2 {p : Program} {l : Launch} {e : Env} {s : State} {m : MethodId} {args : Array Value} {below : List Frame} {meth : Method} {c : Code} {g : GP} (C : Cx p m c cX6_putFirst 6 s args lw_g RX6 meth none) (post : Mem → Prop) : ∀ (n : Nat), ∀ (x2 : Int), inR x2 → ∀ (M : Mem) (H : Heap) (locs : List Loc) (ls : Array Slot), lpX6_putFirst_2 post n x2 M → IX g s M H locs → lv_has ls 6 [(0, .ref (g.2.2.2 6)), (1, .ref (g.2.2.2 1)), (2, .int (i32 x2))] → W p l e rmX6_putFirst s m args below meth c H locs 0 0 (QVX below args s g post) (F0 m 2 ls []) := by
  obtain ⟨⟨hx, hb, hml, hown, hts⟩, hr, hlk⟩ := id C
  intro n
  induction n with
  | zero =>
    intro x2 h2 M H locs ls hw
    exact hw.elim
  | succ n ih =>
    intro x2 h2 M H locs ls hw I hl
    refine lv_iload_n hx hb dX6_putFirst_2 rfl (lv_at hl 2 rfl) ?_
    refine lv_aload_n hx hb dX6_putFirst_3 rfl (lv_at hl 1 rfl) ?_
    refine xg_1_0 hx hb hts wu_X3 hown I wf_X6_35 dX6_putFirst_4 ?_
    have h_1 := I.rng 1 0
    refine li_icmp_ge (tgt := 86) hx hb dX6_putFirst_7 (by decide) h2 h_1 (fun c_2 => ?_) (fun c_2 => ?_)
    · replace hw := hw.1 c_2
      exact g_vret hx hb hr hlk I hw dX6_putFirst_86
    · replace hw := hw.2 c_2
      refine li_iconst hx hb dX6_putFirst_10 ?_
      refine lv_istore_n (lv' := [(3, .int (i32 0)), (0, .ref (g.2.2.2 6)), (1, .ref (g.2.2.2 1)), (2, .int (i32 x2))]) hx hb dX6_putFirst_11 rfl hl (by decide) rfl (fun ls hl => ?_)
      obtain ⟨n1, hw⟩ := hw
      exact bX6_putFirst_12 C post (fun y2 N => lpX6_putFirst_2 post n y2 N) ih n1 x2 0 h2 (by decide) _ _ _ _ hw I (lv_sub hl [1, 2, 3, 0] rfl)
set_option maxRecDepth 100000 in
set_option maxHeartbeats 4000000 in
theorem mX6_putFirst (l : Launch) (g : GP) (M : Mem) (post : Mem → Prop) (sz : Nat) (hw : wpX6_putFirst M post) : MVX l yX6_putFirst wtX6_putFirst rmX6_putFirst g [.ref (g.2.2.2 6), .ref (g.2.2.2 1)] M sz post := by
  refine Met.ofW (cc := cX6_putFirst) (maxL := 6) (ret := none) (by decide) rfl ?_
  intro p e s m args below meth c s₁ B hml hv
  obtain ⟨rfl, hpre⟩ := hv
  have hsz := hpre.1
  subst hsz
  have C : Cx p m c cX6_putFirst 6 s _ lw_g RX6 meth none := ⟨⟨B.exec, B.bytes, hml, findClass_of_methodNamed B.named, fun w h => atoms_spec (ws := wtX6_putFirst) B.pre w (List.mem_cons_of_mem _ h)⟩, B.returns, B.notSynchronized⟩
  obtain ⟨⟨hx, hb, hml, hown, hts⟩, hr, hlk⟩ := id C
  have I := InG.start hpre
  have hl := lv_entry ([.ref (g.2.2.2 6), .ref (g.2.2.2 1)]) (n := 6) (Nat.le_of_ble_eq_true rfl)
  rw [lg_entry_eq]
  generalize (lg_sl ([.ref (g.2.2.2 6), .ref (g.2.2.2 1)]) ++ List.replicate (6 - (lg_sl ([.ref (g.2.2.2 6), .ref (g.2.2.2 1)])).length) Slot.unset).toArray = ls at hl ⊢
  have hl : lv_has ls 6 [(0, .ref (g.2.2.2 6)), (1, .ref (g.2.2.2 1))] := hl
  show W p l e rmX6_putFirst s m _ below meth c s.heap [] 0 0 (QVX below _ s g post) _
  refine li_iconst hx hb dX6_putFirst_0 ?_
  refine lv_istore_n (lv' := [(2, .int (i32 0)), (0, .ref (g.2.2.2 6)), (1, .ref (g.2.2.2 1))]) hx hb dX6_putFirst_1 rfl hl (by decide) rfl (fun ls hl => ?_)
  obtain ⟨n1, hw⟩ := hw
  exact bX6_putFirst_2 C post n1 0 (by decide) _ _ _ _ hw I (lv_sub hl [1, 2, 0] rfl)
abbrev rmX6_make : Room := { frames := 4, cells := 0, slots := 0, locals := 103 }
abbrev wtX6_make : List Cond := Cond.code yX6_make cX6_make 6 none :: lw_g
set_option maxRecDepth 100000 in
set_option maxHeartbeats 4000000 in
theorem mX6_make (l : Launch) (g : GP) (r3 : Int) (r4 : Int) (a5 : Int) (ha5 : inR a5) (M : Mem) (post : Mem → Prop) (sz : Nat) (hw : wpX6_make r3 r4 a5 M post) : MVX l yX6_make wtX6_make rmX6_make g [.ref (g.2.2.2 6), .ref (g.2.2.2 1), .ref (g.2.2.2 5), .ref (g.2.2.2 r3), .ref (g.2.2.2 r4), .int (i32 a5)] M sz post := by
  refine Met.ofW (cc := cX6_make) (maxL := 6) (ret := none) (by decide) rfl ?_
  intro p e s m args below meth c s₁ B hml hv
  obtain ⟨rfl, hpre⟩ := hv
  have hsz := hpre.1
  subst hsz
  have C : Cx p m c cX6_make 6 s _ lw_g RX6 meth none := ⟨⟨B.exec, B.bytes, hml, findClass_of_methodNamed B.named, fun w h => atoms_spec (ws := wtX6_make) B.pre w (List.mem_cons_of_mem _ h)⟩, B.returns, B.notSynchronized⟩
  obtain ⟨⟨hx, hb, hml, hown, hts⟩, hr, hlk⟩ := id C
  have I := InG.start hpre
  have hl := lv_entry ([.ref (g.2.2.2 6), .ref (g.2.2.2 1), .ref (g.2.2.2 5), .ref (g.2.2.2 r3), .ref (g.2.2.2 r4), .int (i32 a5)]) (n := 6) (Nat.le_of_ble_eq_true rfl)
  rw [lg_entry_eq]
  generalize (lg_sl ([.ref (g.2.2.2 6), .ref (g.2.2.2 1), .ref (g.2.2.2 5), .ref (g.2.2.2 r3), .ref (g.2.2.2 r4), .int (i32 a5)]) ++ List.replicate (6 - (lg_sl ([.ref (g.2.2.2 6), .ref (g.2.2.2 1), .ref (g.2.2.2 5), .ref (g.2.2.2 r3), .ref (g.2.2.2 r4), .int (i32 a5)])).length) Slot.unset).toArray = ls at hl ⊢
  have hl : lv_has ls 6 [(0, .ref (g.2.2.2 6)), (1, .ref (g.2.2.2 1)), (2, .ref (g.2.2.2 5)), (3, .ref (g.2.2.2 r3)), (4, .ref (g.2.2.2 r4)), (5, .int (i32 a5))] := hl
  show W p l e rmX6_make s m _ below meth c s.heap [] 0 0 (QVX below _ s g post) _
  refine lv_aload_n hx hb dX6_make_0 rfl (lv_at hl 2 rfl) ?_
  refine lv_aload_n hx hb dX6_make_1 rfl (lv_at hl 1 rfl) ?_
  refine lv_aload_n hx hb dX6_make_2 rfl (lv_at hl 3 rfl) ?_
  refine lv_aload hx hb dX6_make_3 (lv_at hl 4 rfl) ?_
  refine lv_iload hx hb dX6_make_5 (lv_at hl 5 rfl) ?_
  refine g_callVi (o := 5) (As := [.ref (g.2.2.2 1), .ref (g.2.2.2 r3), .ref (g.2.2.2 r4), .int (i32 a5)]) (rest := []) ⟨hx, hb, hml, hown, hts⟩ I (mX4_cheapest l g r3 r4 a5 ha5 M _ _ hw) (cwV 4 hts (gd_V wm_X6_29 wi_X4_cheapest wl_X4_cheapest wn_X4 wc_X4_cheapest) rfl rfl rfl wd_X4_cheapest ⟨Nat.le_of_ble_eq_true rfl, Nat.le_of_ble_eq_true rfl⟩) (by omega) (by omega) obX_5 rfl rfl hl.1 rfl (Nat.le_of_ble_eq_true rfl) dX6_make_7 ⟨Nat.zero_le _, Nat.zero_le _⟩ (fun r7_0 M7_0 H locs hr7_0 hw I => ?_)
  refine lv_pop hx hb dX6_make_10 rfl ?_
  refine lv_aload_n hx hb dX6_make_11 rfl (lv_at hl 0 rfl) ?_
  refine lv_aload_n hx hb dX6_make_12 rfl (lv_at hl 1 rfl) ?_
  refine xg_1_0 hx hb hts wu_X3 hown I wf_X6_35 dX6_make_13 ?_
  have h_2 := I.rng 1 0
  refine lv_aload_n hx hb dX6_make_16 rfl (lv_at hl 2 rfl) ?_
  refine xg_5_0 hx hb hts wu_X4 hown I wf_X6_41 dX6_make_17 ?_
  refine lv_aload_n hx hb dX6_make_20 rfl (lv_at hl 3 rfl) ?_
  refine lv_aload hx hb dX6_make_21 (lv_at hl 4 rfl) ?_
  refine g_callVv (o := 6) (As := [.int (i32 (M7_0 1 0)), .ref (g.2.2.2 (8 + 0)), .ref (g.2.2.2 r3), .ref (g.2.2.2 r4)]) (rest := []) ⟨hx, hb, hml, hown, hts⟩ I (mX6_takeGoods l g r3 r4 (M7_0 1 0) h_2 M7_0 _ _ hw) (cwV 4 hts (gd_V wm_X6_45 wi_X6_takeGoods wl_X6_takeGoods wn_X6 wc_X6_takeGoods) rfl rfl rfl wd_X6_takeGoods ⟨Nat.le_of_ble_eq_true rfl, Nat.le_of_ble_eq_true rfl⟩) (by omega) (by omega) obX_6 rfl rfl hl.1 rfl (Nat.le_of_ble_eq_true rfl) dX6_make_23 ⟨Nat.zero_le _, Nat.zero_le _⟩ (fun M23_2 H locs hw I => ?_)
  refine lv_aload_n hx hb dX6_make_26 rfl (lv_at hl 0 rfl) ?_
  refine lv_aload_n hx hb dX6_make_27 rfl (lv_at hl 1 rfl) ?_
  refine g_callVv (o := 6) (As := [.ref (g.2.2.2 1)]) (rest := []) ⟨hx, hb, hml, hown, hts⟩ I (mX6_raiseHeights l g M23_2 _ _ hw) (cwV 1 hts (gd_V wm_X6_49 wi_X6_raiseHeights wl_X6_raiseHeights wn_X6 wc_X6_raiseHeights) rfl rfl rfl wd_X6_raiseHeights ⟨Nat.le_of_ble_eq_true rfl, Nat.le_of_ble_eq_true rfl⟩) (by omega) (by omega) obX_6 rfl rfl hl.1 rfl (Nat.le_of_ble_eq_true rfl) dX6_make_28 ⟨Nat.zero_le _, Nat.zero_le _⟩ (fun M28_3 H locs hw I => ?_)
  refine lv_aload_n hx hb dX6_make_31 rfl (lv_at hl 0 rfl) ?_
  refine lv_aload_n hx hb dX6_make_32 rfl (lv_at hl 1 rfl) ?_
  refine g_callVv (o := 6) (As := [.ref (g.2.2.2 1)]) (rest := []) ⟨hx, hb, hml, hown, hts⟩ I (mX6_putFirst l g M28_3 _ _ hw) (cwV 1 hts (gd_V wm_X6_53 wi_X6_putFirst wl_X6_putFirst wn_X6 wc_X6_putFirst) rfl rfl rfl wd_X6_putFirst ⟨Nat.le_of_ble_eq_true rfl, Nat.le_of_ble_eq_true rfl⟩) (by omega) (by omega) obX_6 rfl rfl hl.1 rfl (Nat.le_of_ble_eq_true rfl) dX6_make_33 ⟨Nat.zero_le _, Nat.zero_le _⟩ (fun M33_4 H locs hw I => ?_)
  exact g_vret hx hb hr hlk I hw dX6_make_36
abbrev rmX6_hasOther : Room := { frames := 3, cells := 0, slots := 0, locals := 78 }
abbrev wtX6_hasOther : List Cond := Cond.code yX6_hasOther cX6_hasOther 4 (some .boolean) :: lw_g
set_option maxRecDepth 100000 in
set_option maxHeartbeats 4000000 in
theorem bX6_hasOther_43 {p : Program} {l : Launch} {e : Env} {s : State} {m : MethodId} {args : Array Value} {below : List Frame} {meth : Method} {c : Code} {g : GP} (C : Cx p m c cX6_hasOther 4 s args lw_g RX6 meth (some .boolean)) (post : Int → Mem → Prop) (k2 : Int → Mem → Prop) (k12 : Int → Int → Mem → Prop) (hk2 : ∀ (x2 : Int), inR x2 → ∀ (M : Mem) (H : Heap) (locs : List Loc) (ls : Array Slot), k2 x2 M → IX g s M H locs → lv_has ls 4 [(0, .ref (g.2.2.2 6)), (1, .ref (g.2.2.2 1)), (2, .int (i32 x2))] → W p l e rmX6_hasOther s m args below meth c H locs 0 0 (QIX below args s g post) (F0 m 2 ls [])) (hk12 : ∀ (x2 x3 : Int), inR x2 → inR x3 → ∀ (M : Mem) (H : Heap) (locs : List Loc) (ls : Array Slot), k12 x2 x3 M → IX g s M H locs → lv_has ls 4 [(0, .ref (g.2.2.2 6)), (1, .ref (g.2.2.2 1)), (2, .int (i32 x2)), (3, .int (i32 x3))] → W p l e rmX6_hasOther s m args below meth c H locs 0 0 (QIX below args s g post) (F0 m 12 ls [])) : ∀ (x2 x3 : Int), inR x2 → inR x3 → ∀ (M : Mem) (H : Heap) (locs : List Loc) (ls : Array Slot), jbX6_hasOther_43 post k2 k12 x2 x3 M → IX g s M H locs → lv_has ls 4 [(0, .ref (g.2.2.2 6)), (1, .ref (g.2.2.2 1)), (2, .int (i32 x2)), (3, .int (i32 x3))] → W p l e rmX6_hasOther s m args below meth c H locs 0 0 (QIX below args s g post) (F0 m 43 ls []) := by
  obtain ⟨⟨hx, hb, hml, hown, hts⟩, hr, hlk⟩ := id C
  intro x2 x3 h2 h3 M H locs ls hw I hl
  refine li_iinc (lv' := [(3, .int (i32 (x3 + 1))), (0, .ref (g.2.2.2 6)), (1, .ref (g.2.2.2 1)), (2, .int (i32 x2))]) hx hb dX6_hasOther_43 hl (k := 3) rfl (by decide) rfl (fun ls hl => ?_)
  refine lv_goto (tgt := 12) hx hb dX6_hasOther_46 (by decide) ?_
  obtain ⟨h_1, hw⟩ := hw
  exact hk12 x2 (x3 + 1) h2 h_1 _ _ _ _ hw I (lv_sub hl [1, 2, 3, 0] rfl)
set_option maxRecDepth 100000 in
set_option maxHeartbeats 4000000 in
theorem bX6_hasOther_12 {p : Program} {l : Launch} {e : Env} {s : State} {m : MethodId} {args : Array Value} {below : List Frame} {meth : Method} {c : Code} {g : GP} (C : Cx p m c cX6_hasOther 4 s args lw_g RX6 meth (some .boolean)) (post : Int → Mem → Prop) (k2 : Int → Mem → Prop) (hk2 : ∀ (x2 : Int), inR x2 → ∀ (M : Mem) (H : Heap) (locs : List Loc) (ls : Array Slot), k2 x2 M → IX g s M H locs → lv_has ls 4 [(0, .ref (g.2.2.2 6)), (1, .ref (g.2.2.2 1)), (2, .int (i32 x2))] → W p l e rmX6_hasOther s m args below meth c H locs 0 0 (QIX below args s g post) (F0 m 2 ls [])) : ∀ (n : Nat), ∀ (x2 x3 : Int), inR x2 → inR x3 → ∀ (M : Mem) (H : Heap) (locs : List Loc) (ls : Array Slot), lpX6_hasOther_12 post k2 n x2 x3 M → IX g s M H locs → lv_has ls 4 [(0, .ref (g.2.2.2 6)), (1, .ref (g.2.2.2 1)), (2, .int (i32 x2)), (3, .int (i32 x3))] → W p l e rmX6_hasOther s m args below meth c H locs 0 0 (QIX below args s g post) (F0 m 12 ls []) := by
  obtain ⟨⟨hx, hb, hml, hown, hts⟩, hr, hlk⟩ := id C
  intro n
  induction n with
  | zero =>
    intro x2 x3 h2 h3 M H locs ls hw
    exact hw.elim
  | succ n ih =>
    intro x2 x3 h2 h3 M H locs ls hw I hl
    refine lv_iload_n hx hb dX6_hasOther_12 rfl (lv_at hl 3 rfl) ?_
    refine lv_aload_n hx hb dX6_hasOther_13 rfl (lv_at hl 1 rfl) ?_
    refine xg_1_0 hx hb hts wu_X3 hown I wf_X6_35 dX6_hasOther_14 ?_
    have h_1 := I.rng 1 0
    refine li_icmp_ge (tgt := 49) hx hb dX6_hasOther_17 (by decide) h3 h_1 (fun c_2 => ?_) (fun c_2 => ?_)
    · replace hw := hw.1 c_2
      refine li_iinc (lv' := [(2, .int (i32 (x2 + 1))), (0, .ref (g.2.2.2 6)), (1, .ref (g.2.2.2 1)), (3, .int (i32 x3))]) hx hb dX6_hasOther_49 hl (k := 2) rfl (by decide) rfl (fun ls hl => ?_)
      refine lv_goto (tgt := 2) hx hb dX6_hasOther_52 (by decide) ?_
      obtain ⟨h_3, hw⟩ := hw
      exact hk2 (x2 + 1) h_3 _ _ _ _ hw I (lv_sub hl [1, 2, 0] rfl)
    · replace hw := hw.2 c_2
      refine lv_aload_n hx hb dX6_hasOther_20 rfl (lv_at hl 0 rfl) ?_
      refine lv_aload_n hx hb dX6_hasOther_21 rfl (lv_at hl 1 rfl) ?_
      refine lv_iload_n hx hb dX6_hasOther_22 rfl (lv_at hl 2 rfl) ?_
      refine lv_iload_n hx hb dX6_hasOther_23 rfl (lv_at hl 3 rfl) ?_
      refine g_callVi (o := 6) (As := [.ref (g.2.2.2 1), .int (i32 x2), .int (i32 x3)]) (rest := []) ⟨hx, hb, hml, hown, hts⟩ I (mX6_isTight l g x2 x3 h2 h3 M _ _ hw) (cwV 3 hts (gd_V wm_X6_89 wi_X6_isTight wl_X6_isTight wn_X6 wc_X6_isTight) rfl rfl rfl wd_X6_isTight ⟨Nat.le_of_ble_eq_true rfl, Nat.le_of_ble_eq_true rfl⟩) (by omega) (by omega) obX_6 rfl rfl hl.1 rfl (Nat.le_of_ble_eq_true rfl) dX6_hasOther_24 ⟨Nat.zero_le _, Nat.zero_le _⟩ (fun r24_3 M24_3 H locs hr24_3 hw I => ?_)
      refine li_if_eq (tgt := 43) hx hb dX6_hasOther_27 (by decide) hr24_3 (fun c_5 => ?_) (fun c_5 => ?_)
      · replace hw := hw.1 c_5
        exact bX6_hasOther_43 C post k2 (fun y2 y3 N => lpX6_hasOther_12 post k2 n y2 y3 N) hk2 ih x2 x3 h2 h3 _ _ _ _ hw I (lv_sub hl [0, 1, 2, 3] rfl)
      · replace hw := hw.2 c_5
        refine lv_aload_n hx hb dX6_hasOther_30 rfl (lv_at hl 0 rfl) ?_
        refine lv_aload_n hx hb dX6_hasOther_31 rfl (lv_at hl 1 rfl) ?_
        refine lv_iload_n hx hb dX6_hasOther_32 rfl (lv_at hl 2 rfl) ?_
        refine lv_iload_n hx hb dX6_hasOther_33 rfl (lv_at hl 3 rfl) ?_
        refine li_iconst hx hb dX6_hasOther_34 ?_
        refine g_callVi (o := 6) (As := [.ref (g.2.2.2 1), .int (i32 x2), .int (i32 x3), .int (i32 0)]) (rest := []) ⟨hx, hb, hml, hown, hts⟩ I (mX6_findRing l g x2 x3 0 h2 h3 (by decide) M24_3 _ _ hw) (cwV 4 hts (gd_V wm_X6_96 wi_X6_findRing wl_X6_findRing wn_X6 wc_X6_findRing) rfl rfl rfl wd_X6_findRing ⟨Nat.le_of_ble_eq_true rfl, Nat.le_of_ble_eq_true rfl⟩) (by omega) (by omega) obX_6 rfl rfl hl.1 rfl (Nat.le_of_ble_eq_true rfl) dX6_hasOther_35 ⟨Nat.zero_le _, Nat.zero_le _⟩ (fun r35_5 M35_5 H locs hr35_5 hw I => ?_)
        refine li_if_eq (tgt := 43) hx hb dX6_hasOther_38 (by decide) hr35_5 (fun c_7 => ?_) (fun c_7 => ?_)
        · replace hw := hw.1 c_7
          exact bX6_hasOther_43 C post k2 (fun y2 y3 N => lpX6_hasOther_12 post k2 n y2 y3 N) hk2 ih x2 x3 h2 h3 _ _ _ _ hw I (lv_sub hl [0, 1, 2, 3] rfl)
        · replace hw := hw.2 c_7
          refine li_iconst hx hb dX6_hasOther_41 ?_
          exact g_zret hx hb hr hlk I (Or.inr rfl) hw dX6_hasOther_42
set_option maxRecDepth 100000 in
set_option maxHeartbeats 4000000 in
theorem bX6_hasOther_2 {p : Program} {l : Launch} {e : Env} {s : State} {m : MethodId} {args : Array Value} {below : List Frame} {meth : Method} {c : Code} {g : GP} (C : Cx p m c cX6_hasOther 4 s args lw_g RX6 meth (some .boolean)) (post : Int → Mem → Prop) : ∀ (n : Nat), ∀ (x2 : Int), inR x2 → ∀ (M : Mem) (H : Heap) (locs : List Loc) (ls : Array Slot), lpX6_hasOther_2 post n x2 M → IX g s M H locs → lv_has ls 4 [(0, .ref (g.2.2.2 6)), (1, .ref (g.2.2.2 1)), (2, .int (i32 x2))] → W p l e rmX6_hasOther s m args below meth c H locs 0 0 (QIX below args s g post) (F0 m 2 ls []) := by
  obtain ⟨⟨hx, hb, hml, hown, hts⟩, hr, hlk⟩ := id C
  intro n
  induction n with
  | zero =>
    intro x2 h2 M H locs ls hw
    exact hw.elim
  | succ n ih =>
    intro x2 h2 M H locs ls hw I hl
    refine lv_iload_n hx hb dX6_hasOther_2 rfl (lv_at hl 2 rfl) ?_
    refine lv_aload_n hx hb dX6_hasOther_3 rfl (lv_at hl 1 rfl) ?_
    refine xg_1_0 hx hb hts wu_X3 hown I wf_X6_35 dX6_hasOther_4 ?_
    have h_1 := I.rng 1 0
    refine li_icmp_ge (tgt := 55) hx hb dX6_hasOther_7 (by decide) h2 h_1 (fun c_2 => ?_) (fun c_2 => ?_)
    · replace hw := hw.1 c_2
      refine li_iconst hx hb dX6_hasOther_55 ?_
      exact g_zret hx hb hr hlk I (Or.inl rfl) hw dX6_hasOther_56
    · replace hw := hw.2 c_2
      refine li_iconst hx hb dX6_hasOther_10 ?_
      refine lv_istore_n (lv' := [(3, .int (i32 0)), (0, .ref (g.2.2.2 6)), (1, .ref (g.2.2.2 1)), (2, .int (i32 x2))]) hx hb dX6_hasOther_11 rfl hl (by decide) rfl (fun ls hl => ?_)
      obtain ⟨n1, hw⟩ := hw
      exact bX6_hasOther_12 C post (fun y2 N => lpX6_hasOther_2 post n y2 N) ih n1 x2 0 h2 (by decide) _ _ _ _ hw I (lv_sub hl [1, 2, 3, 0] rfl)
set_option maxRecDepth 100000 in
set_option maxHeartbeats 4000000 in
theorem mX6_hasOther (l : Launch) (g : GP) (M : Mem) (post : Int → Mem → Prop) (sz : Nat) (hw : wpX6_hasOther M post) : MIX l yX6_hasOther wtX6_hasOther rmX6_hasOther g [.ref (g.2.2.2 6), .ref (g.2.2.2 1)] M sz post := by
  refine Met.ofW (cc := cX6_hasOther) (maxL := 4) (ret := (some .boolean)) (by decide) rfl ?_
  intro p e s m args below meth c s₁ B hml hv
  obtain ⟨rfl, hpre⟩ := hv
  have hsz := hpre.1
  subst hsz
  have C : Cx p m c cX6_hasOther 4 s _ lw_g RX6 meth (some .boolean) := ⟨⟨B.exec, B.bytes, hml, findClass_of_methodNamed B.named, fun w h => atoms_spec (ws := wtX6_hasOther) B.pre w (List.mem_cons_of_mem _ h)⟩, B.returns, B.notSynchronized⟩
  obtain ⟨⟨hx, hb, hml, hown, hts⟩, hr, hlk⟩ := id C
  have I := InG.start hpre
  have hl := lv_entry ([.ref (g.2.2.2 6), .ref (g.2.2.2 1)]) (n := 4) (Nat.le_of_ble_eq_true rfl)
  rw [lg_entry_eq]
  generalize (lg_sl ([.ref (g.2.2.2 6), .ref (g.2.2.2 1)]) ++ List.replicate (4 - (lg_sl ([.ref (g.2.2.2 6), .ref (g.2.2.2 1)])).length) Slot.unset).toArray = ls at hl ⊢
  have hl : lv_has ls 4 [(0, .ref (g.2.2.2 6)), (1, .ref (g.2.2.2 1))] := hl
  show W p l e rmX6_hasOther s m _ below meth c s.heap [] 0 0 (QIX below _ s g post) _
  refine li_iconst hx hb dX6_hasOther_0 ?_
  refine lv_istore_n (lv' := [(2, .int (i32 0)), (0, .ref (g.2.2.2 6)), (1, .ref (g.2.2.2 1))]) hx hb dX6_hasOther_1 rfl hl (by decide) rfl (fun ls hl => ?_)
  obtain ⟨n1, hw⟩ := hw
  exact bX6_hasOther_2 C post n1 0 (by decide) _ _ _ _ hw I (lv_sub hl [1, 2, 0] rfl)
abbrev rmX6_passes : Room := { frames := 1, cells := 0, slots := 0, locals := 23 }
abbrev wtX6_passes : List Cond := Cond.code yX6_passes cX6_passes 6 (some .boolean) :: lw_g
set_option maxRecDepth 100000 in
set_option maxHeartbeats 4000000 in
theorem bX6_passes_42 {p : Program} {l : Launch} {e : Env} {s : State} {m : MethodId} {args : Array Value} {below : List Frame} {meth : Method} {c : Code} {g : GP} (C : Cx p m c cX6_passes 6 s args lw_g RX6 meth (some .boolean)) (post : Int → Mem → Prop) : ∀ (M : Mem) (H : Heap) (locs : List Loc) (ls : Array Slot), jbX6_passes_42 post  M → IX g s M H locs → lv_has ls 6 [(0, .ref (g.2.2.2 1))] → W p l e rmX6_passes s m args below meth c H locs 0 0 (QIX below args s g post) (F0 m 42 ls []) := by
  obtain ⟨⟨hx, hb, hml, hown, hts⟩, hr, hlk⟩ := id C
  intro M H locs ls hw I hl
  refine li_iconst hx hb dX6_passes_42 ?_
  exact g_zret hx hb hr hlk I (Or.inl rfl) hw dX6_passes_43
set_option maxRecDepth 100000 in
set_option maxHeartbeats 4000000 in
theorem bX6_passes_6 {p : Program} {l : Launch} {e : Env} {s : State} {m : MethodId} {args : Array Value} {below : List Frame} {meth : Method} {c : Code} {g : GP} (C : Cx p m c cX6_passes 6 s args lw_g RX6 meth (some .boolean)) (post : Int → Mem → Prop) : ∀ (n : Nat), ∀ (x2 x3 x4 x5 : Int), inR x2 → inR x3 → inR x4 → inR x5 → ∀ (M : Mem) (H : Heap) (locs : List Loc) (ls : Array Slot), lpX6_passes_6 post n x2 x3 x4 x5 M → IX g s M H locs → lv_has ls 6 [(0, .ref (g.2.2.2 1)), (2, .int (i32 x2)), (3, .int (i32 x3)), (4, .int (i32 x4)), (5, .int (i32 x5))] → W p l e rmX6_passes s m args below meth c H locs 0 0 (QIX below args s g post) (F0 m 6 ls []) := by
  obtain ⟨⟨hx, hb, hml, hown, hts⟩, hr, hlk⟩ := id C
  intro n
  induction n with
  | zero =>
    intro x2 x3 x4 x5 h2 h3 h4 h5 M H locs ls hw
    exact hw.elim
  | succ n ih =>
    intro x2 x3 x4 x5 h2 h3 h4 h5 M H locs ls hw I hl
    refine lv_iload hx hb dX6_passes_6 (lv_at hl 4 rfl) ?_
    refine lv_bipush (v := i32 10) hx hb dX6_passes_8 (by decide) ?_
    refine li_icmp_ge (tgt := 42) hx hb dX6_passes_10 (by decide) h5 (by decide) (fun c_1 => ?_) (fun c_1 => ?_)
    · replace hw := hw.1 c_1
      exact bX6_passes_42 C post _ _ _ _ hw I (lv_sub hl [0] rfl)
    · replace hw := hw.2 c_1
      refine lv_iload hx hb dX6_passes_13 (lv_at hl 3 rfl) ?_
      refine li_iconst hx hb dX6_passes_15 ?_
      refine li_icmp_eq (tgt := 42) hx hb dX6_passes_16 (by decide) h4 (by decide) (fun c_2 => ?_) (fun c_2 => ?_)
      · replace hw := hw.1 c_2
        exact bX6_passes_42 C post _ _ _ _ hw I (lv_sub hl [0] rfl)
      · replace hw := hw.2 c_2
        refine lv_iload hx hb dX6_passes_19 (lv_at hl 3 rfl) ?_
        refine lv_iload_n hx hb dX6_passes_21 rfl (lv_at hl 2 rfl) ?_
        refine li_icmp_ne (tgt := 27) hx hb dX6_passes_22 (by decide) h4 h3 (fun c_3 => ?_) (fun c_3 => ?_)
        · replace hw := hw.1 c_3
          refine lv_aload_n hx hb dX6_passes_27 rfl (lv_at hl 0 rfl) ?_
          refine lv_iload hx hb dX6_passes_28 (lv_at hl 3 rfl) ?_
          refine lv_iload_n hx hb dX6_passes_30 rfl (lv_at hl 1 rfl) ?_
          refine g_callVi (o := 1) (As := [.int (i32 x4), .int (i32 x2)]) (rest := []) ⟨hx, hb, hml, hown, hts⟩ I (mX3_placeBehind l g x4 x2 h4 h2 M _ _ hw) (cwV 2 hts (gd_V wm_X6_111 wi_X3_placeBehind wl_X3_placeBehind wn_X3 wc_X3_placeBehind) rfl rfl rfl wd_X3_placeBehind ⟨Nat.le_of_ble_eq_true rfl, Nat.le_of_ble_eq_true rfl⟩) (by omega) (by omega) obX_1 rfl rfl hl.1 rfl (Nat.le_of_ble_eq_true rfl) dX6_passes_31 ⟨Nat.zero_le _, Nat.zero_le _⟩ (fun r31_3 M31_3 H locs hr31_3 hw I => ?_)
          refine lv_istore (lv' := [(4, .int (i32 r31_3)), (0, .ref (g.2.2.2 1)), (2, .int (i32 x2)), (3, .int (i32 x3)), (5, .int (i32 x5))]) hx hb dX6_passes_34 hl (by decide) rfl (fun ls hl => ?_)
          refine li_iinc (lv' := [(5, .int (i32 (x5 + 1))), (4, .int (i32 r31_3)), (0, .ref (g.2.2.2 1)), (2, .int (i32 x2)), (3, .int (i32 x3))]) hx hb dX6_passes_36 hl (k := 4) rfl (by decide) rfl (fun ls hl => ?_)
          refine lv_goto (tgt := 6) hx hb dX6_passes_39 (by decide) ?_
          obtain ⟨h_5, hw⟩ := hw
          exact ih x2 x3 r31_3 (x5 + 1) h2 h3 hr31_3 h_5 _ _ _ _ hw I (lv_sub hl [2, 3, 4, 1, 0] rfl)
        · replace hw := hw.2 c_3
          refine li_iconst hx hb dX6_passes_25 ?_
          exact g_zret hx hb hr hlk I (Or.inr rfl) hw dX6_passes_26
set_option maxRecDepth 100000 in
set_option maxHeartbeats 4000000 in
theorem mX6_passes (l : Launch) (g : GP) (a1 a2 a3 : Int) (ha1 : inR a1) (ha2 : inR a2) (ha3 : inR a3) (M : Mem) (post : Int → Mem → Prop) (sz : Nat) (hw : wpX6_passes a1 a2 a3 M post) : MIX l yX6_passes wtX6_passes rmX6_passes g [.ref (g.2.2.2 1), .int (i32 a1), .int (i32 a2), .int (i32 a3)] M sz post := by
  refine Met.ofW (cc := cX6_passes) (maxL := 6) (ret := (some .boolean)) (by decide) rfl ?_
  intro p e s m args below meth c s₁ B hml hv
  obtain ⟨rfl, hpre⟩ := hv
  have hsz := hpre.1
  subst hsz
  have C : Cx p m c cX6_passes 6 s _ lw_g RX6 meth (some .boolean) := ⟨⟨B.exec, B.bytes, hml, findClass_of_methodNamed B.named, fun w h => atoms_spec (ws := wtX6_passes) B.pre w (List.mem_cons_of_mem _ h)⟩, B.returns, B.notSynchronized⟩
  obtain ⟨⟨hx, hb, hml, hown, hts⟩, hr, hlk⟩ := id C
  have I := InG.start hpre
  have hl := lv_entry ([.ref (g.2.2.2 1), .int (i32 a1), .int (i32 a2), .int (i32 a3)]) (n := 6) (Nat.le_of_ble_eq_true rfl)
  rw [lg_entry_eq]
  generalize (lg_sl ([.ref (g.2.2.2 1), .int (i32 a1), .int (i32 a2), .int (i32 a3)]) ++ List.replicate (6 - (lg_sl ([.ref (g.2.2.2 1), .int (i32 a1), .int (i32 a2), .int (i32 a3)])).length) Slot.unset).toArray = ls at hl ⊢
  have hl : lv_has ls 6 [(0, .ref (g.2.2.2 1)), (1, .int (i32 a1)), (2, .int (i32 a2)), (3, .int (i32 a3))] := hl
  show W p l e rmX6_passes s m _ below meth c s.heap [] 0 0 (QIX below _ s g post) _
  refine lv_iload_n hx hb dX6_passes_0 rfl (lv_at hl 1 rfl) ?_
  refine lv_istore (lv' := [(4, .int (i32 a1)), (0, .ref (g.2.2.2 1)), (1, .int (i32 a1)), (2, .int (i32 a2)), (3, .int (i32 a3))]) hx hb dX6_passes_1 hl (by decide) rfl (fun ls hl => ?_)
  refine li_iconst hx hb dX6_passes_3 ?_
  refine lv_istore (lv' := [(5, .int (i32 0)), (4, .int (i32 a1)), (0, .ref (g.2.2.2 1)), (1, .int (i32 a1)), (2, .int (i32 a2)), (3, .int (i32 a3))]) hx hb dX6_passes_4 hl (by decide) rfl (fun ls hl => ?_)
  obtain ⟨n1, hw⟩ := hw
  exact bX6_passes_6 C post n1 a2 a3 a1 0 ha2 ha3 ha1 (by decide) _ _ _ _ hw I (lv_sub hl [2, 4, 5, 1, 0] rfl)
abbrev rmX6_carried : Room := { frames := 2, cells := 0, slots := 0, locals := 48 }
abbrev wtX6_carried : List Cond := Cond.code yX6_carried cX6_carried 7 (some .int) :: lw_g
set_option maxRecDepth 100000 in
set_option maxHeartbeats 4000000 in
theorem bX6_carried_78 {p : Program} {l : Launch} {e : Env} {s : State} {m : MethodId} {args : Array Value} {below : List Frame} {meth : Method} {c : Code} {g : GP} (C : Cx p m c cX6_carried 7 s args lw_g RX6 meth (some .int)) (post : Int → Mem → Prop) (k6 : Int → Int → Int → Int → Mem → Prop) (k18 : Int → Int → Int → Int → Int → Mem → Prop) (hk6 : ∀ (x2 x3 x4 x5 : Int), inR x2 → inR x3 → inR x4 → inR x5 → ∀ (M : Mem) (H : Heap) (locs : List Loc) (ls : Array Slot), k6 x2 x3 x4 x5 M → IX g s M H locs → lv_has ls 7 [(0, .ref (g.2.2.2 6)), (1, .ref (g.2.2.2 1)), (2, .int (i32 x2)), (3, .int (i32 x3)), (4, .int (i32 x4)), (5, .int (i32 x5))] → W p l e rmX6_carried s m args below meth c H locs 0 0 (QIX below args s g post) (F0 m 6 ls [])) (hk18 : ∀ (x2 x3 x4 x5 x6 : Int), inR x2 → inR x3 → inR x4 → inR x5 → inR x6 → ∀ (M : Mem) (H : Heap) (locs : List Loc) (ls : Array Slot), k18 x2 x3 x4 x5 x6 M → IX g s M H locs → lv_has ls 7 [(0, .ref (g.2.2.2 6)), (1, .ref (g.2.2.2 1)), (2, .int (i32 x2)), (3, .int (i32 x3)), (4, .int (i32 x4)), (5, .int (i32 x5)), (6, .int (i32 x6))] → W p l e rmX6_carried s m args below meth c H locs 0 0 (QIX below args s g post) (F0 m 18 ls [])) : ∀ (x2 x3 x4 x5 x6 : Int), inR x2 → inR x3 → inR x4 → inR x5 → inR x6 → ∀ (M : Mem) (H : Heap) (locs : List Loc) (ls : Array Slot), jbX6_carried_78 post k6 k18 x2 x3 x4 x5 x6 M → IX g s M H locs → lv_has ls 7 [(0, .ref (g.2.2.2 6)), (1, .ref (g.2.2.2 1)), (2, .int (i32 x2)), (3, .int (i32 x3)), (4, .int (i32 x4)), (5, .int (i32 x5)), (6, .int (i32 x6))] → W p l e rmX6_carried s m args below meth c H locs 0 0 (QIX below args s g post) (F0 m 78 ls []) := by
  obtain ⟨⟨hx, hb, hml, hown, hts⟩, hr, hlk⟩ := id C
  intro x2 x3 x4 x5 x6 h2 h3 h4 h5 h6 M H locs ls hw I hl
  refine li_iinc (lv' := [(6, .int (i32 (x6 + 1))), (0, .ref (g.2.2.2 6)), (1, .ref (g.2.2.2 1)), (2, .int (i32 x2)), (3, .int (i32 x3)), (4, .int (i32 x4)), (5, .int (i32 x5))]) hx hb dX6_carried_78 hl (k := 6) rfl (by decide) rfl (fun ls hl => ?_)
  refine lv_goto (tgt := 18) hx hb dX6_carried_81 (by decide) ?_
  obtain ⟨h_1, hw⟩ := hw
  exact hk18 x2 x3 x4 x5 (x6 + 1) h2 h3 h4 h5 h_1 _ _ _ _ hw I (lv_sub hl [1, 2, 3, 4, 5, 6, 0] rfl)
set_option maxRecDepth 100000 in
set_option maxHeartbeats 4000000 in
theorem bX6_carried_18 {p : Program} {l : Launch} {e : Env} {s : State} {m : MethodId} {args : Array Value} {below : List Frame} {meth : Method} {c : Code} {g : GP} (C : Cx p m c cX6_carried 7 s args lw_g RX6 meth (some .int)) (post : Int → Mem → Prop) (k6 : Int → Int → Int → Int → Mem → Prop) (hk6 : ∀ (x2 x3 x4 x5 : Int), inR x2 → inR x3 → inR x4 → inR x5 → ∀ (M : Mem) (H : Heap) (locs : List Loc) (ls : Array Slot), k6 x2 x3 x4 x5 M → IX g s M H locs → lv_has ls 7 [(0, .ref (g.2.2.2 6)), (1, .ref (g.2.2.2 1)), (2, .int (i32 x2)), (3, .int (i32 x3)), (4, .int (i32 x4)), (5, .int (i32 x5))] → W p l e rmX6_carried s m args below meth c H locs 0 0 (QIX below args s g post) (F0 m 6 ls [])) : ∀ (n : Nat), ∀ (x2 x3 x4 x5 x6 : Int), inR x2 → inR x3 → inR x4 → inR x5 → inR x6 → ∀ (M : Mem) (H : Heap) (locs : List Loc) (ls : Array Slot), lpX6_carried_18 post k6 n x2 x3 x4 x5 x6 M → IX g s M H locs → lv_has ls 7 [(0, .ref (g.2.2.2 6)), (1, .ref (g.2.2.2 1)), (2, .int (i32 x2)), (3, .int (i32 x3)), (4, .int (i32 x4)), (5, .int (i32 x5)), (6, .int (i32 x6))] → W p l e rmX6_carried s m args below meth c H locs 0 0 (QIX below args s g post) (F0 m 18 ls []) := by
  obtain ⟨⟨hx, hb, hml, hown, hts⟩, hr, hlk⟩ := id C
  intro n
  induction n with
  | zero =>
    intro x2 x3 x4 x5 x6 h2 h3 h4 h5 h6 M H locs ls hw
    exact hw.elim
  | succ n ih =>
    intro x2 x3 x4 x5 x6 h2 h3 h4 h5 h6 M H locs ls hw I hl
    refine lv_iload hx hb dX6_carried_18 (lv_at hl 6 rfl) ?_
    refine lv_aload_n hx hb dX6_carried_20 rfl (lv_at hl 1 rfl) ?_
    refine xg_1_0 hx hb hts wu_X3 hown I wf_X6_35 dX6_carried_21 ?_
    have h_1 := I.rng 1 0
    refine li_icmp_ge (tgt := 84) hx hb dX6_carried_24 (by decide) h6 h_1 (fun c_2 => ?_) (fun c_2 => ?_)
    · replace hw := hw.1 c_2
      refine li_iinc (lv' := [(5, .int (i32 (x5 + 1))), (0, .ref (g.2.2.2 6)), (1, .ref (g.2.2.2 1)), (2, .int (i32 x2)), (3, .int (i32 x3)), (4, .int (i32 x4)), (6, .int (i32 x6))]) hx hb dX6_carried_84 hl (k := 5) rfl (by decide) rfl (fun ls hl => ?_)
      refine lv_goto (tgt := 6) hx hb dX6_carried_87 (by decide) ?_
      obtain ⟨h_3, hw⟩ := hw
      exact hk6 x2 x3 x4 (x5 + 1) h2 h3 h4 h_3 _ _ _ _ hw I (lv_sub hl [1, 2, 3, 4, 5, 0] rfl)
    · replace hw := hw.2 c_2
      refine lv_aload_n hx hb dX6_carried_27 rfl (lv_at hl 0 rfl) ?_
      refine xg_6_0 hx hb hts wu_X6 hown I wf_X6_11 dX6_carried_28 ?_
      refine lv_iload hx hb dX6_carried_31 (lv_at hl 5 rfl) ?_
      obtain ⟨h_4, hw⟩ := hw
      refine x_aald_14 hx hb I h_4 dX6_carried_33 ?_
      refine lv_iload hx hb dX6_carried_34 (lv_at hl 6 rfl) ?_
      obtain ⟨h_5, hw⟩ := hw
      refine x_iald hx hb I (70 + x5) (lenX_70 h_4) h_5 dX6_carried_36 ?_
      have h_6 := I.rng (70 + x5) x6
      refine li_if_le (tgt := 78) hx hb dX6_carried_37 (by decide) h_6 (fun c_7 => ?_) (fun c_7 => ?_)
      · replace hw := hw.1 c_7
        exact bX6_carried_78 C post k6 (fun y2 y3 y4 y5 y6 N => lpX6_carried_18 post k6 n y2 y3 y4 y5 y6 N) hk6 ih x2 x3 x4 x5 x6 h2 h3 h4 h5 h6 _ _ _ _ hw I (lv_sub hl [0, 1, 2, 3, 4, 5, 6] rfl)
      · replace hw := hw.2 c_7
        refine lv_aload_n hx hb dX6_carried_40 rfl (lv_at hl 1 rfl) ?_
        refine lv_iload_n hx hb dX6_carried_41 rfl (lv_at hl 2 rfl) ?_
        refine lv_iload hx hb dX6_carried_42 (lv_at hl 6 rfl) ?_
        refine g_callVi (o := 1) (As := [.int (i32 x2), .int (i32 x6)]) (rest := []) ⟨hx, hb, hml, hown, hts⟩ I (mX3_placeBehind l g x2 x6 h2 h6 M _ _ hw) (cwV 2 hts (gd_V wm_X6_111 wi_X3_placeBehind wl_X3_placeBehind wn_X3 wc_X3_placeBehind) rfl rfl rfl wd_X3_placeBehind ⟨Nat.le_of_ble_eq_true rfl, Nat.le_of_ble_eq_true rfl⟩) (by omega) (by omega) obX_1 rfl rfl hl.1 rfl (Nat.le_of_ble_eq_true rfl) dX6_carried_44 ⟨Nat.zero_le _, Nat.zero_le _⟩ (fun r44_7 M44_7 H locs hr44_7 hw I => ?_)
        refine lv_iload_n hx hb dX6_carried_47 rfl (lv_at hl 3 rfl) ?_
        refine li_icmp_ne (tgt := 78) hx hb dX6_carried_48 (by decide) hr44_7 h3 (fun c_9 => ?_) (fun c_9 => ?_)
        · replace hw := hw.1 c_9
          exact bX6_carried_78 C post k6 (fun y2 y3 y4 y5 y6 N => lpX6_carried_18 post k6 n y2 y3 y4 y5 y6 N) hk6 ih x2 x3 x4 x5 x6 h2 h3 h4 h5 h6 _ _ _ _ hw I (lv_sub hl [0, 1, 2, 3, 4, 5, 6] rfl)
        · replace hw := hw.2 c_9
          refine lv_aload_n hx hb dX6_carried_51 rfl (lv_at hl 1 rfl) ?_
          refine lv_iload hx hb dX6_carried_52 (lv_at hl 5 rfl) ?_
          refine lv_iload hx hb dX6_carried_54 (lv_at hl 6 rfl) ?_
          refine lv_iload_n hx hb dX6_carried_56 rfl (lv_at hl 2 rfl) ?_
          refine g_callSi (As := [.ref (g.2.2.2 1), .int (i32 x5), .int (i32 x6), .int (i32 x2)]) (rest := []) ⟨hx, hb, hml, hown, hts⟩ I (mX6_passes l g x5 x6 x2 h5 h6 h2 M44_7 _ _ hw) (va_cwS 4 hts (gd_S wm_X6_114 wa_X6_passes wn_X6 wc_X6_passes) rfl rfl rfl wd_X6_passes ⟨Nat.le_of_ble_eq_true rfl, Nat.le_of_ble_eq_true rfl⟩) rfl hl.1 rfl (Nat.le_of_ble_eq_true rfl) dX6_carried_57 ⟨Nat.zero_le _, Nat.zero_le _⟩ (fun r57_9 M57_9 H locs hr57_9 hw I => ?_)
          refine li_if_eq (tgt := 78) hx hb dX6_carried_60 (by decide) hr57_9 (fun c_11 => ?_) (fun c_11 => ?_)
          · replace hw := hw.1 c_11
            exact bX6_carried_78 C post k6 (fun y2 y3 y4 y5 y6 N => lpX6_carried_18 post k6 n y2 y3 y4 y5 y6 N) hk6 ih x2 x3 x4 x5 x6 h2 h3 h4 h5 h6 _ _ _ _ hw I (lv_sub hl [0, 1, 2, 3, 4, 5, 6] rfl)
          · replace hw := hw.2 c_11
            refine lv_iload hx hb dX6_carried_63 (lv_at hl 4 rfl) ?_
            refine lv_aload_n hx hb dX6_carried_65 rfl (lv_at hl 0 rfl) ?_
            refine xg_6_0 hx hb hts wu_X6 hown I wf_X6_11 dX6_carried_66 ?_
            refine lv_iload hx hb dX6_carried_69 (lv_at hl 5 rfl) ?_
            obtain ⟨h_12, hw⟩ := hw
            refine x_aald_14 hx hb I h_12 dX6_carried_71 ?_
            refine lv_iload hx hb dX6_carried_72 (lv_at hl 6 rfl) ?_
            obtain ⟨h_13, hw⟩ := hw
            refine x_iald hx hb I (70 + x5) (lenX_70 h_12) h_13 dX6_carried_74 ?_
            have h_14 := I.rng (70 + x5) x6
            refine li_iadd hx hb dX6_carried_75 ?_
            obtain ⟨h_15, hw⟩ := hw
            refine li_name (fun v76_15 ev76_15 => ?_)
            replace hw := hw v76_15 ev76_15
            have hv76_15 : inR v76_15 := ev76_15 ▸ h_15
            refine lv_istore (lv' := [(4, .int (i32 v76_15)), (0, .ref (g.2.2.2 6)), (1, .ref (g.2.2.2 1)), (2, .int (i32 x2)), (3, .int (i32 x3)), (5, .int (i32 x5)), (6, .int (i32 x6))]) hx hb dX6_carried_76 hl (by decide) rfl (fun ls hl => ?_)
            exact bX6_carried_78 C post k6 (fun y2 y3 y4 y5 y6 N => lpX6_carried_18 post k6 n y2 y3 y4 y5 y6 N) hk6 ih x2 x3 v76_15 x5 x6 h2 h3 hv76_15 h5 h6 _ _ _ _ hw I (lv_sub hl [1, 2, 3, 4, 0, 5, 6] rfl)
set_option maxRecDepth 100000 in
set_option maxHeartbeats 4000000 in
theorem bX6_carried_6 {p : Program} {l : Launch} {e : Env} {s : State} {m : MethodId} {args : Array Value} {below : List Frame} {meth : Method} {c : Code} {g : GP} (C : Cx p m c cX6_carried 7 s args lw_g RX6 meth (some .int)) (post : Int → Mem → Prop) : ∀ (n : Nat), ∀ (x2 x3 x4 x5 : Int), inR x2 → inR x3 → inR x4 → inR x5 → ∀ (M : Mem) (H : Heap) (locs : List Loc) (ls : Array Slot), lpX6_carried_6 post n x2 x3 x4 x5 M → IX g s M H locs → lv_has ls 7 [(0, .ref (g.2.2.2 6)), (1, .ref (g.2.2.2 1)), (2, .int (i32 x2)), (3, .int (i32 x3)), (4, .int (i32 x4)), (5, .int (i32 x5))] → W p l e rmX6_carried s m args below meth c H locs 0 0 (QIX below args s g post) (F0 m 6 ls []) := by
  obtain ⟨⟨hx, hb, hml, hown, hts⟩, hr, hlk⟩ := id C
  intro n
  induction n with
  | zero =>
    intro x2 x3 x4 x5 h2 h3 h4 h5 M H locs ls hw
    exact hw.elim
  | succ n ih =>
    intro x2 x3 x4 x5 h2 h3 h4 h5 M H locs ls hw I hl
    refine lv_iload hx hb dX6_carried_6 (lv_at hl 5 rfl) ?_
    refine lv_aload_n hx hb dX6_carried_8 rfl (lv_at hl 1 rfl) ?_
    refine xg_1_0 hx hb hts wu_X3 hown I wf_X6_35 dX6_carried_9 ?_
    have h_1 := I.rng 1 0
    refine li_icmp_ge (tgt := 90) hx hb dX6_carried_12 (by decide) h5 h_1 (fun c_2 => ?_) (fun c_2 => ?_)
    · replace hw := hw.1 c_2
      refine lv_iload hx hb dX6_carried_90 (lv_at hl 4 rfl) ?_
      exact g_iret hx hb hr hlk I h4 hw dX6_carried_92
    · replace hw := hw.2 c_2
      refine li_iconst hx hb dX6_carried_15 ?_
      refine lv_istore (lv' := [(6, .int (i32 0)), (0, .ref (g.2.2.2 6)), (1, .ref (g.2.2.2 1)), (2, .int (i32 x2)), (3, .int (i32 x3)), (4, .int (i32 x4)), (5, .int (i32 x5))]) hx hb dX6_carried_16 hl (by decide) rfl (fun ls hl => ?_)
      obtain ⟨n1, hw⟩ := hw
      exact bX6_carried_18 C post (fun y2 y3 y4 y5 N => lpX6_carried_6 post n y2 y3 y4 y5 N) ih n1 x2 x3 x4 x5 0 h2 h3 h4 h5 (by decide) _ _ _ _ hw I (lv_sub hl [1, 2, 3, 4, 5, 6, 0] rfl)
set_option maxRecDepth 100000 in
set_option maxHeartbeats 4000000 in
theorem mX6_carried (l : Launch) (g : GP) (a2 a3 : Int) (ha2 : inR a2) (ha3 : inR a3) (M : Mem) (post : Int → Mem → Prop) (sz : Nat) (hw : wpX6_carried a2 a3 M post) : MIX l yX6_carried wtX6_carried rmX6_carried g [.ref (g.2.2.2 6), .ref (g.2.2.2 1), .int (i32 a2), .int (i32 a3)] M sz post := by
  refine Met.ofW (cc := cX6_carried) (maxL := 7) (ret := (some .int)) (by decide) rfl ?_
  intro p e s m args below meth c s₁ B hml hv
  obtain ⟨rfl, hpre⟩ := hv
  have hsz := hpre.1
  subst hsz
  have C : Cx p m c cX6_carried 7 s _ lw_g RX6 meth (some .int) := ⟨⟨B.exec, B.bytes, hml, findClass_of_methodNamed B.named, fun w h => atoms_spec (ws := wtX6_carried) B.pre w (List.mem_cons_of_mem _ h)⟩, B.returns, B.notSynchronized⟩
  obtain ⟨⟨hx, hb, hml, hown, hts⟩, hr, hlk⟩ := id C
  have I := InG.start hpre
  have hl := lv_entry ([.ref (g.2.2.2 6), .ref (g.2.2.2 1), .int (i32 a2), .int (i32 a3)]) (n := 7) (Nat.le_of_ble_eq_true rfl)
  rw [lg_entry_eq]
  generalize (lg_sl ([.ref (g.2.2.2 6), .ref (g.2.2.2 1), .int (i32 a2), .int (i32 a3)]) ++ List.replicate (7 - (lg_sl ([.ref (g.2.2.2 6), .ref (g.2.2.2 1), .int (i32 a2), .int (i32 a3)])).length) Slot.unset).toArray = ls at hl ⊢
  have hl : lv_has ls 7 [(0, .ref (g.2.2.2 6)), (1, .ref (g.2.2.2 1)), (2, .int (i32 a2)), (3, .int (i32 a3))] := hl
  show W p l e rmX6_carried s m _ below meth c s.heap [] 0 0 (QIX below _ s g post) _
  refine li_iconst hx hb dX6_carried_0 ?_
  refine lv_istore (lv' := [(4, .int (i32 0)), (0, .ref (g.2.2.2 6)), (1, .ref (g.2.2.2 1)), (2, .int (i32 a2)), (3, .int (i32 a3))]) hx hb dX6_carried_1 hl (by decide) rfl (fun ls hl => ?_)
  refine li_iconst hx hb dX6_carried_3 ?_
  refine lv_istore (lv' := [(5, .int (i32 0)), (4, .int (i32 0)), (0, .ref (g.2.2.2 6)), (1, .ref (g.2.2.2 1)), (2, .int (i32 a2)), (3, .int (i32 a3))]) hx hb dX6_carried_4 hl (by decide) rfl (fun ls hl => ?_)
  obtain ⟨n1, hw⟩ := hw
  exact bX6_carried_6 C post n1 a2 a3 0 0 ha2 ha3 (by decide) (by decide) _ _ _ _ hw I (lv_sub hl [2, 3, 4, 5, 1, 0] rfl)
abbrev rmX7_joinEnds : Room := { frames := 2, cells := 0, slots := 0, locals := 48 }
abbrev wtX7_joinEnds : List Cond := Cond.code yX7_joinEnds cX7_joinEnds 5 none :: lw_g
set_option maxRecDepth 100000 in
set_option maxHeartbeats 4000000 in
theorem bX7_joinEnds_65 {p : Program} {l : Launch} {e : Env} {s : State} {m : MethodId} {args : Array Value} {below : List Frame} {meth : Method} {c : Code} {g : GP} (r2 : Int) (r3 : Int) (C : Cx p m c cX7_joinEnds 5 s args lw_g RX7 meth none) (post : Mem → Prop) (k10 : Int → Int → Mem → Prop) (hk10 : ∀ (x1 x4 : Int), inR x1 → inR x4 → ∀ (M : Mem) (H : Heap) (locs : List Loc) (ls : Array Slot), k10 x1 x4 M → IX g s M H locs → lv_has ls 5 [(0, .ref (g.2.2.2 7)), (2, .ref (g.2.2.2 r2)), (3, .ref (g.2.2.2 r3)), (1, .int (i32 x1)), (4, .int (i32 x4))] → W p l e rmX7_joinEnds s m args below meth c H locs 0 0 (QVX below args s g post) (F0 m 10 ls [])) : ∀ (x1 x4 : Int), inR x1 → inR x4 → ∀ (M : Mem) (H : Heap) (locs : List Loc) (ls : Array Slot), jbX7_joinEnds_65 r2 r3 post k10 x1 x4 M → IX g s M H locs → lv_has ls 5 [(0, .ref (g.2.2.2 7)), (2, .ref (g.2.2.2 r2)), (3, .ref (g.2.2.2 r3)), (1, .int (i32 x1)), (4, .int (i32 x4))] → W p l e rmX7_joinEnds s m args below meth c H locs 0 0 (QVX below args s g post) (F0 m 65 ls []) := by
  obtain ⟨⟨hx, hb, hml, hown, hts⟩, hr, hlk⟩ := id C
  intro x1 x4 h1 h4 M H locs ls hw I hl
  refine li_iinc (lv' := [(4, .int (i32 (x4 + 1))), (0, .ref (g.2.2.2 7)), (2, .ref (g.2.2.2 r2)), (3, .ref (g.2.2.2 r3)), (1, .int (i32 x1))]) hx hb dX7_joinEnds_65 hl (k := 4) rfl (by decide) rfl (fun ls hl => ?_)
  refine lv_goto (tgt := 10) hx hb dX7_joinEnds_68 (by decide) ?_
  obtain ⟨h_1, hw⟩ := hw
  exact hk10 x1 (x4 + 1) h1 h_1 _ _ _ _ hw I (lv_sub hl [1, 2, 3, 4, 0] rfl)
set_option maxRecDepth 100000 in
set_option maxHeartbeats 4000000 in
theorem bX7_joinEnds_39 {p : Program} {l : Launch} {e : Env} {s : State} {m : MethodId} {args : Array Value} {below : List Frame} {meth : Method} {c : Code} {g : GP} (r2 : Int) (r3 : Int) (C : Cx p m c cX7_joinEnds 5 s args lw_g RX7 meth none) (post : Mem → Prop) (k10 : Int → Int → Mem → Prop) (hk10 : ∀ (x1 x4 : Int), inR x1 → inR x4 → ∀ (M : Mem) (H : Heap) (locs : List Loc) (ls : Array Slot), k10 x1 x4 M → IX g s M H locs → lv_has ls 5 [(0, .ref (g.2.2.2 7)), (2, .ref (g.2.2.2 r2)), (3, .ref (g.2.2.2 r3)), (1, .int (i32 x1)), (4, .int (i32 x4))] → W p l e rmX7_joinEnds s m args below meth c H locs 0 0 (QVX below args s g post) (F0 m 10 ls [])) : ∀ (x1 x4 : Int), inR x1 → inR x4 → ∀ (M : Mem) (H : Heap) (locs : List Loc) (ls : Array Slot), jbX7_joinEnds_39 r2 r3 post k10 x1 x4 M → IX g s M H locs → lv_has ls 5 [(0, .ref (g.2.2.2 7)), (2, .ref (g.2.2.2 r2)), (3, .ref (g.2.2.2 r3)), (1, .int (i32 x1)), (4, .int (i32 x4))] → W p l e rmX7_joinEnds s m args below meth c H locs 0 0 (QVX below args s g post) (F0 m 39 ls []) := by
  obtain ⟨⟨hx, hb, hml, hown, hts⟩, hr, hlk⟩ := id C
  intro x1 x4 h1 h4 M H locs ls hw I hl
  refine lv_aload_n hx hb dX7_joinEnds_39 rfl (lv_at hl 2 rfl) ?_
  refine lv_iload hx hb dX7_joinEnds_40 (lv_at hl 4 rfl) ?_
  obtain ⟨h_1, hw⟩ := hw
  refine x_iald hx hb I r3 rfl h_1 dX7_joinEnds_42 ?_
  have h_2 := I.rng r3 x4
  refine li_if_le (tgt := 65) hx hb dX7_joinEnds_43 (by decide) h_2 (fun c_3 => ?_) (fun c_3 => ?_)
  · replace hw := hw.1 c_3
    exact bX7_joinEnds_65 r2 r3 C post k10 hk10 x1 x4 h1 h4 _ _ _ _ hw I (lv_sub hl [0, 1, 2, 3, 4] rfl)
  · replace hw := hw.2 c_3
    refine lv_aload_n hx hb dX7_joinEnds_46 rfl (lv_at hl 0 rfl) ?_
    refine xg_7_2 hx hb hts wu_X7 hown I wf_X7_18 dX7_joinEnds_47 ?_
    refine lv_bipush (v := i32 10) hx hb dX7_joinEnds_50 (by decide) ?_
    refine lv_iload hx hb dX7_joinEnds_52 (lv_at hl 4 rfl) ?_
    refine li_iadd hx hb dX7_joinEnds_54 ?_
    refine lv_bipush (v := i32 21) hx hb dX7_joinEnds_55 (by decide) ?_
    refine lv_aload_n hx hb dX7_joinEnds_57 rfl (lv_at hl 2 rfl) ?_
    refine lv_iload hx hb dX7_joinEnds_58 (lv_at hl 4 rfl) ?_
    obtain ⟨h_4, hw⟩ := hw
    refine x_iald hx hb I r3 rfl h_4 dX7_joinEnds_60 ?_
    have h_5 := I.rng r3 x4
    refine li_iconst hx hb dX7_joinEnds_61 ?_
    obtain ⟨h_6, hw⟩ := hw
    refine g_callVv (o := (8 + 1)) (As := [.int (i32 (10 + x4)), .int (i32 21), .int (i32 (M r3 x4)), .int (i32 0)]) (rest := []) ⟨hx, hb, hml, hown, hts⟩ I (mX5_join l g 1 (Or.inr rfl) (10 + x4) 21 (M r3 x4) 0 h_6 (by decide) h_5 (by decide) M _ _ hw) (cwV 4 hts (gd_V wm_X7_62 wi_X5_join wl_X5_join wn_X5 wc_X5_join) rfl rfl rfl wd_X5_join ⟨Nat.le_of_ble_eq_true rfl, Nat.le_of_ble_eq_true rfl⟩) (by omega) (by omega) (obX_N (Or.inr rfl)) rfl rfl hl.1 rfl (Nat.le_of_ble_eq_true rfl) dX7_joinEnds_62 ⟨Nat.zero_le _, Nat.zero_le _⟩ (fun M62_6 H locs hw I => ?_)
    exact bX7_joinEnds_65 r2 r3 C post k10 hk10 x1 x4 h1 h4 _ _ _ _ hw I (lv_sub hl [0, 1, 2, 3, 4] rfl)
set_option maxRecDepth 100000 in
set_option maxHeartbeats 4000000 in
theorem bX7_joinEnds_10 {p : Program} {l : Launch} {e : Env} {s : State} {m : MethodId} {args : Array Value} {below : List Frame} {meth : Method} {c : Code} {g : GP} (r2 : Int) (r3 : Int) (C : Cx p m c cX7_joinEnds 5 s args lw_g RX7 meth none) (post : Mem → Prop) : ∀ (n : Nat), ∀ (x1 x4 : Int), inR x1 → inR x4 → ∀ (M : Mem) (H : Heap) (locs : List Loc) (ls : Array Slot), lpX7_joinEnds_10 r2 r3 post n x1 x4 M → IX g s M H locs → lv_has ls 5 [(0, .ref (g.2.2.2 7)), (2, .ref (g.2.2.2 r2)), (3, .ref (g.2.2.2 r3)), (1, .int (i32 x1)), (4, .int (i32 x4))] → W p l e rmX7_joinEnds s m args below meth c H locs 0 0 (QVX below args s g post) (F0 m 10 ls []) := by
  obtain ⟨⟨hx, hb, hml, hown, hts⟩, hr, hlk⟩ := id C
  intro n
  induction n with
  | zero =>
    intro x1 x4 h1 h4 M H locs ls hw
    exact hw.elim
  | succ n ih =>
    intro x1 x4 h1 h4 M H locs ls hw I hl
    refine lv_iload hx hb dX7_joinEnds_10 (lv_at hl 4 rfl) ?_
    refine lv_iload_n hx hb dX7_joinEnds_12 rfl (lv_at hl 3 rfl) ?_
    refine li_icmp_ge (tgt := 71) hx hb dX7_joinEnds_13 (by decide) h4 h1 (fun c_1 => ?_) (fun c_1 => ?_)
    · replace hw := hw.1 c_1
      exact g_vret hx hb hr hlk I hw dX7_joinEnds_71
    · replace hw := hw.2 c_1
      refine lv_aload_n hx hb dX7_joinEnds_16 rfl (lv_at hl 1 rfl) ?_
      refine lv_iload hx hb dX7_joinEnds_17 (lv_at hl 4 rfl) ?_
      obtain ⟨h_2, hw⟩ := hw
      refine x_iald hx hb I r2 rfl h_2 dX7_joinEnds_19 ?_
      have h_3 := I.rng r2 x4
      refine li_if_le (tgt := 39) hx hb dX7_joinEnds_20 (by decide) h_3 (fun c_4 => ?_) (fun c_4 => ?_)
      · replace hw := hw.1 c_4
        exact bX7_joinEnds_39 r2 r3 C post (fun y1 y4 N => lpX7_joinEnds_10 r2 r3 post n y1 y4 N) ih x1 x4 h1 h4 _ _ _ _ hw I (lv_sub hl [0, 1, 2, 3, 4] rfl)
      · replace hw := hw.2 c_4
        refine lv_aload_n hx hb dX7_joinEnds_23 rfl (lv_at hl 0 rfl) ?_
        refine xg_7_2 hx hb hts wu_X7 hown I wf_X7_18 dX7_joinEnds_24 ?_
        refine lv_bipush (v := i32 20) hx hb dX7_joinEnds_27 (by decide) ?_
        refine lv_iload hx hb dX7_joinEnds_29 (lv_at hl 4 rfl) ?_
        refine lv_aload_n hx hb dX7_joinEnds_31 rfl (lv_at hl 1 rfl) ?_
        refine lv_iload hx hb dX7_joinEnds_32 (lv_at hl 4 rfl) ?_
        obtain ⟨h_5, hw⟩ := hw
        refine x_iald hx hb I r2 rfl h_5 dX7_joinEnds_34 ?_
        have h_6 := I.rng r2 x4
        refine li_iconst hx hb dX7_joinEnds_35 ?_
        refine g_callVv (o := (8 + 1)) (As := [.int (i32 20), .int (i32 x4), .int (i32 (M r2 x4)), .int (i32 0)]) (rest := []) ⟨hx, hb, hml, hown, hts⟩ I (mX5_join l g 1 (Or.inr rfl) 20 x4 (M r2 x4) 0 (by decide) h4 h_6 (by decide) M _ _ hw) (cwV 4 hts (gd_V wm_X7_62 wi_X5_join wl_X5_join wn_X5 wc_X5_join) rfl rfl rfl wd_X5_join ⟨Nat.le_of_ble_eq_true rfl, Nat.le_of_ble_eq_true rfl⟩) (by omega) (by omega) (obX_N (Or.inr rfl)) rfl rfl hl.1 rfl (Nat.le_of_ble_eq_true rfl) dX7_joinEnds_36 ⟨Nat.zero_le _, Nat.zero_le _⟩ (fun M36_6 H locs hw I => ?_)
        exact bX7_joinEnds_39 r2 r3 C post (fun y1 y4 N => lpX7_joinEnds_10 r2 r3 post n y1 y4 N) ih x1 x4 h1 h4 _ _ _ _ hw I (lv_sub hl [0, 1, 2, 3, 4] rfl)
set_option maxRecDepth 100000 in
set_option maxHeartbeats 4000000 in
theorem mX7_joinEnds (l : Launch) (g : GP) (r2 : Int) (r3 : Int) (a1 : Int) (ha1 : inR a1) (M : Mem) (post : Mem → Prop) (sz : Nat) (hw : wpX7_joinEnds r2 r3 a1 M post) : MVX l yX7_joinEnds wtX7_joinEnds rmX7_joinEnds g [.ref (g.2.2.2 7), .int (i32 a1), .ref (g.2.2.2 r2), .ref (g.2.2.2 r3)] M sz post := by
  refine Met.ofW (cc := cX7_joinEnds) (maxL := 5) (ret := none) (by decide) rfl ?_
  intro p e s m args below meth c s₁ B hml hv
  obtain ⟨rfl, hpre⟩ := hv
  have hsz := hpre.1
  subst hsz
  have C : Cx p m c cX7_joinEnds 5 s _ lw_g RX7 meth none := ⟨⟨B.exec, B.bytes, hml, findClass_of_methodNamed B.named, fun w h => atoms_spec (ws := wtX7_joinEnds) B.pre w (List.mem_cons_of_mem _ h)⟩, B.returns, B.notSynchronized⟩
  obtain ⟨⟨hx, hb, hml, hown, hts⟩, hr, hlk⟩ := id C
  have I := InG.start hpre
  have hl := lv_entry ([.ref (g.2.2.2 7), .int (i32 a1), .ref (g.2.2.2 r2), .ref (g.2.2.2 r3)]) (n := 5) (Nat.le_of_ble_eq_true rfl)
  rw [lg_entry_eq]
  generalize (lg_sl ([.ref (g.2.2.2 7), .int (i32 a1), .ref (g.2.2.2 r2), .ref (g.2.2.2 r3)]) ++ List.replicate (5 - (lg_sl ([.ref (g.2.2.2 7), .int (i32 a1), .ref (g.2.2.2 r2), .ref (g.2.2.2 r3)])).length) Slot.unset).toArray = ls at hl ⊢
  have hl : lv_has ls 5 [(0, .ref (g.2.2.2 7)), (1, .int (i32 a1)), (2, .ref (g.2.2.2 r2)), (3, .ref (g.2.2.2 r3))] := hl
  show W p l e rmX7_joinEnds s m _ below meth c s.heap [] 0 0 (QVX below _ s g post) _
  refine lv_aload_n hx hb dX7_joinEnds_0 rfl (lv_at hl 0 rfl) ?_
  refine xg_7_2 hx hb hts wu_X7 hown I wf_X7_18 dX7_joinEnds_1 ?_
  refine g_callVv (o := (8 + 1)) (As := []) (rest := []) ⟨hx, hb, hml, hown, hts⟩ I (mX5_empty l g 1 (Or.inr rfl) M _ _ hw) (cwV 0 hts (gd_V wm_X7_59 wi_X5_empty wl_X5_empty wn_X5 wc_X5_empty) rfl rfl rfl wd_X5_empty ⟨Nat.le_of_ble_eq_true rfl, Nat.le_of_ble_eq_true rfl⟩) (by omega) (by omega) (obX_N (Or.inr rfl)) rfl rfl hl.1 rfl (Nat.le_of_ble_eq_true rfl) dX7_joinEnds_4 ⟨Nat.zero_le _, Nat.zero_le _⟩ (fun M4_0 H locs hw I => ?_)
  refine li_iconst hx hb dX7_joinEnds_7 ?_
  refine lv_istore (lv' := [(4, .int (i32 0)), (0, .ref (g.2.2.2 7)), (1, .int (i32 a1)), (2, .ref (g.2.2.2 r2)), (3, .ref (g.2.2.2 r3))]) hx hb dX7_joinEnds_8 hl (by decide) rfl (fun ls hl => ?_)
  obtain ⟨n1, hw⟩ := hw
  exact bX7_joinEnds_10 r2 r3 C post n1 a1 0 ha1 (by decide) _ _ _ _ hw I (lv_sub hl [1, 3, 4, 2, 0] rfl)
abbrev rmX7_joinDistance : Room := { frames := 2, cells := 0, slots := 0, locals := 48 }
abbrev wtX7_joinDistance : List Cond := Cond.code yX7_joinDistance cX7_joinDistance 6 none :: lw_g
set_option maxRecDepth 100000 in
set_option maxHeartbeats 4000000 in
theorem bX7_joinDistance_72 {p : Program} {l : Launch} {e : Env} {s : State} {m : MethodId} {args : Array Value} {below : List Frame} {meth : Method} {c : Code} {g : GP} (r2 : Int) (r3 : Int) (C : Cx p m c cX7_joinDistance 6 s args lw_g RX7 meth none) (post : Mem → Prop) (k3 : Int → Mem → Prop) (k15 : Int → Int → Mem → Prop) (hk3 : ∀ (x4 : Int), inR x4 → ∀ (M : Mem) (H : Heap) (locs : List Loc) (ls : Array Slot), k3 x4 M → IX g s M H locs → lv_has ls 6 [(0, .ref (g.2.2.2 7)), (1, .ref (g.2.2.2 1)), (2, .ref (g.2.2.2 r2)), (3, .ref (g.2.2.2 r3)), (4, .int (i32 x4))] → W p l e rmX7_joinDistance s m args below meth c H locs 0 0 (QVX below args s g post) (F0 m 3 ls [])) (hk15 : ∀ (x4 x5 : Int), inR x4 → inR x5 → ∀ (M : Mem) (H : Heap) (locs : List Loc) (ls : Array Slot), k15 x4 x5 M → IX g s M H locs → lv_has ls 6 [(0, .ref (g.2.2.2 7)), (1, .ref (g.2.2.2 1)), (2, .ref (g.2.2.2 r2)), (3, .ref (g.2.2.2 r3)), (4, .int (i32 x4)), (5, .int (i32 x5))] → W p l e rmX7_joinDistance s m args below meth c H locs 0 0 (QVX below args s g post) (F0 m 15 ls [])) : ∀ (x4 x5 : Int), inR x4 → inR x5 → ∀ (M : Mem) (H : Heap) (locs : List Loc) (ls : Array Slot), jbX7_joinDistance_72 r2 r3 post k3 k15 x4 x5 M → IX g s M H locs → lv_has ls 6 [(0, .ref (g.2.2.2 7)), (1, .ref (g.2.2.2 1)), (2, .ref (g.2.2.2 r2)), (3, .ref (g.2.2.2 r3)), (4, .int (i32 x4)), (5, .int (i32 x5))] → W p l e rmX7_joinDistance s m args below meth c H locs 0 0 (QVX below args s g post) (F0 m 72 ls []) := by
  obtain ⟨⟨hx, hb, hml, hown, hts⟩, hr, hlk⟩ := id C
  intro x4 x5 h4 h5 M H locs ls hw I hl
  refine li_iinc (lv' := [(5, .int (i32 (x5 + 1))), (0, .ref (g.2.2.2 7)), (1, .ref (g.2.2.2 1)), (2, .ref (g.2.2.2 r2)), (3, .ref (g.2.2.2 r3)), (4, .int (i32 x4))]) hx hb dX7_joinDistance_72 hl (k := 5) rfl (by decide) rfl (fun ls hl => ?_)
  refine lv_goto (tgt := 15) hx hb dX7_joinDistance_75 (by decide) ?_
  obtain ⟨h_1, hw⟩ := hw
  exact hk15 x4 (x5 + 1) h4 h_1 _ _ _ _ hw I (lv_sub hl [1, 2, 3, 4, 5, 0] rfl)
set_option maxRecDepth 100000 in
set_option maxHeartbeats 4000000 in
theorem bX7_joinDistance_15 {p : Program} {l : Launch} {e : Env} {s : State} {m : MethodId} {args : Array Value} {below : List Frame} {meth : Method} {c : Code} {g : GP} (r2 : Int) (r3 : Int) (C : Cx p m c cX7_joinDistance 6 s args lw_g RX7 meth none) (post : Mem → Prop) (k3 : Int → Mem → Prop) (hk3 : ∀ (x4 : Int), inR x4 → ∀ (M : Mem) (H : Heap) (locs : List Loc) (ls : Array Slot), k3 x4 M → IX g s M H locs → lv_has ls 6 [(0, .ref (g.2.2.2 7)), (1, .ref (g.2.2.2 1)), (2, .ref (g.2.2.2 r2)), (3, .ref (g.2.2.2 r3)), (4, .int (i32 x4))] → W p l e rmX7_joinDistance s m args below meth c H locs 0 0 (QVX below args s g post) (F0 m 3 ls [])) : ∀ (n : Nat), ∀ (x4 x5 : Int), inR x4 → inR x5 → ∀ (M : Mem) (H : Heap) (locs : List Loc) (ls : Array Slot), lpX7_joinDistance_15 r2 r3 post k3 n x4 x5 M → IX g s M H locs → lv_has ls 6 [(0, .ref (g.2.2.2 7)), (1, .ref (g.2.2.2 1)), (2, .ref (g.2.2.2 r2)), (3, .ref (g.2.2.2 r3)), (4, .int (i32 x4)), (5, .int (i32 x5))] → W p l e rmX7_joinDistance s m args below meth c H locs 0 0 (QVX below args s g post) (F0 m 15 ls []) := by
  obtain ⟨⟨hx, hb, hml, hown, hts⟩, hr, hlk⟩ := id C
  intro n
  induction n with
  | zero =>
    intro x4 x5 h4 h5 M H locs ls hw
    exact hw.elim
  | succ n ih =>
    intro x4 x5 h4 h5 M H locs ls hw I hl
    refine lv_iload hx hb dX7_joinDistance_15 (lv_at hl 5 rfl) ?_
    refine lv_aload_n hx hb dX7_joinDistance_17 rfl (lv_at hl 1 rfl) ?_
    refine xg_1_0 hx hb hts wu_X3 hown I wf_X7_22 dX7_joinDistance_18 ?_
    have h_1 := I.rng 1 0
    refine li_icmp_ge (tgt := 78) hx hb dX7_joinDistance_21 (by decide) h5 h_1 (fun c_2 => ?_) (fun c_2 => ?_)
    · replace hw := hw.1 c_2
      refine li_iinc (lv' := [(4, .int (i32 (x4 + 1))), (0, .ref (g.2.2.2 7)), (1, .ref (g.2.2.2 1)), (2, .ref (g.2.2.2 r2)), (3, .ref (g.2.2.2 r3)), (5, .int (i32 x5))]) hx hb dX7_joinDistance_78 hl (k := 4) rfl (by decide) rfl (fun ls hl => ?_)
      refine lv_goto (tgt := 3) hx hb dX7_joinDistance_81 (by decide) ?_
      obtain ⟨h_3, hw⟩ := hw
      exact hk3 (x4 + 1) h_3 _ _ _ _ hw I (lv_sub hl [1, 2, 3, 4, 0] rfl)
    · replace hw := hw.2 c_2
      refine lv_aload_n hx hb dX7_joinDistance_24 rfl (lv_at hl 1 rfl) ?_
      refine xg_1_7 hx hb hts wu_X3 hown I wf_X7_66 dX7_joinDistance_25 ?_
      refine lv_iload hx hb dX7_joinDistance_28 (lv_at hl 4 rfl) ?_
      obtain ⟨h_4, hw⟩ := hw
      refine x_aald_11 hx hb I h_4 dX7_joinDistance_30 ?_
      refine lv_iload hx hb dX7_joinDistance_31 (lv_at hl 5 rfl) ?_
      obtain ⟨h_5, hw⟩ := hw
      refine x_iald hx hb I (50 + x4) (lenX_50 h_4) h_5 dX7_joinDistance_33 ?_
      have h_6 := I.rng (50 + x4) x5
      refine lv_aload_n hx hb dX7_joinDistance_34 rfl (lv_at hl 0 rfl) ?_
      refine xg_7_0 hx hb hts wu_X7 hown I wf_X7_38 dX7_joinDistance_35 ?_
      have h_7 := I.rng 7 0
      refine li_icmp_ne (tgt := 72) hx hb dX7_joinDistance_38 (by decide) h_6 h_7 (fun c_8 => ?_) (fun c_8 => ?_)
      · replace hw := hw.1 c_8
        exact bX7_joinDistance_72 r2 r3 C post k3 (fun y4 y5 N => lpX7_joinDistance_15 r2 r3 post k3 n y4 y5 N) hk3 ih x4 x5 h4 h5 _ _ _ _ hw I (lv_sub hl [0, 1, 2, 3, 4, 5] rfl)
      · replace hw := hw.2 c_8
        refine lv_aload_n hx hb dX7_joinDistance_41 rfl (lv_at hl 2 rfl) ?_
        refine lv_iload hx hb dX7_joinDistance_42 (lv_at hl 4 rfl) ?_
        obtain ⟨h_9, hw⟩ := hw
        refine x_iald hx hb I r2 rfl h_9 dX7_joinDistance_44 ?_
        have h_10 := I.rng r2 x4
        refine li_if_le (tgt := 72) hx hb dX7_joinDistance_45 (by decide) h_10 (fun c_11 => ?_) (fun c_11 => ?_)
        · replace hw := hw.1 c_11
          exact bX7_joinDistance_72 r2 r3 C post k3 (fun y4 y5 N => lpX7_joinDistance_15 r2 r3 post k3 n y4 y5 N) hk3 ih x4 x5 h4 h5 _ _ _ _ hw I (lv_sub hl [0, 1, 2, 3, 4, 5] rfl)
        · replace hw := hw.2 c_11
          refine lv_aload_n hx hb dX7_joinDistance_48 rfl (lv_at hl 3 rfl) ?_
          refine lv_iload hx hb dX7_joinDistance_49 (lv_at hl 5 rfl) ?_
          obtain ⟨h_12, hw⟩ := hw
          refine x_iald hx hb I r3 rfl h_12 dX7_joinDistance_51 ?_
          have h_13 := I.rng r3 x5
          refine li_if_le (tgt := 72) hx hb dX7_joinDistance_52 (by decide) h_13 (fun c_14 => ?_) (fun c_14 => ?_)
          · replace hw := hw.1 c_14
            exact bX7_joinDistance_72 r2 r3 C post k3 (fun y4 y5 N => lpX7_joinDistance_15 r2 r3 post k3 n y4 y5 N) hk3 ih x4 x5 h4 h5 _ _ _ _ hw I (lv_sub hl [0, 1, 2, 3, 4, 5] rfl)
          · replace hw := hw.2 c_14
            refine lv_aload_n hx hb dX7_joinDistance_55 rfl (lv_at hl 0 rfl) ?_
            refine xg_7_2 hx hb hts wu_X7 hown I wf_X7_18 dX7_joinDistance_56 ?_
            refine lv_iload hx hb dX7_joinDistance_59 (lv_at hl 4 rfl) ?_
            refine lv_bipush (v := i32 10) hx hb dX7_joinDistance_61 (by decide) ?_
            refine lv_iload hx hb dX7_joinDistance_63 (lv_at hl 5 rfl) ?_
            refine li_iadd hx hb dX7_joinDistance_65 ?_
            refine lv_ldc (v := i32 1000000) hx hb hown (hts _ wk_X7_70) dX7_joinDistance_66 ?_
            refine li_iconst hx hb dX7_joinDistance_68 ?_
            obtain ⟨h_15, hw⟩ := hw
            refine g_callVv (o := (8 + 1)) (As := [.int (i32 x4), .int (i32 (10 + x5)), .int (i32 1000000), .int (i32 0)]) (rest := []) ⟨hx, hb, hml, hown, hts⟩ I (mX5_join l g 1 (Or.inr rfl) x4 (10 + x5) 1000000 0 h4 h_15 (by decide) (by decide) M _ _ hw) (cwV 4 hts (gd_V wm_X7_62 wi_X5_join wl_X5_join wn_X5 wc_X5_join) rfl rfl rfl wd_X5_join ⟨Nat.le_of_ble_eq_true rfl, Nat.le_of_ble_eq_true rfl⟩) (by omega) (by omega) (obX_N (Or.inr rfl)) rfl rfl hl.1 rfl (Nat.le_of_ble_eq_true rfl) dX7_joinDistance_69 ⟨Nat.zero_le _, Nat.zero_le _⟩ (fun M69_15 H locs hw I => ?_)
            exact bX7_joinDistance_72 r2 r3 C post k3 (fun y4 y5 N => lpX7_joinDistance_15 r2 r3 post k3 n y4 y5 N) hk3 ih x4 x5 h4 h5 _ _ _ _ hw I (lv_sub hl [0, 1, 2, 3, 4, 5] rfl)
set_option maxRecDepth 100000 in
set_option maxHeartbeats 4000000 in
theorem bX7_joinDistance_3 {p : Program} {l : Launch} {e : Env} {s : State} {m : MethodId} {args : Array Value} {below : List Frame} {meth : Method} {c : Code} {g : GP} (r2 : Int) (r3 : Int) (C : Cx p m c cX7_joinDistance 6 s args lw_g RX7 meth none) (post : Mem → Prop) : ∀ (n : Nat), ∀ (x4 : Int), inR x4 → ∀ (M : Mem) (H : Heap) (locs : List Loc) (ls : Array Slot), lpX7_joinDistance_3 r2 r3 post n x4 M → IX g s M H locs → lv_has ls 6 [(0, .ref (g.2.2.2 7)), (1, .ref (g.2.2.2 1)), (2, .ref (g.2.2.2 r2)), (3, .ref (g.2.2.2 r3)), (4, .int (i32 x4))] → W p l e rmX7_joinDistance s m args below meth c H locs 0 0 (QVX below args s g post) (F0 m 3 ls []) := by
  obtain ⟨⟨hx, hb, hml, hown, hts⟩, hr, hlk⟩ := id C
  intro n
  induction n with
  | zero =>
    intro x4 h4 M H locs ls hw
    exact hw.elim
  | succ n ih =>
    intro x4 h4 M H locs ls hw I hl
    refine lv_iload hx hb dX7_joinDistance_3 (lv_at hl 4 rfl) ?_
    refine lv_aload_n hx hb dX7_joinDistance_5 rfl (lv_at hl 1 rfl) ?_
    refine xg_1_0 hx hb hts wu_X3 hown I wf_X7_22 dX7_joinDistance_6 ?_
    have h_1 := I.rng 1 0
    refine li_icmp_ge (tgt := 84) hx hb dX7_joinDistance_9 (by decide) h4 h_1 (fun c_2 => ?_) (fun c_2 => ?_)
    · replace hw := hw.1 c_2
      exact g_vret hx hb hr hlk I hw dX7_joinDistance_84
    · replace hw := hw.2 c_2
      refine li_iconst hx hb dX7_joinDistance_12 ?_
      refine lv_istore (lv' := [(5, .int (i32 0)), (0, .ref (g.2.2.2 7)), (1, .ref (g.2.2.2 1)), (2, .ref (g.2.2.2 r2)), (3, .ref (g.2.2.2 r3)), (4, .int (i32 x4))]) hx hb dX7_joinDistance_13 hl (by decide) rfl (fun ls hl => ?_)
      obtain ⟨n1, hw⟩ := hw
      exact bX7_joinDistance_15 r2 r3 C post (fun y4 N => lpX7_joinDistance_3 r2 r3 post n y4 N) ih n1 x4 0 h4 (by decide) _ _ _ _ hw I (lv_sub hl [1, 2, 3, 4, 5, 0] rfl)
set_option maxRecDepth 100000 in
set_option maxHeartbeats 4000000 in
theorem mX7_joinDistance (l : Launch) (g : GP) (r2 : Int) (r3 : Int) (M : Mem) (post : Mem → Prop) (sz : Nat) (hw : wpX7_joinDistance r2 r3 M post) : MVX l yX7_joinDistance wtX7_joinDistance rmX7_joinDistance g [.ref (g.2.2.2 7), .ref (g.2.2.2 1), .ref (g.2.2.2 r2), .ref (g.2.2.2 r3)] M sz post := by
  refine Met.ofW (cc := cX7_joinDistance) (maxL := 6) (ret := none) (by decide) rfl ?_
  intro p e s m args below meth c s₁ B hml hv
  obtain ⟨rfl, hpre⟩ := hv
  have hsz := hpre.1
  subst hsz
  have C : Cx p m c cX7_joinDistance 6 s _ lw_g RX7 meth none := ⟨⟨B.exec, B.bytes, hml, findClass_of_methodNamed B.named, fun w h => atoms_spec (ws := wtX7_joinDistance) B.pre w (List.mem_cons_of_mem _ h)⟩, B.returns, B.notSynchronized⟩
  obtain ⟨⟨hx, hb, hml, hown, hts⟩, hr, hlk⟩ := id C
  have I := InG.start hpre
  have hl := lv_entry ([.ref (g.2.2.2 7), .ref (g.2.2.2 1), .ref (g.2.2.2 r2), .ref (g.2.2.2 r3)]) (n := 6) (Nat.le_of_ble_eq_true rfl)
  rw [lg_entry_eq]
  generalize (lg_sl ([.ref (g.2.2.2 7), .ref (g.2.2.2 1), .ref (g.2.2.2 r2), .ref (g.2.2.2 r3)]) ++ List.replicate (6 - (lg_sl ([.ref (g.2.2.2 7), .ref (g.2.2.2 1), .ref (g.2.2.2 r2), .ref (g.2.2.2 r3)])).length) Slot.unset).toArray = ls at hl ⊢
  have hl : lv_has ls 6 [(0, .ref (g.2.2.2 7)), (1, .ref (g.2.2.2 1)), (2, .ref (g.2.2.2 r2)), (3, .ref (g.2.2.2 r3))] := hl
  show W p l e rmX7_joinDistance s m _ below meth c s.heap [] 0 0 (QVX below _ s g post) _
  refine li_iconst hx hb dX7_joinDistance_0 ?_
  refine lv_istore (lv' := [(4, .int (i32 0)), (0, .ref (g.2.2.2 7)), (1, .ref (g.2.2.2 1)), (2, .ref (g.2.2.2 r2)), (3, .ref (g.2.2.2 r3))]) hx hb dX7_joinDistance_1 hl (by decide) rfl (fun ls hl => ?_)
  obtain ⟨n1, hw⟩ := hw
  exact bX7_joinDistance_3 r2 r3 C post n1 0 (by decide) _ _ _ _ hw I (lv_sub hl [1, 2, 3, 4, 0] rfl)
abbrev rmX7_noteStuck : Room := { frames := 1, cells := 0, slots := 0, locals := 21 }
abbrev wtX7_noteStuck : List Cond := Cond.code yX7_noteStuck cX7_noteStuck 3 none :: lw_g
set_option maxRecDepth 100000 in
set_option maxHeartbeats 4000000 in
theorem bX7_noteStuck_28 {p : Program} {l : Launch} {e : Env} {s : State} {m : MethodId} {args : Array Value} {below : List Frame} {meth : Method} {c : Code} {g : GP} (C : Cx p m c cX7_noteStuck 3 s args lw_g RX7 meth none) (post : Mem → Prop) (k2 : Int → Int → Mem → Prop) (hk2 : ∀ (x1 x2 : Int), inR x1 → inR x2 → ∀ (M : Mem) (H : Heap) (locs : List Loc) (ls : Array Slot), k2 x1 x2 M → IX g s M H locs → lv_has ls 3 [(0, .ref (g.2.2.2 7)), (1, .int (i32 x1)), (2, .int (i32 x2))] → W p l e rmX7_noteStuck s m args below meth c H locs 0 0 (QVX below args s g post) (F0 m 2 ls [])) : ∀ (x1 x2 t0 t1 : Int), inR x1 → inR x2 → inR t0 → inR t1 → ∀ (M : Mem) (H : Heap) (locs : List Loc) (ls : Array Slot), jbX7_noteStuck_28 post k2 x1 x2 t0 t1 M → IX g s M H locs → lv_has ls 3 [(0, .ref (g.2.2.2 7)), (1, .int (i32 x1)), (2, .int (i32 x2))] → W p l e rmX7_noteStuck s m args below meth c H locs 0 0 (QVX below args s g post) (F0 m 28 ls [.int (i32 t0), .int (i32 t1), .ref (g.2.2.2 27)]) := by
  obtain ⟨⟨hx, hb, hml, hown, hts⟩, hr, hlk⟩ := id C
  intro x1 x2 t0 t1 h1 h2 ht0 ht1 M H locs ls hw I hl
  obtain ⟨h_1, hw⟩ := hw
  refine x_iast hx hb I 27 lenX_27 h_1 ht0 dX7_noteStuck_28 (fun H locs M28_1 eM28_1 I => ?_)
  replace hw := hw M28_1 eM28_1
  refine li_iinc (lv' := [(2, .int (i32 (x2 + 1))), (0, .ref (g.2.2.2 7)), (1, .int (i32 x1))]) hx hb dX7_noteStuck_29 hl (k := 2) rfl (by decide) rfl (fun ls hl => ?_)
  refine lv_goto (tgt := 2) hx hb dX7_noteStuck_32 (by decide) ?_
  obtain ⟨h_3, hw⟩ := hw
  exact hk2 x1 (x2 + 1) h1 h_3 _ _ _ _ hw I (lv_sub hl [1, 2, 0] rfl)
set_option maxRecDepth 100000 in
set_option maxHeartbeats 4000000 in
theorem bX7_noteStuck_2 {p : Program} {l : Launch} {e : Env} {s : State} {m : MethodId} {args : Array Value} {below : List Frame} {meth : Method} {c : Code} {g : GP} (C : Cx p m c cX7_noteStuck 3 s args lw_g RX7 meth none) (post : Mem → Prop) : ∀ (n : Nat), ∀ (x1 x2 : Int), inR x1 → inR x2 → ∀ (M : Mem) (H : Heap) (locs : List Loc) (ls : Array Slot), lpX7_noteStuck_2 post n x1 x2 M → IX g s M H locs → lv_has ls 3 [(0, .ref (g.2.2.2 7)), (1, .int (i32 x1)), (2, .int (i32 x2))] → W p l e rmX7_noteStuck s m args below meth c H locs 0 0 (QVX below args s g post) (F0 m 2 ls []) := by
  obtain ⟨⟨hx, hb, hml, hown, hts⟩, hr, hlk⟩ := id C
  intro n
  induction n with
  | zero =>
    intro x1 x2 h1 h2 M H locs ls hw
    exact hw.elim
  | succ n ih =>
    intro x1 x2 h1 h2 M H locs ls hw I hl
    refine lv_iload_n hx hb dX7_noteStuck_2 rfl (lv_at hl 2 rfl) ?_
    refine lv_iload_n hx hb dX7_noteStuck_3 rfl (lv_at hl 1 rfl) ?_
    refine li_icmp_ge (tgt := 35) hx hb dX7_noteStuck_4 (by decide) h2 h1 (fun c_1 => ?_) (fun c_1 => ?_)
    · replace hw := hw.1 c_1
      exact g_vret hx hb hr hlk I hw dX7_noteStuck_35
    · replace hw := hw.2 c_1
      refine lv_aload_n hx hb dX7_noteStuck_7 rfl (lv_at hl 0 rfl) ?_
      refine xg_7_1 hx hb hts wu_X7 hown I wf_X7_9 dX7_noteStuck_8 ?_
      refine lv_iload_n hx hb dX7_noteStuck_11 rfl (lv_at hl 2 rfl) ?_
      refine lv_aload_n hx hb dX7_noteStuck_12 rfl (lv_at hl 0 rfl) ?_
      refine xg_7_2 hx hb hts wu_X7 hown I wf_X7_18 dX7_noteStuck_13 ?_
      refine lv_iload_n hx hb dX7_noteStuck_16 rfl (lv_at hl 2 rfl) ?_
      refine g_callVi (o := (8 + 1)) (As := [.int (i32 x2)]) (rest := [.int (i32 x2), .ref (g.2.2.2 27)]) ⟨hx, hb, hml, hown, hts⟩ I (mX5_isReached l g 1 (Or.inr rfl) x2 h2 M _ _ hw) (cwV 1 hts (gd_V wm_X7_71 wi_X5_isReached wl_X5_isReached wn_X5 wc_X5_isReached) rfl rfl rfl wd_X5_isReached ⟨Nat.le_of_ble_eq_true rfl, Nat.le_of_ble_eq_true rfl⟩) (by omega) (by omega) (obX_N (Or.inr rfl)) rfl rfl hl.1 rfl (Nat.le_of_ble_eq_true rfl) dX7_noteStuck_17 ⟨Nat.zero_le _, Nat.zero_le _⟩ (fun r17_1 M17_1 H locs hr17_1 hw I => ?_)
      refine li_if_eq (tgt := 27) hx hb dX7_noteStuck_20 (by decide) hr17_1 (fun c_3 => ?_) (fun c_3 => ?_)
      · replace hw := hw.1 c_3
        refine li_iconst hx hb dX7_noteStuck_27 ?_
        exact bX7_noteStuck_28 C post (fun y1 y2 N => lpX7_noteStuck_2 post n y1 y2 N) ih x1 x2 0 x2 h1 h2 (by decide) h2 _ _ _ _ hw I (lv_sub hl [0, 1, 2] rfl)
      · replace hw := hw.2 c_3
        refine li_iconst hx hb dX7_noteStuck_23 ?_
        refine lv_goto (tgt := 28) hx hb dX7_noteStuck_24 (by decide) ?_
        exact bX7_noteStuck_28 C post (fun y1 y2 N => lpX7_noteStuck_2 post n y1 y2 N) ih x1 x2 1 x2 h1 h2 (by decide) h2 _ _ _ _ hw I (lv_sub hl [0, 1, 2] rfl)
set_option maxRecDepth 100000 in
set_option maxHeartbeats 4000000 in
theorem mX7_noteStuck (l : Launch) (g : GP) (a1 : Int) (ha1 : inR a1) (M : Mem) (post : Mem → Prop) (sz : Nat) (hw : wpX7_noteStuck a1 M post) : MVX l yX7_noteStuck wtX7_noteStuck rmX7_noteStuck g [.ref (g.2.2.2 7), .int (i32 a1)] M sz post := by
  refine Met.ofW (cc := cX7_noteStuck) (maxL := 3) (ret := none) (by decide) rfl ?_
  intro p e s m args below meth c s₁ B hml hv
  obtain ⟨rfl, hpre⟩ := hv
  have hsz := hpre.1
  subst hsz
  have C : Cx p m c cX7_noteStuck 3 s _ lw_g RX7 meth none := ⟨⟨B.exec, B.bytes, hml, findClass_of_methodNamed B.named, fun w h => atoms_spec (ws := wtX7_noteStuck) B.pre w (List.mem_cons_of_mem _ h)⟩, B.returns, B.notSynchronized⟩
  obtain ⟨⟨hx, hb, hml, hown, hts⟩, hr, hlk⟩ := id C
  have I := InG.start hpre
  have hl := lv_entry ([.ref (g.2.2.2 7), .int (i32 a1)]) (n := 3) (Nat.le_of_ble_eq_true rfl)
  rw [lg_entry_eq]
  generalize (lg_sl ([.ref (g.2.2.2 7), .int (i32 a1)]) ++ List.replicate (3 - (lg_sl ([.ref (g.2.2.2 7), .int (i32 a1)])).length) Slot.unset).toArray = ls at hl ⊢
  have hl : lv_has ls 3 [(0, .ref (g.2.2.2 7)), (1, .int (i32 a1))] := hl
  show W p l e rmX7_noteStuck s m _ below meth c s.heap [] 0 0 (QVX below _ s g post) _
  refine li_iconst hx hb dX7_noteStuck_0 ?_
  refine lv_istore_n (lv' := [(2, .int (i32 0)), (0, .ref (g.2.2.2 7)), (1, .int (i32 a1))]) hx hb dX7_noteStuck_1 rfl hl (by decide) rfl (fun ls hl => ?_)
  obtain ⟨n1, hw⟩ := hw
  exact bX7_noteStuck_2 C post n1 a1 0 ha1 (by decide) _ _ _ _ hw I (lv_sub hl [1, 2, 0] rfl)
abbrev rmX7_distanceAbove : Room := { frames := 1, cells := 0, slots := 0, locals := 21 }
abbrev wtX7_distanceAbove : List Cond := Cond.code yX7_distanceAbove cX7_distanceAbove 5 (some .int) :: lw_g
set_option maxRecDepth 100000 in
set_option maxHeartbeats 4000000 in
theorem bX7_distanceAbove_52 {p : Program} {l : Launch} {e : Env} {s : State} {m : MethodId} {args : Array Value} {below : List Frame} {meth : Method} {c : Code} {g : GP} (C : Cx p m c cX7_distanceAbove 5 s args lw_g RX7 meth (some .int)) (post : Int → Mem → Prop) (k5 : Int → Int → Int → Mem → Prop) (k16 : Int → Int → Int → Int → Mem → Prop) (hk5 : ∀ (x1 x2 x3 : Int), inR x1 → inR x2 → inR x3 → ∀ (M : Mem) (H : Heap) (locs : List Loc) (ls : Array Slot), k5 x1 x2 x3 M → IX g s M H locs → lv_has ls 5 [(0, .ref (g.2.2.2 1)), (1, .int (i32 x1)), (2, .int (i32 x2)), (3, .int (i32 x3))] → W p l e rmX7_distanceAbove s m args below meth c H locs 0 0 (QIX below args s g post) (F0 m 5 ls [])) (hk16 : ∀ (x1 x2 x3 x4 : Int), inR x1 → inR x2 → inR x3 → inR x4 → ∀ (M : Mem) (H : Heap) (locs : List Loc) (ls : Array Slot), k16 x1 x2 x3 x4 M → IX g s M H locs → lv_has ls 5 [(0, .ref (g.2.2.2 1)), (1, .int (i32 x1)), (2, .int (i32 x2)), (3, .int (i32 x3)), (4, .int (i32 x4))] → W p l e rmX7_distanceAbove s m args below meth c H locs 0 0 (QIX below args s g post) (F0 m 16 ls [])) : ∀ (x1 x2 x3 x4 : Int), inR x1 → inR x2 → inR x3 → inR x4 → ∀ (M : Mem) (H : Heap) (locs : List Loc) (ls : Array Slot), jbX7_distanceAbove_52 post k5 k16 x1 x2 x3 x4 M → IX g s M H locs → lv_has ls 5 [(0, .ref (g.2.2.2 1)), (1, .int (i32 x1)), (2, .int (i32 x2)), (3, .int (i32 x3)), (4, .int (i32 x4))] → W p l e rmX7_distanceAbove s m args below meth c H locs 0 0 (QIX below args s g post) (F0 m 52 ls []) := by
  obtain ⟨⟨hx, hb, hml, hown, hts⟩, hr, hlk⟩ := id C
  intro x1 x2 x3 x4 h1 h2 h3 h4 M H locs ls hw I hl
  refine li_iinc (lv' := [(4, .int (i32 (x4 + 1))), (0, .ref (g.2.2.2 1)), (1, .int (i32 x1)), (2, .int (i32 x2)), (3, .int (i32 x3))]) hx hb dX7_distanceAbove_52 hl (k := 4) rfl (by decide) rfl (fun ls hl => ?_)
  refine lv_goto (tgt := 16) hx hb dX7_distanceAbove_55 (by decide) ?_
  obtain ⟨h_1, hw⟩ := hw
  exact hk16 x1 x2 x3 (x4 + 1) h1 h2 h3 h_1 _ _ _ _ hw I (lv_sub hl [1, 2, 3, 4, 0] rfl)
set_option maxRecDepth 100000 in
set_option maxHeartbeats 4000000 in
theorem bX7_distanceAbove_16 {p : Program} {l : Launch} {e : Env} {s : State} {m : MethodId} {args : Array Value} {below : List Frame} {meth : Method} {c : Code} {g : GP} (C : Cx p m c cX7_distanceAbove 5 s args lw_g RX7 meth (some .int)) (post : Int → Mem → Prop) (k5 : Int → Int → Int → Mem → Prop) (hk5 : ∀ (x1 x2 x3 : Int), inR x1 → inR x2 → inR x3 → ∀ (M : Mem) (H : Heap) (locs : List Loc) (ls : Array Slot), k5 x1 x2 x3 M → IX g s M H locs → lv_has ls 5 [(0, .ref (g.2.2.2 1)), (1, .int (i32 x1)), (2, .int (i32 x2)), (3, .int (i32 x3))] → W p l e rmX7_distanceAbove s m args below meth c H locs 0 0 (QIX below args s g post) (F0 m 5 ls [])) : ∀ (n : Nat), ∀ (x1 x2 x3 x4 : Int), inR x1 → inR x2 → inR x3 → inR x4 → ∀ (M : Mem) (H : Heap) (locs : List Loc) (ls : Array Slot), lpX7_distanceAbove_16 post k5 n x1 x2 x3 x4 M → IX g s M H locs → lv_has ls 5 [(0, .ref (g.2.2.2 1)), (1, .int (i32 x1)), (2, .int (i32 x2)), (3, .int (i32 x3)), (4, .int (i32 x4))] → W p l e rmX7_distanceAbove s m args below meth c H locs 0 0 (QIX below args s g post) (F0 m 16 ls []) := by
  obtain ⟨⟨hx, hb, hml, hown, hts⟩, hr, hlk⟩ := id C
  intro n
  induction n with
  | zero =>
    intro x1 x2 x3 x4 h1 h2 h3 h4 M H locs ls hw
    exact hw.elim
  | succ n ih =>
    intro x1 x2 x3 x4 h1 h2 h3 h4 M H locs ls hw I hl
    refine lv_iload hx hb dX7_distanceAbove_16 (lv_at hl 4 rfl) ?_
    refine lv_aload_n hx hb dX7_distanceAbove_18 rfl (lv_at hl 0 rfl) ?_
    refine xg_1_0 hx hb hts wu_X3 hown I wf_X7_22 dX7_distanceAbove_19 ?_
    have h_1 := I.rng 1 0
    refine li_icmp_ge (tgt := 58) hx hb dX7_distanceAbove_22 (by decide) h4 h_1 (fun c_2 => ?_) (fun c_2 => ?_)
    · replace hw := hw.1 c_2
      refine li_iinc (lv' := [(3, .int (i32 (x3 + 1))), (0, .ref (g.2.2.2 1)), (1, .int (i32 x1)), (2, .int (i32 x2)), (4, .int (i32 x4))]) hx hb dX7_distanceAbove_58 hl (k := 3) rfl (by decide) rfl (fun ls hl => ?_)
      refine lv_goto (tgt := 5) hx hb dX7_distanceAbove_61 (by decide) ?_
      obtain ⟨h_3, hw⟩ := hw
      exact hk5 x1 x2 (x3 + 1) h1 h2 h_3 _ _ _ _ hw I (lv_sub hl [1, 2, 3, 0] rfl)
    · replace hw := hw.2 c_2
      refine lv_aload_n hx hb dX7_distanceAbove_25 rfl (lv_at hl 0 rfl) ?_
      refine xg_1_7 hx hb hts wu_X3 hown I wf_X7_66 dX7_distanceAbove_26 ?_
      refine lv_iload_n hx hb dX7_distanceAbove_29 rfl (lv_at hl 3 rfl) ?_
      obtain ⟨h_4, hw⟩ := hw
      refine x_aald_11 hx hb I h_4 dX7_distanceAbove_30 ?_
      refine lv_iload hx hb dX7_distanceAbove_31 (lv_at hl 4 rfl) ?_
      obtain ⟨h_5, hw⟩ := hw
      refine x_iald hx hb I (50 + x3) (lenX_50 h_4) h_5 dX7_distanceAbove_33 ?_
      have h_6 := I.rng (50 + x3) x4
      refine lv_iload_n hx hb dX7_distanceAbove_34 rfl (lv_at hl 1 rfl) ?_
      refine li_icmp_le (tgt := 52) hx hb dX7_distanceAbove_35 (by decide) h_6 h1 (fun c_7 => ?_) (fun c_7 => ?_)
      · replace hw := hw.1 c_7
        exact bX7_distanceAbove_52 C post k5 (fun y1 y2 y3 y4 N => lpX7_distanceAbove_16 post k5 n y1 y2 y3 y4 N) hk5 ih x1 x2 x3 x4 h1 h2 h3 h4 _ _ _ _ hw I (lv_sub hl [0, 1, 2, 3, 4] rfl)
      · replace hw := hw.2 c_7
        refine lv_iload_n hx hb dX7_distanceAbove_38 rfl (lv_at hl 2 rfl) ?_
        refine lv_aload_n hx hb dX7_distanceAbove_39 rfl (lv_at hl 0 rfl) ?_
        refine xg_1_7 hx hb hts wu_X3 hown I wf_X7_66 dX7_distanceAbove_40 ?_
        refine lv_iload_n hx hb dX7_distanceAbove_43 rfl (lv_at hl 3 rfl) ?_
        obtain ⟨h_8, hw⟩ := hw
        refine x_aald_11 hx hb I h_8 dX7_distanceAbove_44 ?_
        refine lv_iload hx hb dX7_distanceAbove_45 (lv_at hl 4 rfl) ?_
        obtain ⟨h_9, hw⟩ := hw
        refine x_iald hx hb I (50 + x3) (lenX_50 h_8) h_9 dX7_distanceAbove_47 ?_
        have h_10 := I.rng (50 + x3) x4
        refine g_mmin hx hb (hml.trans hl.1.symm) hts hown wm_X7_75 wa_min wn_J9 wc_min (Nat.le_of_ble_eq_true rfl) (Nat.le_of_ble_eq_true rfl) (Nat.zero_le _) (Nat.zero_le _) h2 h_10 dX7_distanceAbove_48 ?_
        refine li_name (fun v51_10 ev51_10 => ?_)
        replace hw := hw v51_10 ev51_10
        have hv51_10 : inR v51_10 := ev51_10 ▸ (inR_min h2 h_10)
        refine lv_istore_n (lv' := [(2, .int (i32 v51_10)), (0, .ref (g.2.2.2 1)), (1, .int (i32 x1)), (3, .int (i32 x3)), (4, .int (i32 x4))]) hx hb dX7_distanceAbove_51 rfl hl (by decide) rfl (fun ls hl => ?_)
        exact bX7_distanceAbove_52 C post k5 (fun y1 y2 y3 y4 N => lpX7_distanceAbove_16 post k5 n y1 y2 y3 y4 N) hk5 ih x1 v51_10 x3 x4 h1 hv51_10 h3 h4 _ _ _ _ hw I (lv_sub hl [1, 2, 0, 3, 4] rfl)
set_option maxRecDepth 100000 in
set_option maxHeartbeats 4000000 in
theorem bX7_distanceAbove_5 {p : Program} {l : Launch} {e : Env} {s : State} {m : MethodId} {args : Array Value} {below : List Frame} {meth : Method} {c : Code} {g : GP} (C : Cx p m c cX7_distanceAbove 5 s args lw_g RX7 meth (some .int)) (post : Int → Mem → Prop) : ∀ (n : Nat), ∀ (x1 x2 x3 : Int), inR x1 → inR x2 → inR x3 → ∀ (M : Mem) (H : Heap) (locs : List Loc) (ls : Array Slot), lpX7_distanceAbove_5 post n x1 x2 x3 M → IX g s M H locs → lv_has ls 5 [(0, .ref (g.2.2.2 1)), (1, .int (i32 x1)), (2, .int (i32 x2)), (3, .int (i32 x3))] → W p l e rmX7_distanceAbove s m args below meth c H locs 0 0 (QIX below args s g post) (F0 m 5 ls []) := by
  obtain ⟨⟨hx, hb, hml, hown, hts⟩, hr, hlk⟩ := id C
  intro n
  induction n with
  | zero =>
    intro x1 x2 x3 h1 h2 h3 M H locs ls hw
    exact hw.elim
  | succ n ih =>
    intro x1 x2 x3 h1 h2 h3 M H locs ls hw I hl
    refine lv_iload_n hx hb dX7_distanceAbove_5 rfl (lv_at hl 3 rfl) ?_
    refine lv_aload_n hx hb dX7_distanceAbove_6 rfl (lv_at hl 0 rfl) ?_
    refine xg_1_0 hx hb hts wu_X3 hown I wf_X7_22 dX7_distanceAbove_7 ?_
    have h_1 := I.rng 1 0
    refine li_icmp_ge (tgt := 64) hx hb dX7_distanceAbove_10 (by decide) h3 h_1 (fun c_2 => ?_) (fun c_2 => ?_)
    · replace hw := hw.1 c_2
      refine lv_iload_n hx hb dX7_distanceAbove_64 rfl (lv_at hl 2 rfl) ?_
      exact g_iret hx hb hr hlk I h2 hw dX7_distanceAbove_65
    · replace hw := hw.2 c_2
      refine li_iconst hx hb dX7_distanceAbove_13 ?_
      refine lv_istore (lv' := [(4, .int (i32 0)), (0, .ref (g.2.2.2 1)), (1, .int (i32 x1)), (2, .int (i32 x2)), (3, .int (i32 x3))]) hx hb dX7_distanceAbove_14 hl (by decide) rfl (fun ls hl => ?_)
      obtain ⟨n1, hw⟩ := hw
      exact bX7_distanceAbove_16 C post (fun y1 y2 y3 N => lpX7_distanceAbove_5 post n y1 y2 y3 N) ih n1 x1 x2 x3 0 h1 h2 h3 (by decide) _ _ _ _ hw I (lv_sub hl [1, 2, 3, 4, 0] rfl)
set_option maxRecDepth 100000 in
set_option maxHeartbeats 4000000 in
theorem mX7_distanceAbove (l : Launch) (g : GP) (a1 : Int) (ha1 : inR a1) (M : Mem) (post : Int → Mem → Prop) (sz : Nat) (hw : wpX7_distanceAbove a1 M post) : MIX l yX7_distanceAbove wtX7_distanceAbove rmX7_distanceAbove g [.ref (g.2.2.2 1), .int (i32 a1)] M sz post := by
  refine Met.ofW (cc := cX7_distanceAbove) (maxL := 5) (ret := (some .int)) (by decide) rfl ?_
  intro p e s m args below meth c s₁ B hml hv
  obtain ⟨rfl, hpre⟩ := hv
  have hsz := hpre.1
  subst hsz
  have C : Cx p m c cX7_distanceAbove 5 s _ lw_g RX7 meth (some .int) := ⟨⟨B.exec, B.bytes, hml, findClass_of_methodNamed B.named, fun w h => atoms_spec (ws := wtX7_distanceAbove) B.pre w (List.mem_cons_of_mem _ h)⟩, B.returns, B.notSynchronized⟩
  obtain ⟨⟨hx, hb, hml, hown, hts⟩, hr, hlk⟩ := id C
  have I := InG.start hpre
  have hl := lv_entry ([.ref (g.2.2.2 1), .int (i32 a1)]) (n := 5) (Nat.le_of_ble_eq_true rfl)
  rw [lg_entry_eq]
  generalize (lg_sl ([.ref (g.2.2.2 1), .int (i32 a1)]) ++ List.replicate (5 - (lg_sl ([.ref (g.2.2.2 1), .int (i32 a1)])).length) Slot.unset).toArray = ls at hl ⊢
  have hl : lv_has ls 5 [(0, .ref (g.2.2.2 1)), (1, .int (i32 a1))] := hl
  show W p l e rmX7_distanceAbove s m _ below meth c s.heap [] 0 0 (QIX below _ s g post) _
  refine lv_ldc (v := i32 1000000) hx hb hown (hts _ wk_X7_70) dX7_distanceAbove_0 ?_
  refine lv_istore_n (lv' := [(2, .int (i32 1000000)), (0, .ref (g.2.2.2 1)), (1, .int (i32 a1))]) hx hb dX7_distanceAbove_2 rfl hl (by decide) rfl (fun ls hl => ?_)
  refine li_iconst hx hb dX7_distanceAbove_3 ?_
  refine lv_istore_n (lv' := [(3, .int (i32 0)), (2, .int (i32 1000000)), (0, .ref (g.2.2.2 1)), (1, .int (i32 a1))]) hx hb dX7_distanceAbove_4 rfl hl (by decide) rfl (fun ls hl => ?_)
  obtain ⟨n1, hw⟩ := hw
  exact bX7_distanceAbove_5 C post n1 a1 1000000 0 ha1 (by decide) (by decide) _ _ _ _ hw I (lv_sub hl [2, 3, 1, 0] rfl)
abbrev rmX7_make : Room := { frames := 3, cells := 0, slots := 0, locals := 73 }
abbrev wtX7_make : List Cond := Cond.code yX7_make cX7_make 6 none :: lw_g
set_option maxRecDepth 100000 in
set_option maxHeartbeats 4000000 in
theorem bX7_make_103 {p : Program} {l : Launch} {e : Env} {s : State} {m : MethodId} {args : Array Value} {below : List Frame} {meth : Method} {c : Code} {g : GP} (r2 : Int) (r3 : Int) (C : Cx p m c cX7_make 6 s args lw_g RX7 meth none) (post : Mem → Prop) : ∀ (M : Mem) (H : Heap) (locs : List Loc) (ls : Array Slot), jbX7_make_103 r2 r3 post  M → IX g s M H locs → lv_has ls 6 [(0, .ref (g.2.2.2 7)), (1, .ref (g.2.2.2 1)), (2, .ref (g.2.2.2 r2)), (3, .ref (g.2.2.2 r3))] → W p l e rmX7_make s m args below meth c H locs 0 0 (QVX below args s g post) (F0 m 103 ls []) := by
  obtain ⟨⟨hx, hb, hml, hown, hts⟩, hr, hlk⟩ := id C
  intro M H locs ls hw I hl
  exact g_vret hx hb hr hlk I hw dX7_make_103
set_option maxRecDepth 100000 in
set_option maxHeartbeats 4000000 in
theorem bX7_make_42 {p : Program} {l : Launch} {e : Env} {s : State} {m : MethodId} {args : Array Value} {below : List Frame} {meth : Method} {c : Code} {g : GP} (r2 : Int) (r3 : Int) (C : Cx p m c cX7_make 6 s args lw_g RX7 meth none) (post : Mem → Prop) : ∀ (n : Nat), ∀ (x4 x5 : Int), inR x4 → inR x5 → ∀ (M : Mem) (H : Heap) (locs : List Loc) (ls : Array Slot), lpX7_make_42 r2 r3 post n x4 x5 M → IX g s M H locs → lv_has ls 6 [(0, .ref (g.2.2.2 7)), (1, .ref (g.2.2.2 1)), (2, .ref (g.2.2.2 r2)), (3, .ref (g.2.2.2 r3)), (4, .int (i32 x4)), (5, .int (i32 x5))] → W p l e rmX7_make s m args below meth c H locs 0 0 (QVX below args s g post) (F0 m 42 ls []) := by
  obtain ⟨⟨hx, hb, hml, hown, hts⟩, hr, hlk⟩ := id C
  intro n
  induction n with
  | zero =>
    intro x4 x5 h4 h5 M H locs ls hw
    exact hw.elim
  | succ n ih =>
    intro x4 x5 h4 h5 M H locs ls hw I hl
    refine lv_iload hx hb dX7_make_42 (lv_at hl 5 rfl) ?_
    refine lv_bipush (v := i32 100) hx hb dX7_make_44 (by decide) ?_
    refine li_icmp_ge (tgt := 103) hx hb dX7_make_46 (by decide) h5 (by decide) (fun c_1 => ?_) (fun c_1 => ?_)
    · replace hw := hw.1 c_1
      exact bX7_make_103 r2 r3 C post _ _ _ _ hw I (lv_sub hl [0, 1, 2, 3] rfl)
    · replace hw := hw.2 c_1
      refine lv_aload_n hx hb dX7_make_49 rfl (lv_at hl 0 rfl) ?_
      refine xg_7_2 hx hb hts wu_X7 hown I wf_X7_18 dX7_make_50 ?_
      refine xg_N_1 (z := 1) (Or.inr rfl) hx hb hts wu_X5 hown I wf_X7_49 dX7_make_53 ?_
      have h_2 := I.rng (8 + 1) 1
      refine lv_iload hx hb dX7_make_56 (lv_at hl 4 rfl) ?_
      refine li_icmp_ge (tgt := 103) hx hb dX7_make_58 (by decide) h_2 h4 (fun c_3 => ?_) (fun c_3 => ?_)
      · replace hw := hw.1 c_3
        exact bX7_make_103 r2 r3 C post _ _ _ _ hw I (lv_sub hl [0, 1, 2, 3] rfl)
      · replace hw := hw.2 c_3
        refine lv_aload_n hx hb dX7_make_61 rfl (lv_at hl 0 rfl) ?_
        refine lv_aload_n hx hb dX7_make_62 rfl (lv_at hl 1 rfl) ?_
        refine xg_1_0 hx hb hts wu_X3 hown I wf_X7_22 dX7_make_63 ?_
        have h_4 := I.rng 1 0
        refine g_callVv (o := 7) (As := [.int (i32 (M 1 0))]) (rest := []) ⟨hx, hb, hml, hown, hts⟩ I (mX7_noteStuck l g (M 1 0) h_4 M _ _ hw) (cwV 1 hts (gd_V wm_X7_52 wi_X7_noteStuck wl_X7_noteStuck wn_X7 wc_X7_noteStuck) rfl rfl rfl wd_X7_noteStuck ⟨Nat.le_of_ble_eq_true rfl, Nat.le_of_ble_eq_true rfl⟩) (by omega) (by omega) obX_7 rfl rfl hl.1 rfl (Nat.le_of_ble_eq_true rfl) dX7_make_66 ⟨Nat.zero_le _, Nat.zero_le _⟩ (fun M66_4 H locs hw I => ?_)
        refine lv_aload_n hx hb dX7_make_69 rfl (lv_at hl 0 rfl) ?_
        refine lv_aload_n hx hb dX7_make_70 rfl (lv_at hl 1 rfl) ?_
        refine lv_aload_n hx hb dX7_make_71 rfl (lv_at hl 0 rfl) ?_
        refine xg_7_0 hx hb hts wu_X7 hown I wf_X7_38 dX7_make_72 ?_
        have h_6 := I.rng 7 0
        refine g_callSi (As := [.ref (g.2.2.2 1), .int (i32 (M66_4 7 0))]) (rest := [.ref (g.2.2.2 7)]) ⟨hx, hb, hml, hown, hts⟩ I (mX7_distanceAbove l g (M66_4 7 0) h_6 M66_4 _ _ hw) (va_cwS 2 hts (gd_S wm_X7_55 wa_X7_distanceAbove wn_X7 wc_X7_distanceAbove) rfl rfl rfl wd_X7_distanceAbove ⟨Nat.le_of_ble_eq_true rfl, Nat.le_of_ble_eq_true rfl⟩) rfl hl.1 rfl (Nat.le_of_ble_eq_true rfl) dX7_make_75 ⟨Nat.zero_le _, Nat.zero_le _⟩ (fun r75_6 M75_6 H locs hr75_6 hw I => ?_)
        refine xp_7_0 hx hb hts wu_X7 hown I wf_X7_38 hr75_6 dX7_make_78 (fun H locs M78_7 eM78_7 I => ?_)
        replace hw := hw M78_7 eM78_7
        refine lv_aload_n hx hb dX7_make_81 rfl (lv_at hl 0 rfl) ?_
        refine lv_aload_n hx hb dX7_make_82 rfl (lv_at hl 1 rfl) ?_
        refine lv_aload_n hx hb dX7_make_83 rfl (lv_at hl 2 rfl) ?_
        refine lv_aload_n hx hb dX7_make_84 rfl (lv_at hl 3 rfl) ?_
        refine g_callVv (o := 7) (As := [.ref (g.2.2.2 1), .ref (g.2.2.2 r2), .ref (g.2.2.2 r3)]) (rest := []) ⟨hx, hb, hml, hown, hts⟩ I (mX7_joinDistance l g r2 r3 M78_7 _ _ hw) (cwV 3 hts (gd_V wm_X7_41 wi_X7_joinDistance wl_X7_joinDistance wn_X7 wc_X7_joinDistance) rfl rfl rfl wd_X7_joinDistance ⟨Nat.le_of_ble_eq_true rfl, Nat.le_of_ble_eq_true rfl⟩) (by omega) (by omega) obX_7 rfl rfl hl.1 rfl (Nat.le_of_ble_eq_true rfl) dX7_make_85 ⟨Nat.zero_le _, Nat.zero_le _⟩ (fun M85_8 H locs hw I => ?_)
        refine lv_aload_n hx hb dX7_make_88 rfl (lv_at hl 0 rfl) ?_
        refine xg_7_2 hx hb hts wu_X7 hown I wf_X7_18 dX7_make_89 ?_
        refine lv_iload hx hb dX7_make_92 (lv_at hl 4 rfl) ?_
        refine g_callVv (o := (8 + 1)) (As := [.int (i32 x4)]) (rest := []) ⟨hx, hb, hml, hown, hts⟩ I (mX5_push l g 1 (Or.inr rfl) x4 h4 M85_8 _ _ hw) (cwV 1 hts (gd_V wm_X7_45 wi_X5_push wl_X5_push wn_X5 wc_X5_push) rfl rfl rfl wd_X5_push ⟨Nat.le_of_ble_eq_true rfl, Nat.le_of_ble_eq_true rfl⟩) (by omega) (by omega) (obX_N (Or.inr rfl)) rfl rfl hl.1 rfl (Nat.le_of_ble_eq_true rfl) dX7_make_94 ⟨Nat.zero_le _, Nat.zero_le _⟩ (fun M94_9 H locs hw I => ?_)
        refine li_iinc (lv' := [(5, .int (i32 (x5 + 1))), (0, .ref (g.2.2.2 7)), (1, .ref (g.2.2.2 1)), (2, .ref (g.2.2.2 r2)), (3, .ref (g.2.2.2 r3)), (4, .int (i32 x4))]) hx hb dX7_make_97 hl (k := 5) rfl (by decide) rfl (fun ls hl => ?_)
        refine lv_goto (tgt := 42) hx hb dX7_make_100 (by decide) ?_
        obtain ⟨h_11, hw⟩ := hw
        exact ih x4 (x5 + 1) h4 h_11 _ _ _ _ hw I (lv_sub hl [1, 2, 3, 4, 5, 0] rfl)
set_option maxRecDepth 100000 in
set_option maxHeartbeats 4000000 in
theorem mX7_make (l : Launch) (g : GP) (r2 : Int) (r3 : Int) (a4 : Int) (ha4 : inR a4) (M : Mem) (post : Mem → Prop) (sz : Nat) (hw : wpX7_make r2 r3 a4 M post) : MVX l yX7_make wtX7_make rmX7_make g [.ref (g.2.2.2 7), .ref (g.2.2.2 1), .ref (g.2.2.2 r2), .ref (g.2.2.2 r3), .int (i32 a4)] M sz post := by
  refine Met.ofW (cc := cX7_make) (maxL := 6) (ret := none) (by decide) rfl ?_
  intro p e s m args below meth c s₁ B hml hv
  obtain ⟨rfl, hpre⟩ := hv
  have hsz := hpre.1
  subst hsz
  have C : Cx p m c cX7_make 6 s _ lw_g RX7 meth none := ⟨⟨B.exec, B.bytes, hml, findClass_of_methodNamed B.named, fun w h => atoms_spec (ws := wtX7_make) B.pre w (List.mem_cons_of_mem _ h)⟩, B.returns, B.notSynchronized⟩
  obtain ⟨⟨hx, hb, hml, hown, hts⟩, hr, hlk⟩ := id C
  have I := InG.start hpre
  have hl := lv_entry ([.ref (g.2.2.2 7), .ref (g.2.2.2 1), .ref (g.2.2.2 r2), .ref (g.2.2.2 r3), .int (i32 a4)]) (n := 6) (Nat.le_of_ble_eq_true rfl)
  rw [lg_entry_eq]
  generalize (lg_sl ([.ref (g.2.2.2 7), .ref (g.2.2.2 1), .ref (g.2.2.2 r2), .ref (g.2.2.2 r3), .int (i32 a4)]) ++ List.replicate (6 - (lg_sl ([.ref (g.2.2.2 7), .ref (g.2.2.2 1), .ref (g.2.2.2 r2), .ref (g.2.2.2 r3), .int (i32 a4)])).length) Slot.unset).toArray = ls at hl ⊢
  have hl : lv_has ls 6 [(0, .ref (g.2.2.2 7)), (1, .ref (g.2.2.2 1)), (2, .ref (g.2.2.2 r2)), (3, .ref (g.2.2.2 r3)), (4, .int (i32 a4))] := hl
  show W p l e rmX7_make s m _ below meth c s.heap [] 0 0 (QVX below _ s g post) _
  refine lv_aload_n hx hb dX7_make_0 rfl (lv_at hl 0 rfl) ?_
  refine lv_aload_n hx hb dX7_make_1 rfl (lv_at hl 1 rfl) ?_
  refine xg_1_0 hx hb hts wu_X3 hown I wf_X7_22 dX7_make_2 ?_
  have h_1 := I.rng 1 0
  refine lv_aload_n hx hb dX7_make_5 rfl (lv_at hl 2 rfl) ?_
  refine lv_aload_n hx hb dX7_make_6 rfl (lv_at hl 3 rfl) ?_
  refine g_callVv (o := 7) (As := [.int (i32 (M 1 0)), .ref (g.2.2.2 r2), .ref (g.2.2.2 r3)]) (rest := []) ⟨hx, hb, hml, hown, hts⟩ I (mX7_joinEnds l g r2 r3 (M 1 0) h_1 M _ _ hw) (cwV 3 hts (gd_V wm_X7_28 wi_X7_joinEnds wl_X7_joinEnds wn_X7 wc_X7_joinEnds) rfl rfl rfl wd_X7_joinEnds ⟨Nat.le_of_ble_eq_true rfl, Nat.le_of_ble_eq_true rfl⟩) (by omega) (by omega) obX_7 rfl rfl hl.1 rfl (Nat.le_of_ble_eq_true rfl) dX7_make_7 ⟨Nat.zero_le _, Nat.zero_le _⟩ (fun M7_1 H locs hw I => ?_)
  refine lv_aload_n hx hb dX7_make_10 rfl (lv_at hl 0 rfl) ?_
  refine xg_7_1 hx hb hts wu_X7 hown I wf_X7_9 dX7_make_11 ?_
  refine li_iconst hx hb dX7_make_14 ?_
  refine g_callSv (As := [.ref (g.2.2.2 27), .int (i32 0)]) (rest := []) ⟨hx, hb, hml, hown, hts⟩ I (mJ7_fill_53178 l g 27 0 (by decide) M7_1 _ _ hw) (va_cwS 2 hts (gd_S wm_X7_32 wa_J7_fill_53178 wn_J7 wc_J7_fill_53178) rfl rfl rfl wd_J7_fill_53178 ⟨Nat.le_of_ble_eq_true rfl, Nat.le_of_ble_eq_true rfl⟩) rfl hl.1 rfl (Nat.le_of_ble_eq_true rfl) dX7_make_15 ⟨Nat.zero_le _, Nat.zero_le _⟩ (fun M15_2 H locs hw I => ?_)
  refine lv_aload_n hx hb dX7_make_18 rfl (lv_at hl 0 rfl) ?_
  refine li_iconst hx hb dX7_make_19 ?_
  refine xp_7_0 hx hb hts wu_X7 hown I wf_X7_38 (by decide) dX7_make_20 (fun H locs M20_3 eM20_3 I => ?_)
  replace hw := hw M20_3 eM20_3
  refine lv_aload_n hx hb dX7_make_23 rfl (lv_at hl 0 rfl) ?_
  refine lv_aload_n hx hb dX7_make_24 rfl (lv_at hl 1 rfl) ?_
  refine lv_aload_n hx hb dX7_make_25 rfl (lv_at hl 2 rfl) ?_
  refine lv_aload_n hx hb dX7_make_26 rfl (lv_at hl 3 rfl) ?_
  refine g_callVv (o := 7) (As := [.ref (g.2.2.2 1), .ref (g.2.2.2 r2), .ref (g.2.2.2 r3)]) (rest := []) ⟨hx, hb, hml, hown, hts⟩ I (mX7_joinDistance l g r2 r3 M20_3 _ _ hw) (cwV 3 hts (gd_V wm_X7_41 wi_X7_joinDistance wl_X7_joinDistance wn_X7 wc_X7_joinDistance) rfl rfl rfl wd_X7_joinDistance ⟨Nat.le_of_ble_eq_true rfl, Nat.le_of_ble_eq_true rfl⟩) (by omega) (by omega) obX_7 rfl rfl hl.1 rfl (Nat.le_of_ble_eq_true rfl) dX7_make_27 ⟨Nat.zero_le _, Nat.zero_le _⟩ (fun M27_4 H locs hw I => ?_)
  refine lv_aload_n hx hb dX7_make_30 rfl (lv_at hl 0 rfl) ?_
  refine xg_7_2 hx hb hts wu_X7 hown I wf_X7_18 dX7_make_31 ?_
  refine lv_iload hx hb dX7_make_34 (lv_at hl 4 rfl) ?_
  refine g_callVv (o := (8 + 1)) (As := [.int (i32 a4)]) (rest := []) ⟨hx, hb, hml, hown, hts⟩ I (mX5_push l g 1 (Or.inr rfl) a4 ha4 M27_4 _ _ hw) (cwV 1 hts (gd_V wm_X7_45 wi_X5_push wl_X5_push wn_X5 wc_X5_push) rfl rfl rfl wd_X5_push ⟨Nat.le_of_ble_eq_true rfl, Nat.le_of_ble_eq_true rfl⟩) (by omega) (by omega) (obX_N (Or.inr rfl)) rfl rfl hl.1 rfl (Nat.le_of_ble_eq_true rfl) dX7_make_36 ⟨Nat.zero_le _, Nat.zero_le _⟩ (fun M36_5 H locs hw I => ?_)
  refine li_iconst hx hb dX7_make_39 ?_
  refine lv_istore (lv' := [(5, .int (i32 0)), (0, .ref (g.2.2.2 7)), (1, .ref (g.2.2.2 1)), (2, .ref (g.2.2.2 r2)), (3, .ref (g.2.2.2 r3)), (4, .int (i32 a4))]) hx hb dX7_make_40 hl (by decide) rfl (fun ls hl => ?_)
  obtain ⟨n1, hw⟩ := hw
  exact bX7_make_42 r2 r3 C post n1 a4 0 ha4 (by decide) _ _ _ _ hw I (lv_sub hl [1, 2, 3, 4, 5, 0] rfl)
abbrev rmX8_forgetResults : Room := { frames := 0, cells := 0, slots := 0, locals := 0 }
abbrev wtX8_forgetResults : List Cond := Cond.code yX8_forgetResults cX8_forgetResults 1 none :: lw_g
set_option maxRecDepth 100000 in
set_option maxHeartbeats 4000000 in
theorem mX8_forgetResults (l : Launch) (g : GP) (M : Mem) (post : Mem → Prop) (sz : Nat) (hw : wpX8_forgetResults M post) : MVX l yX8_forgetResults wtX8_forgetResults rmX8_forgetResults g [.ref (g.2.2.2 0)] M sz post := by
  refine Met.ofW (cc := cX8_forgetResults) (maxL := 1) (ret := none) (by decide) rfl ?_
  intro p e s m args below meth c s₁ B hml hv
  obtain ⟨rfl, hpre⟩ := hv
  have hsz := hpre.1
  subst hsz
  have C : Cx p m c cX8_forgetResults 1 s _ lw_g RX8 meth none := ⟨⟨B.exec, B.bytes, hml, findClass_of_methodNamed B.named, fun w h => atoms_spec (ws := wtX8_forgetResults) B.pre w (List.mem_cons_of_mem _ h)⟩, B.returns, B.notSynchronized⟩
  obtain ⟨⟨hx, hb, hml, hown, hts⟩, hr, hlk⟩ := id C
  have I := InG.start hpre
  have hl := lv_entry ([.ref (g.2.2.2 0)]) (n := 1) (Nat.le_of_ble_eq_true rfl)
  rw [lg_entry_eq]
  generalize (lg_sl ([.ref (g.2.2.2 0)]) ++ List.replicate (1 - (lg_sl ([.ref (g.2.2.2 0)])).length) Slot.unset).toArray = ls at hl ⊢
  have hl : lv_has ls 1 [(0, .ref (g.2.2.2 0))] := hl
  show W p l e rmX8_forgetResults s m _ below meth c s.heap [] 0 0 (QVX below _ s g post) _
  refine lv_aload_n hx hb dX8_forgetResults_0 rfl (lv_at hl 0 rfl) ?_
  refine li_iconst hx hb dX8_forgetResults_1 ?_
  refine xp_0_7 hx hb hts wu_X8 hown I wf_X8_58 (by decide) dX8_forgetResults_2 (fun H locs M2_0 eM2_0 I => ?_)
  replace hw := hw M2_0 eM2_0
  refine lv_aload_n hx hb dX8_forgetResults_5 rfl (lv_at hl 0 rfl) ?_
  refine li_iconst hx hb dX8_forgetResults_6 ?_
  refine xp_0_9 hx hb hts wu_X8 hown I wf_X8_65 (by decide) dX8_forgetResults_7 (fun H locs M7_1 eM7_1 I => ?_)
  replace hw := hw M7_1 eM7_1
  exact g_vret hx hb hr hlk I hw dX8_forgetResults_10
abbrev rmX8_noteChange : Room := { frames := 1, cells := 0, slots := 0, locals := 25 }
abbrev wtX8_noteChange : List Cond := Cond.code yX8_noteChange cX8_noteChange 5 none :: lw_g
set_option maxRecDepth 100000 in
set_option maxHeartbeats 4000000 in
theorem mX8_noteChange (l : Launch) (g : GP) (a1 a2 a3 a4 : Int) (ha1 : inR a1) (ha2 : inR a2) (ha3 : inR a3) (ha4 : inR a4) (M : Mem) (post : Mem → Prop) (sz : Nat) (hw : wpX8_noteChange a1 a2 a3 a4 M post) : MVX l yX8_noteChange wtX8_noteChange rmX8_noteChange g [.ref (g.2.2.2 0), .int (i32 a1), .int (i32 a2), .int (i32 a3), .int (i32 a4)] M sz post := by
  refine Met.ofW (cc := cX8_noteChange) (maxL := 5) (ret := none) (by decide) rfl ?_
  intro p e s m args below meth c s₁ B hml hv
  obtain ⟨rfl, hpre⟩ := hv
  have hsz := hpre.1
  subst hsz
  have C : Cx p m c cX8_noteChange 5 s _ lw_g RX8 meth none := ⟨⟨B.exec, B.bytes, hml, findClass_of_methodNamed B.named, fun w h => atoms_spec (ws := wtX8_noteChange) B.pre w (List.mem_cons_of_mem _ h)⟩, B.returns, B.notSynchronized⟩
  obtain ⟨⟨hx, hb, hml, hown, hts⟩, hr, hlk⟩ := id C
  have I := InG.start hpre
  have hl := lv_entry ([.ref (g.2.2.2 0), .int (i32 a1), .int (i32 a2), .int (i32 a3), .int (i32 a4)]) (n := 5) (Nat.le_of_ble_eq_true rfl)
  rw [lg_entry_eq]
  generalize (lg_sl ([.ref (g.2.2.2 0), .int (i32 a1), .int (i32 a2), .int (i32 a3), .int (i32 a4)]) ++ List.replicate (5 - (lg_sl ([.ref (g.2.2.2 0), .int (i32 a1), .int (i32 a2), .int (i32 a3), .int (i32 a4)])).length) Slot.unset).toArray = ls at hl ⊢
  have hl : lv_has ls 5 [(0, .ref (g.2.2.2 0)), (1, .int (i32 a1)), (2, .int (i32 a2)), (3, .int (i32 a3)), (4, .int (i32 a4))] := hl
  show W p l e rmX8_noteChange s m _ below meth c s.heap [] 0 0 (QVX below _ s g post) _
  refine lv_aload_n hx hb dX8_noteChange_0 rfl (lv_at hl 0 rfl) ?_
  refine xg_0_2 hx hb hts wu_X8 hown I wf_X8_26 dX8_noteChange_1 ?_
  refine lv_iload_n hx hb dX8_noteChange_4 rfl (lv_at hl 1 rfl) ?_
  refine lv_iload_n hx hb dX8_noteChange_5 rfl (lv_at hl 2 rfl) ?_
  refine lv_iload_n hx hb dX8_noteChange_6 rfl (lv_at hl 3 rfl) ?_
  refine lv_iload hx hb dX8_noteChange_7 (lv_at hl 4 rfl) ?_
  refine g_callVv (o := 3) (As := [.int (i32 a1), .int (i32 a2), .int (i32 a3), .int (i32 a4)]) (rest := []) ⟨hx, hb, hml, hown, hts⟩ I (mX0_keep l g a1 a2 a3 a4 ha1 ha2 ha3 ha4 M _ _ hw) (cwV 4 hts (gd_V wm_X8_219 wi_X0_keep wl_X0_keep wn_X0 wc_X0_keep) rfl rfl rfl wd_X0_keep ⟨Nat.le_of_ble_eq_true rfl, Nat.le_of_ble_eq_true rfl⟩) (by omega) (by omega) obX_3 rfl rfl hl.1 rfl (Nat.le_of_ble_eq_true rfl) dX8_noteChange_9 ⟨Nat.zero_le _, Nat.zero_le _⟩ (fun M9_0 H locs hw I => ?_)
  refine lv_aload_n hx hb dX8_noteChange_12 rfl (lv_at hl 0 rfl) ?_
  refine g_callVv (o := 0) (As := []) (rest := []) ⟨hx, hb, hml, hown, hts⟩ I (mX8_forgetResults l g M9_0 _ _ hw) (cwV 0 hts (gd_V wm_X8_119 wi_X8_forgetResults wl_X8_forgetResults wn_X8 wc_X8_forgetResults) rfl rfl rfl wd_X8_forgetResults ⟨Nat.le_of_ble_eq_true rfl, Nat.le_of_ble_eq_true rfl⟩) (by omega) (by omega) obX_0 rfl rfl hl.1 rfl (Nat.le_of_ble_eq_true rfl) dX8_noteChange_13 ⟨Nat.zero_le _, Nat.zero_le _⟩ (fun M13_1 H locs hw I => ?_)
  exact g_vret hx hb hr hlk I hw dX8_noteChange_16
abbrev rmX8_place : Room := { frames := 4, cells := 0, slots := 0, locals := 90 }
abbrev wtX8_place : List Cond := Cond.code yX8_place cX8_place 2 (some .int) :: lw_g
set_option maxRecDepth 100000 in
set_option maxHeartbeats 4000000 in
theorem mX8_place (l : Launch) (g : GP) (M : Mem) (post : Int → Mem → Prop) (sz : Nat) (hw : wpX8_place M post) : MIX l yX8_place wtX8_place rmX8_place g [.ref (g.2.2.2 0)] M sz post := by
  refine Met.ofW (cc := cX8_place) (maxL := 2) (ret := (some .int)) (by decide) rfl ?_
  intro p e s m args below meth c s₁ B hml hv
  obtain ⟨rfl, hpre⟩ := hv
  have hsz := hpre.1
  subst hsz
  have C : Cx p m c cX8_place 2 s _ lw_g RX8 meth (some .int) := ⟨⟨B.exec, B.bytes, hml, findClass_of_methodNamed B.named, fun w h => atoms_spec (ws := wtX8_place) B.pre w (List.mem_cons_of_mem _ h)⟩, B.returns, B.notSynchronized⟩
  obtain ⟨⟨hx, hb, hml, hown, hts⟩, hr, hlk⟩ := id C
  have I := InG.start hpre
  have hl := lv_entry ([.ref (g.2.2.2 0)]) (n := 2) (Nat.le_of_ble_eq_true rfl)
  rw [lg_entry_eq]
  generalize (lg_sl ([.ref (g.2.2.2 0)]) ++ List.replicate (2 - (lg_sl ([.ref (g.2.2.2 0)])).length) Slot.unset).toArray = ls at hl ⊢
  have hl : lv_has ls 2 [(0, .ref (g.2.2.2 0))] := hl
  show W p l e rmX8_place s m _ below meth c s.heap [] 0 0 (QIX below _ s g post) _
  refine lv_aload_n hx hb dX8_place_0 rfl (lv_at hl 0 rfl) ?_
  refine xg_0_0 hx hb hts wu_X8 hown I wf_X8_12 dX8_place_1 ?_
  refine xg_1_0 hx hb hts wu_X3 hown I wf_X8_74 dX8_place_4 ?_
  have h_1 := I.rng 1 0
  refine lv_bipush (v := i32 10) hx hb dX8_place_7 (by decide) ?_
  refine li_icmp_lt (tgt := 15) hx hb dX8_place_9 (by decide) h_1 (by decide) (fun c_2 => ?_) (fun c_2 => ?_)
  · replace hw := hw.1 c_2
    refine lv_aload_n hx hb dX8_place_15 rfl (lv_at hl 0 rfl) ?_
    refine xg_0_0 hx hb hts wu_X8 hown I wf_X8_12 dX8_place_16 ?_
    refine g_callVi (o := 1) (As := []) (rest := []) ⟨hx, hb, hml, hown, hts⟩ I (mX3_addPlace l g M _ _ hw) (cwV 0 hts (gd_V wm_X8_77 wi_X3_addPlace wl_X3_addPlace wn_X3 wc_X3_addPlace) rfl rfl rfl wd_X3_addPlace ⟨Nat.le_of_ble_eq_true rfl, Nat.le_of_ble_eq_true rfl⟩) (by omega) (by omega) obX_1 rfl rfl hl.1 rfl (Nat.le_of_ble_eq_true rfl) dX8_place_19 ⟨Nat.zero_le _, Nat.zero_le _⟩ (fun r19_2 M19_2 H locs hr19_2 hw I => ?_)
    refine lv_istore_n (lv' := [(1, .int (i32 r19_2)), (0, .ref (g.2.2.2 0))]) hx hb dX8_place_22 rfl hl (by decide) rfl (fun ls hl => ?_)
    refine lv_aload_n hx hb dX8_place_23 rfl (lv_at hl 1 rfl) ?_
    refine li_iconst hx hb dX8_place_24 ?_
    refine lv_iload_n hx hb dX8_place_25 rfl (lv_at hl 0 rfl) ?_
    refine li_iconst hx hb dX8_place_26 ?_
    refine li_iconst hx hb dX8_place_27 ?_
    refine g_callVv (o := 0) (As := [.int (i32 0), .int (i32 r19_2), .int (i32 (-1)), .int (i32 (-1))]) (rest := []) ⟨hx, hb, hml, hown, hts⟩ I (mX8_noteChange l g 0 r19_2 (-1) (-1) (by decide) hr19_2 (by decide) (by decide) M19_2 _ _ hw) (cwV 4 hts (gd_V wm_X8_81 wi_X8_noteChange wl_X8_noteChange wn_X8 wc_X8_noteChange) rfl rfl rfl wd_X8_noteChange ⟨Nat.le_of_ble_eq_true rfl, Nat.le_of_ble_eq_true rfl⟩) (by omega) (by omega) obX_0 rfl rfl hl.1 rfl (Nat.le_of_ble_eq_true rfl) dX8_place_28 ⟨Nat.zero_le _, Nat.zero_le _⟩ (fun M28_3 H locs hw I => ?_)
    refine lv_iload_n hx hb dX8_place_31 rfl (lv_at hl 0 rfl) ?_
    exact g_iret hx hb hr hlk I hr19_2 hw dX8_place_32
  · replace hw := hw.2 c_2
    refine lv_bipush (v := i32 (-5)) hx hb dX8_place_12 (by decide) ?_
    exact g_iret hx hb hr hlk I (by decide) hw dX8_place_14
abbrev rmX8_road : Room := { frames := 4, cells := 0, slots := 0, locals := 93 }
abbrev wtX8_road : List Cond := Cond.code yX8_road cX8_road 5 (some .int) :: lw_g
set_option maxRecDepth 100000 in
set_option maxHeartbeats 4000000 in
theorem bX8_road_22 {p : Program} {l : Launch} {e : Env} {s : State} {m : MethodId} {args : Array Value} {below : List Frame} {meth : Method} {c : Code} {g : GP} (C : Cx p m c cX8_road 5 s args lw_g RX8 meth (some .int)) (post : Int → Mem → Prop) : ∀ (M : Mem) (H : Heap) (locs : List Loc) (ls : Array Slot), jbX8_road_22 post  M → IX g s M H locs → lv_has ls 5 [(0, .ref (g.2.2.2 0))] → W p l e rmX8_road s m args below meth c H locs 0 0 (QIX below args s g post) (F0 m 22 ls []) := by
  obtain ⟨⟨hx, hb, hml, hown, hts⟩, hr, hlk⟩ := id C
  intro M H locs ls hw I hl
  refine lv_bipush (v := i32 (-2)) hx hb dX8_road_22 (by decide) ?_
  exact g_iret hx hb hr hlk I (by decide) hw dX8_road_24
set_option maxRecDepth 100000 in
set_option maxHeartbeats 4000000 in
theorem bX8_road_42 {p : Program} {l : Launch} {e : Env} {s : State} {m : MethodId} {args : Array Value} {below : List Frame} {meth : Method} {c : Code} {g : GP} (C : Cx p m c cX8_road 5 s args lw_g RX8 meth (some .int)) (post : Int → Mem → Prop) : ∀ (M : Mem) (H : Heap) (locs : List Loc) (ls : Array Slot), jbX8_road_42 post  M → IX g s M H locs → lv_has ls 5 [(0, .ref (g.2.2.2 0))] → W p l e rmX8_road s m args below meth c H locs 0 0 (QIX below args s g post) (F0 m 42 ls []) := by
  obtain ⟨⟨hx, hb, hml, hown, hts⟩, hr, hlk⟩ := id C
  intro M H locs ls hw I hl
  refine lv_bipush (v := i32 (-3)) hx hb dX8_road_42 (by decide) ?_
  exact g_iret hx hb hr hlk I (by decide) hw dX8_road_44
set_option maxRecDepth 100000 in
set_option maxHeartbeats 4000000 in
theorem mX8_road (l : Launch) (g : GP) (a1 a2 a3 : Int) (ha1 : inR a1) (ha2 : inR a2) (ha3 : inR a3) (M : Mem) (post : Int → Mem → Prop) (sz : Nat) (hw : wpX8_road a1 a2 a3 M post) : MIX l yX8_road wtX8_road rmX8_road g [.ref (g.2.2.2 0), .int (i32 a1), .int (i32 a2), .int (i32 a3)] M sz post := by
  refine Met.ofW (cc := cX8_road) (maxL := 5) (ret := (some .int)) (by decide) rfl ?_
  intro p e s m args below meth c s₁ B hml hv
  obtain ⟨rfl, hpre⟩ := hv
  have hsz := hpre.1
  subst hsz
  have C : Cx p m c cX8_road 5 s _ lw_g RX8 meth (some .int) := ⟨⟨B.exec, B.bytes, hml, findClass_of_methodNamed B.named, fun w h => atoms_spec (ws := wtX8_road) B.pre w (List.mem_cons_of_mem _ h)⟩, B.returns, B.notSynchronized⟩
  obtain ⟨⟨hx, hb, hml, hown, hts⟩, hr, hlk⟩ := id C
  have I := InG.start hpre
  have hl := lv_entry ([.ref (g.2.2.2 0), .int (i32 a1), .int (i32 a2), .int (i32 a3)]) (n := 5) (Nat.le_of_ble_eq_true rfl)
  rw [lg_entry_eq]
  generalize (lg_sl ([.ref (g.2.2.2 0), .int (i32 a1), .int (i32 a2), .int (i32 a3)]) ++ List.replicate (5 - (lg_sl ([.ref (g.2.2.2 0), .int (i32 a1), .int (i32 a2), .int (i32 a3)])).length) Slot.unset).toArray = ls at hl ⊢
  have hl : lv_has ls 5 [(0, .ref (g.2.2.2 0)), (1, .int (i32 a1)), (2, .int (i32 a2)), (3, .int (i32 a3))] := hl
  show W p l e rmX8_road s m _ below meth c s.heap [] 0 0 (QIX below _ s g post) _
  refine lv_aload_n hx hb dX8_road_0 rfl (lv_at hl 0 rfl) ?_
  refine xg_0_0 hx hb hts wu_X8 hown I wf_X8_12 dX8_road_1 ?_
  refine lv_iload_n hx hb dX8_road_4 rfl (lv_at hl 1 rfl) ?_
  refine g_callVi (o := 1) (As := [.int (i32 a1)]) (rest := []) ⟨hx, hb, hml, hown, hts⟩ I (mX3_has l g a1 ha1 M _ _ hw) (cwV 1 hts (gd_V wm_X8_85 wi_X3_has wl_X3_has wn_X3 wc_X3_has) rfl rfl rfl wd_X3_has ⟨Nat.le_of_ble_eq_true rfl, Nat.le_of_ble_eq_true rfl⟩) (by omega) (by omega) obX_1 rfl rfl hl.1 rfl (Nat.le_of_ble_eq_true rfl) dX8_road_5 ⟨Nat.zero_le _, Nat.zero_le _⟩ (fun r5_0 M5_0 H locs hr5_0 hw I => ?_)
  refine li_if_eq (tgt := 22) hx hb dX8_road_8 (by decide) hr5_0 (fun c_2 => ?_) (fun c_2 => ?_)
  · replace hw := hw.1 c_2
    exact bX8_road_22 C post _ _ _ _ hw I (lv_sub hl [0] rfl)
  · replace hw := hw.2 c_2
    refine lv_aload_n hx hb dX8_road_11 rfl (lv_at hl 0 rfl) ?_
    refine xg_0_0 hx hb hts wu_X8 hown I wf_X8_12 dX8_road_12 ?_
    refine lv_iload_n hx hb dX8_road_15 rfl (lv_at hl 2 rfl) ?_
    refine g_callVi (o := 1) (As := [.int (i32 a2)]) (rest := []) ⟨hx, hb, hml, hown, hts⟩ I (mX3_has l g a2 ha2 M5_0 _ _ hw) (cwV 1 hts (gd_V wm_X8_85 wi_X3_has wl_X3_has wn_X3 wc_X3_has) rfl rfl rfl wd_X3_has ⟨Nat.le_of_ble_eq_true rfl, Nat.le_of_ble_eq_true rfl⟩) (by omega) (by omega) obX_1 rfl rfl hl.1 rfl (Nat.le_of_ble_eq_true rfl) dX8_road_16 ⟨Nat.zero_le _, Nat.zero_le _⟩ (fun r16_2 M16_2 H locs hr16_2 hw I => ?_)
    refine li_if_ne (tgt := 25) hx hb dX8_road_19 (by decide) hr16_2 (fun c_4 => ?_) (fun c_4 => ?_)
    · replace hw := hw.1 c_4
      refine lv_iload_n hx hb dX8_road_25 rfl (lv_at hl 3 rfl) ?_
      refine li_iconst hx hb dX8_road_26 ?_
      refine li_icmp_lt (tgt := 42) hx hb dX8_road_27 (by decide) ha3 (by decide) (fun c_5 => ?_) (fun c_5 => ?_)
      · replace hw := hw.1 c_5
        exact bX8_road_42 C post _ _ _ _ hw I (lv_sub hl [0] rfl)
      · replace hw := hw.2 c_5
        refine lv_iload_n hx hb dX8_road_30 rfl (lv_at hl 3 rfl) ?_
        refine lv_sipush (v := i32 1000) hx hb dX8_road_31 (by decide) ?_
        refine li_icmp_gt (tgt := 42) hx hb dX8_road_34 (by decide) ha3 (by decide) (fun c_6 => ?_) (fun c_6 => ?_)
        · replace hw := hw.1 c_6
          exact bX8_road_42 C post _ _ _ _ hw I (lv_sub hl [0] rfl)
        · replace hw := hw.2 c_6
          refine lv_iload_n hx hb dX8_road_37 rfl (lv_at hl 1 rfl) ?_
          refine lv_iload_n hx hb dX8_road_38 rfl (lv_at hl 2 rfl) ?_
          refine li_icmp_ne (tgt := 45) hx hb dX8_road_39 (by decide) ha1 ha2 (fun c_7 => ?_) (fun c_7 => ?_)
          · replace hw := hw.1 c_7
            refine lv_aload_n hx hb dX8_road_45 rfl (lv_at hl 0 rfl) ?_
            refine xg_0_0 hx hb hts wu_X8 hown I wf_X8_12 dX8_road_46 ?_
            refine xg_1_1 hx hb hts wu_X3 hown I wf_X8_89 dX8_road_49 ?_
            have h_8 := I.rng 1 1
            refine lv_bipush (v := i32 30) hx hb dX8_road_52 (by decide) ?_
            refine li_icmp_lt (tgt := 60) hx hb dX8_road_54 (by decide) h_8 (by decide) (fun c_9 => ?_) (fun c_9 => ?_)
            · replace hw := hw.1 c_9
              refine lv_aload_n hx hb dX8_road_60 rfl (lv_at hl 0 rfl) ?_
              refine xg_0_0 hx hb hts wu_X8 hown I wf_X8_12 dX8_road_61 ?_
              refine lv_iload_n hx hb dX8_road_64 rfl (lv_at hl 1 rfl) ?_
              refine lv_iload_n hx hb dX8_road_65 rfl (lv_at hl 2 rfl) ?_
              refine lv_iload_n hx hb dX8_road_66 rfl (lv_at hl 3 rfl) ?_
              refine g_callVi (o := 1) (As := [.int (i32 a1), .int (i32 a2), .int (i32 a3)]) (rest := []) ⟨hx, hb, hml, hown, hts⟩ I (mX3_addRoad l g a1 a2 a3 ha1 ha2 ha3 M16_2 _ _ hw) (cwV 3 hts (gd_V wm_X8_92 wi_X3_addRoad wl_X3_addRoad wn_X3 wc_X3_addRoad) rfl rfl rfl wd_X3_addRoad ⟨Nat.le_of_ble_eq_true rfl, Nat.le_of_ble_eq_true rfl⟩) (by omega) (by omega) obX_1 rfl rfl hl.1 rfl (Nat.le_of_ble_eq_true rfl) dX8_road_67 ⟨Nat.zero_le _, Nat.zero_le _⟩ (fun r67_9 M67_9 H locs hr67_9 hw I => ?_)
              refine lv_istore (lv' := [(4, .int (i32 r67_9)), (0, .ref (g.2.2.2 0)), (1, .int (i32 a1)), (2, .int (i32 a2)), (3, .int (i32 a3))]) hx hb dX8_road_70 hl (by decide) rfl (fun ls hl => ?_)
              refine lv_aload_n hx hb dX8_road_72 rfl (lv_at hl 1 rfl) ?_
              refine li_iconst hx hb dX8_road_73 ?_
              refine lv_iload hx hb dX8_road_74 (lv_at hl 0 rfl) ?_
              refine li_iconst hx hb dX8_road_76 ?_
              refine li_iconst hx hb dX8_road_77 ?_
              refine g_callVv (o := 0) (As := [.int (i32 1), .int (i32 r67_9), .int (i32 (-1)), .int (i32 (-1))]) (rest := []) ⟨hx, hb, hml, hown, hts⟩ I (mX8_noteChange l g 1 r67_9 (-1) (-1) (by decide) hr67_9 (by decide) (by decide) M67_9 _ _ hw) (cwV 4 hts (gd_V wm_X8_81 wi_X8_noteChange wl_X8_noteChange wn_X8 wc_X8_noteChange) rfl rfl rfl wd_X8_noteChange ⟨Nat.le_of_ble_eq_true rfl, Nat.le_of_ble_eq_true rfl⟩) (by omega) (by omega) obX_0 rfl rfl hl.1 rfl (Nat.le_of_ble_eq_true rfl) dX8_road_78 ⟨Nat.zero_le _, Nat.zero_le _⟩ (fun M78_10 H locs hw I => ?_)
              refine lv_iload hx hb dX8_road_81 (lv_at hl 0 rfl) ?_
              exact g_iret hx hb hr hlk I hr67_9 hw dX8_road_83
            · replace hw := hw.2 c_9
              refine lv_bipush (v := i32 (-5)) hx hb dX8_road_57 (by decide) ?_
              exact g_iret hx hb hr hlk I (by decide) hw dX8_road_59
          · replace hw := hw.2 c_7
            exact bX8_road_42 C post _ _ _ _ hw I (lv_sub hl [0] rfl)
    · replace hw := hw.2 c_4
      exact bX8_road_22 C post _ _ _ _ hw I (lv_sub hl [0] rfl)
abbrev rmX8_heap : Room := { frames := 2, cells := 0, slots := 0, locals := 49 }
abbrev wtX8_heap : List Cond := Cond.code yX8_heap cX8_heap 2 (some .int) :: lw_g
set_option maxRecDepth 100000 in
set_option maxHeartbeats 4000000 in
theorem mX8_heap (l : Launch) (g : GP) (M : Mem) (post : Int → Mem → Prop) (sz : Nat) (hw : wpX8_heap M post) : MIX l yX8_heap wtX8_heap rmX8_heap g [.ref (g.2.2.2 0)] M sz post := by
  refine Met.ofW (cc := cX8_heap) (maxL := 2) (ret := (some .int)) (by decide) rfl ?_
  intro p e s m args below meth c s₁ B hml hv
  obtain ⟨rfl, hpre⟩ := hv
  have hsz := hpre.1
  subst hsz
  have C : Cx p m c cX8_heap 2 s _ lw_g RX8 meth (some .int) := ⟨⟨B.exec, B.bytes, hml, findClass_of_methodNamed B.named, fun w h => atoms_spec (ws := wtX8_heap) B.pre w (List.mem_cons_of_mem _ h)⟩, B.returns, B.notSynchronized⟩
  obtain ⟨⟨hx, hb, hml, hown, hts⟩, hr, hlk⟩ := id C
  have I := InG.start hpre
  have hl := lv_entry ([.ref (g.2.2.2 0)]) (n := 2) (Nat.le_of_ble_eq_true rfl)
  rw [lg_entry_eq]
  generalize (lg_sl ([.ref (g.2.2.2 0)]) ++ List.replicate (2 - (lg_sl ([.ref (g.2.2.2 0)])).length) Slot.unset).toArray = ls at hl ⊢
  have hl : lv_has ls 2 [(0, .ref (g.2.2.2 0))] := hl
  show W p l e rmX8_heap s m _ below meth c s.heap [] 0 0 (QIX below _ s g post) _
  refine lv_aload_n hx hb dX8_heap_0 rfl (lv_at hl 0 rfl) ?_
  refine xg_0_1 hx hb hts wu_X8 hown I wf_X8_19 dX8_heap_1 ?_
  refine xg_2_0 hx hb hts wu_X2 hown I wf_X8_96 dX8_heap_4 ?_
  have h_1 := I.rng 2 0
  refine lv_bipush (v := i32 8) hx hb dX8_heap_7 (by decide) ?_
  refine li_icmp_lt (tgt := 15) hx hb dX8_heap_9 (by decide) h_1 (by decide) (fun c_2 => ?_) (fun c_2 => ?_)
  · replace hw := hw.1 c_2
    refine lv_aload_n hx hb dX8_heap_15 rfl (lv_at hl 0 rfl) ?_
    refine xg_0_1 hx hb hts wu_X8 hown I wf_X8_19 dX8_heap_16 ?_
    refine xg_2_0 hx hb hts wu_X2 hown I wf_X8_96 dX8_heap_19 ?_
    have h_3 := I.rng 2 0
    refine li_name (fun v22_3 ev22_3 => ?_)
    replace hw := hw v22_3 ev22_3
    have hv22_3 : inR v22_3 := ev22_3 ▸ h_3
    refine lv_istore_n (lv' := [(1, .int (i32 v22_3)), (0, .ref (g.2.2.2 0))]) hx hb dX8_heap_22 rfl hl (by decide) rfl (fun ls hl => ?_)
    refine lv_aload_n hx hb dX8_heap_23 rfl (lv_at hl 1 rfl) ?_
    refine xg_0_1 hx hb hts wu_X8 hown I wf_X8_19 dX8_heap_24 ?_
    refine lv_dup hx hb dX8_heap_27 rfl ?_
    refine xg_2_0 hx hb hts wu_X2 hown I wf_X8_96 dX8_heap_28 ?_
    have h_5 := I.rng 2 0
    refine li_iconst hx hb dX8_heap_31 ?_
    refine li_iadd hx hb dX8_heap_32 ?_
    obtain ⟨h_6, hw⟩ := hw
    refine xp_2_0 hx hb hts wu_X2 hown I wf_X8_96 h_6 dX8_heap_33 (fun H locs M33_6 eM33_6 I => ?_)
    replace hw := hw M33_6 eM33_6
    refine lv_aload_n hx hb dX8_heap_36 rfl (lv_at hl 1 rfl) ?_
    refine li_iconst hx hb dX8_heap_37 ?_
    refine lv_iload_n hx hb dX8_heap_38 rfl (lv_at hl 0 rfl) ?_
    refine li_iconst hx hb dX8_heap_39 ?_
    refine li_iconst hx hb dX8_heap_40 ?_
    refine g_callVv (o := 0) (As := [.int (i32 2), .int (i32 v22_3), .int (i32 (-1)), .int (i32 (-1))]) (rest := []) ⟨hx, hb, hml, hown, hts⟩ I (mX8_noteChange l g 2 v22_3 (-1) (-1) (by decide) hv22_3 (by decide) (by decide) M33_6 _ _ hw) (cwV 4 hts (gd_V wm_X8_81 wi_X8_noteChange wl_X8_noteChange wn_X8 wc_X8_noteChange) rfl rfl rfl wd_X8_noteChange ⟨Nat.le_of_ble_eq_true rfl, Nat.le_of_ble_eq_true rfl⟩) (by omega) (by omega) obX_0 rfl rfl hl.1 rfl (Nat.le_of_ble_eq_true rfl) dX8_heap_41 ⟨Nat.zero_le _, Nat.zero_le _⟩ (fun M41_7 H locs hw I => ?_)
    refine lv_iload_n hx hb dX8_heap_44 rfl (lv_at hl 0 rfl) ?_
    exact g_iret hx hb hr hlk I hv22_3 hw dX8_heap_45
  · replace hw := hw.2 c_2
    refine lv_bipush (v := i32 (-5)) hx hb dX8_heap_12 (by decide) ?_
    exact g_iret hx hb hr hlk I (by decide) hw dX8_heap_14
abbrev rmX8_set : Room := { frames := 2, cells := 0, slots := 0, locals := 49 }
abbrev wtX8_set : List Cond := Cond.code yX8_set cX8_set 5 (some .int) :: lw_g
set_option maxRecDepth 100000 in
set_option maxHeartbeats 4000000 in
theorem bX8_set_22 {p : Program} {l : Launch} {e : Env} {s : State} {m : MethodId} {args : Array Value} {below : List Frame} {meth : Method} {c : Code} {g : GP} (C : Cx p m c cX8_set 5 s args lw_g RX8 meth (some .int)) (post : Int → Mem → Prop) : ∀ (M : Mem) (H : Heap) (locs : List Loc) (ls : Array Slot), jbX8_set_22 post  M → IX g s M H locs → lv_has ls 5 [(0, .ref (g.2.2.2 0))] → W p l e rmX8_set s m args below meth c H locs 0 0 (QIX below args s g post) (F0 m 22 ls []) := by
  obtain ⟨⟨hx, hb, hml, hown, hts⟩, hr, hlk⟩ := id C
  intro M H locs ls hw I hl
  refine lv_bipush (v := i32 (-2)) hx hb dX8_set_22 (by decide) ?_
  exact g_iret hx hb hr hlk I (by decide) hw dX8_set_24
set_option maxRecDepth 100000 in
set_option maxHeartbeats 4000000 in
theorem bX8_set_36 {p : Program} {l : Launch} {e : Env} {s : State} {m : MethodId} {args : Array Value} {below : List Frame} {meth : Method} {c : Code} {g : GP} (C : Cx p m c cX8_set 5 s args lw_g RX8 meth (some .int)) (post : Int → Mem → Prop) : ∀ (M : Mem) (H : Heap) (locs : List Loc) (ls : Array Slot), jbX8_set_36 post  M → IX g s M H locs → lv_has ls 5 [(0, .ref (g.2.2.2 0))] → W p l e rmX8_set s m args below meth c H locs 0 0 (QIX below args s g post) (F0 m 36 ls []) := by
  obtain ⟨⟨hx, hb, hml, hown, hts⟩, hr, hlk⟩ := id C
  intro M H locs ls hw I hl
  refine lv_bipush (v := i32 (-3)) hx hb dX8_set_36 (by decide) ?_
  exact g_iret hx hb hr hlk I (by decide) hw dX8_set_38
set_option maxRecDepth 100000 in
set_option maxHeartbeats 4000000 in
theorem mX8_set (l : Launch) (g : GP) (a1 a2 a3 : Int) (ha1 : inR a1) (ha2 : inR a2) (ha3 : inR a3) (M : Mem) (post : Int → Mem → Prop) (sz : Nat) (hw : wpX8_set a1 a2 a3 M post) : MIX l yX8_set wtX8_set rmX8_set g [.ref (g.2.2.2 0), .int (i32 a1), .int (i32 a2), .int (i32 a3)] M sz post := by
  refine Met.ofW (cc := cX8_set) (maxL := 5) (ret := (some .int)) (by decide) rfl ?_
  intro p e s m args below meth c s₁ B hml hv
  obtain ⟨rfl, hpre⟩ := hv
  have hsz := hpre.1
  subst hsz
  have C : Cx p m c cX8_set 5 s _ lw_g RX8 meth (some .int) := ⟨⟨B.exec, B.bytes, hml, findClass_of_methodNamed B.named, fun w h => atoms_spec (ws := wtX8_set) B.pre w (List.mem_cons_of_mem _ h)⟩, B.returns, B.notSynchronized⟩
  obtain ⟨⟨hx, hb, hml, hown, hts⟩, hr, hlk⟩ := id C
  have I := InG.start hpre
  have hl := lv_entry ([.ref (g.2.2.2 0), .int (i32 a1), .int (i32 a2), .int (i32 a3)]) (n := 5) (Nat.le_of_ble_eq_true rfl)
  rw [lg_entry_eq]
  generalize (lg_sl ([.ref (g.2.2.2 0), .int (i32 a1), .int (i32 a2), .int (i32 a3)]) ++ List.replicate (5 - (lg_sl ([.ref (g.2.2.2 0), .int (i32 a1), .int (i32 a2), .int (i32 a3)])).length) Slot.unset).toArray = ls at hl ⊢
  have hl : lv_has ls 5 [(0, .ref (g.2.2.2 0)), (1, .int (i32 a1)), (2, .int (i32 a2)), (3, .int (i32 a3))] := hl
  show W p l e rmX8_set s m _ below meth c s.heap [] 0 0 (QIX below _ s g post) _
  refine lv_aload_n hx hb dX8_set_0 rfl (lv_at hl 0 rfl) ?_
  refine xg_0_1 hx hb hts wu_X8 hown I wf_X8_19 dX8_set_1 ?_
  refine lv_iload_n hx hb dX8_set_4 rfl (lv_at hl 1 rfl) ?_
  refine g_callVi (o := 2) (As := [.int (i32 a1)]) (rest := []) ⟨hx, hb, hml, hown, hts⟩ I (mX2_has l g a1 ha1 M _ _ hw) (cwV 1 hts (gd_V wm_X8_99 wi_X2_has wl_X2_has wn_X2 wc_X2_has) rfl rfl rfl wd_X2_has ⟨Nat.le_of_ble_eq_true rfl, Nat.le_of_ble_eq_true rfl⟩) (by omega) (by omega) obX_2 rfl rfl hl.1 rfl (Nat.le_of_ble_eq_true rfl) dX8_set_5 ⟨Nat.zero_le _, Nat.zero_le _⟩ (fun r5_0 M5_0 H locs hr5_0 hw I => ?_)
  refine li_if_eq (tgt := 22) hx hb dX8_set_8 (by decide) hr5_0 (fun c_2 => ?_) (fun c_2 => ?_)
  · replace hw := hw.1 c_2
    exact bX8_set_22 C post _ _ _ _ hw I (lv_sub hl [0] rfl)
  · replace hw := hw.2 c_2
    refine lv_aload_n hx hb dX8_set_11 rfl (lv_at hl 0 rfl) ?_
    refine xg_0_0 hx hb hts wu_X8 hown I wf_X8_12 dX8_set_12 ?_
    refine lv_iload_n hx hb dX8_set_15 rfl (lv_at hl 2 rfl) ?_
    refine g_callVi (o := 1) (As := [.int (i32 a2)]) (rest := []) ⟨hx, hb, hml, hown, hts⟩ I (mX3_has l g a2 ha2 M5_0 _ _ hw) (cwV 1 hts (gd_V wm_X8_85 wi_X3_has wl_X3_has wn_X3 wc_X3_has) rfl rfl rfl wd_X3_has ⟨Nat.le_of_ble_eq_true rfl, Nat.le_of_ble_eq_true rfl⟩) (by omega) (by omega) obX_1 rfl rfl hl.1 rfl (Nat.le_of_ble_eq_true rfl) dX8_set_16 ⟨Nat.zero_le _, Nat.zero_le _⟩ (fun r16_2 M16_2 H locs hr16_2 hw I => ?_)
    refine li_if_ne (tgt := 25) hx hb dX8_set_19 (by decide) hr16_2 (fun c_4 => ?_) (fun c_4 => ?_)
    · replace hw := hw.1 c_4
      refine lv_iload_n hx hb dX8_set_25 rfl (lv_at hl 3 rfl) ?_
      refine li_if_lt (tgt := 36) hx hb dX8_set_26 (by decide) ha3 (fun c_5 => ?_) (fun c_5 => ?_)
      · replace hw := hw.1 c_5
        exact bX8_set_36 C post _ _ _ _ hw I (lv_sub hl [0] rfl)
      · replace hw := hw.2 c_5
        refine lv_iload_n hx hb dX8_set_29 rfl (lv_at hl 3 rfl) ?_
        refine lv_sipush (v := i32 1000) hx hb dX8_set_30 (by decide) ?_
        refine li_icmp_le (tgt := 39) hx hb dX8_set_33 (by decide) ha3 (by decide) (fun c_6 => ?_) (fun c_6 => ?_)
        · replace hw := hw.1 c_6
          refine lv_aload_n hx hb dX8_set_39 rfl (lv_at hl 0 rfl) ?_
          refine xg_0_1 hx hb hts wu_X8 hown I wf_X8_19 dX8_set_40 ?_
          refine xg_2_1 hx hb hts wu_X2 hown I wf_X8_100 dX8_set_43 ?_
          refine lv_iload_n hx hb dX8_set_46 rfl (lv_at hl 1 rfl) ?_
          obtain ⟨h_7, hw⟩ := hw
          refine x_aald_12 hx hb I h_7 dX8_set_47 ?_
          refine lv_iload_n hx hb dX8_set_48 rfl (lv_at hl 2 rfl) ?_
          obtain ⟨h_8, hw⟩ := hw
          refine x_iald hx hb I (80 + a1) (lenX_80 h_7) h_8 dX8_set_49 ?_
          have h_9 := I.rng (80 + a1) a2
          refine li_name (fun v50_9 ev50_9 => ?_)
          replace hw := hw v50_9 ev50_9
          have hv50_9 : inR v50_9 := ev50_9 ▸ h_9
          refine lv_istore (lv' := [(4, .int (i32 v50_9)), (0, .ref (g.2.2.2 0)), (1, .int (i32 a1)), (2, .int (i32 a2)), (3, .int (i32 a3))]) hx hb dX8_set_50 hl (by decide) rfl (fun ls hl => ?_)
          refine lv_aload_n hx hb dX8_set_52 rfl (lv_at hl 1 rfl) ?_
          refine xg_0_1 hx hb hts wu_X8 hown I wf_X8_19 dX8_set_53 ?_
          refine xg_2_1 hx hb hts wu_X2 hown I wf_X8_100 dX8_set_56 ?_
          refine lv_iload_n hx hb dX8_set_59 rfl (lv_at hl 2 rfl) ?_
          obtain ⟨h_11, hw⟩ := hw
          refine x_aald_12 hx hb I h_11 dX8_set_60 ?_
          refine lv_iload_n hx hb dX8_set_61 rfl (lv_at hl 3 rfl) ?_
          refine lv_iload_n hx hb dX8_set_62 rfl (lv_at hl 4 rfl) ?_
          obtain ⟨h_12, hw⟩ := hw
          refine x_iast hx hb I (80 + a1) (lenX_80 h_11) h_12 ha3 dX8_set_63 (fun H locs M63_12 eM63_12 I => ?_)
          replace hw := hw M63_12 eM63_12
          refine lv_aload_n hx hb dX8_set_64 rfl (lv_at hl 1 rfl) ?_
          refine li_iconst hx hb dX8_set_65 ?_
          refine lv_iload_n hx hb dX8_set_66 rfl (lv_at hl 2 rfl) ?_
          refine lv_iload_n hx hb dX8_set_67 rfl (lv_at hl 3 rfl) ?_
          refine lv_iload hx hb dX8_set_68 (lv_at hl 0 rfl) ?_
          refine g_callVv (o := 0) (As := [.int (i32 3), .int (i32 a1), .int (i32 a2), .int (i32 v50_9)]) (rest := []) ⟨hx, hb, hml, hown, hts⟩ I (mX8_noteChange l g 3 a1 a2 v50_9 (by decide) ha1 ha2 hv50_9 M63_12 _ _ hw) (cwV 4 hts (gd_V wm_X8_81 wi_X8_noteChange wl_X8_noteChange wn_X8 wc_X8_noteChange) rfl rfl rfl wd_X8_noteChange ⟨Nat.le_of_ble_eq_true rfl, Nat.le_of_ble_eq_true rfl⟩) (by omega) (by omega) obX_0 rfl rfl hl.1 rfl (Nat.le_of_ble_eq_true rfl) dX8_set_70 ⟨Nat.zero_le _, Nat.zero_le _⟩ (fun M70_13 H locs hw I => ?_)
          refine lv_iload hx hb dX8_set_73 (lv_at hl 0 rfl) ?_
          exact g_iret hx hb hr hlk I hv50_9 hw dX8_set_75
        · replace hw := hw.2 c_6
          exact bX8_set_36 C post _ _ _ _ hw I (lv_sub hl [0] rfl)
    · replace hw := hw.2 c_4
      exact bX8_set_22 C post _ _ _ _ hw I (lv_sub hl [0] rfl)
