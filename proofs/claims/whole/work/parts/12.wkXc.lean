abbrev rmX4_cheapestThroughGates : Room := { frames := 3, cells := 0, slots := 0, locals := 73 }
abbrev wtX4_cheapestThroughGates : List Cond := Cond.code yX4_cheapestThroughGates cX4_cheapestThroughGates 8 (some .int) :: lw_g
set_option maxRecDepth 100000 in
set_option maxHeartbeats 4000000 in
theorem bX4_cheapestThroughGates_175 {p : Program} {l : Launch} {e : Env} {s : State} {m : MethodId} {args : Array Value} {below : List Frame} {meth : Method} {c : Code} {g : GP} (r2 : Int) (r3 : Int) (C : Cx p m c cX4_cheapestThroughGates 8 s args lw_g RX4 meth (some .int)) (post : Int → Mem → Prop) : ∀ (t0 : Int), inR t0 → ∀ (M : Mem) (H : Heap) (locs : List Loc) (ls : Array Slot), jbX4_cheapestThroughGates_175 r2 r3 post t0 M → IX g s M H locs → lv_has ls 8 [(0, .ref (g.2.2.2 5)), (1, .ref (g.2.2.2 1)), (2, .ref (g.2.2.2 r2)), (3, .ref (g.2.2.2 r3))] → W p l e rmX4_cheapestThroughGates s m args below meth c H locs 0 0 (QIX below args s g post) (F0 m 175 ls [.int (i32 t0)]) := by
  obtain ⟨⟨hx, hb, hml, hown, hts⟩, hr, hlk⟩ := id C
  intro t0 ht0 M H locs ls hw I hl
  exact g_iret hx hb hr hlk I ht0 hw dX4_cheapestThroughGates_175
set_option maxRecDepth 100000 in
set_option maxHeartbeats 4000000 in
theorem bX4_cheapestThroughGates_121 {p : Program} {l : Launch} {e : Env} {s : State} {m : MethodId} {args : Array Value} {below : List Frame} {meth : Method} {c : Code} {g : GP} (r2 : Int) (r3 : Int) (C : Cx p m c cX4_cheapestThroughGates 8 s args lw_g RX4 meth (some .int)) (post : Int → Mem → Prop) (k22 : Int → Int → Mem → Prop) (k71 : Int → Int → Int → Mem → Prop) (hk22 : ∀ (x4 x5 : Int), inR x4 → inR x5 → ∀ (M : Mem) (H : Heap) (locs : List Loc) (ls : Array Slot), k22 x4 x5 M → IX g s M H locs → lv_has ls 8 [(0, .ref (g.2.2.2 5)), (1, .ref (g.2.2.2 1)), (2, .ref (g.2.2.2 r2)), (3, .ref (g.2.2.2 r3)), (4, .int (i32 x4)), (5, .int (i32 x5))] → W p l e rmX4_cheapestThroughGates s m args below meth c H locs 0 0 (QIX below args s g post) (F0 m 22 ls [])) (hk71 : ∀ (x4 x5 x7 : Int), inR x4 → inR x5 → inR x7 → ∀ (M : Mem) (H : Heap) (locs : List Loc) (ls : Array Slot), k71 x4 x5 x7 M → IX g s M H locs → lv_has ls 8 [(0, .ref (g.2.2.2 5)), (1, .ref (g.2.2.2 1)), (2, .ref (g.2.2.2 r2)), (3, .ref (g.2.2.2 r3)), (4, .int (i32 x4)), (5, .int (i32 x5)), (7, .int (i32 x7))] → W p l e rmX4_cheapestThroughGates s m args below meth c H locs 0 0 (QIX below args s g post) (F0 m 71 ls [])) : ∀ (x4 x5 x7 : Int), inR x4 → inR x5 → inR x7 → ∀ (M : Mem) (H : Heap) (locs : List Loc) (ls : Array Slot), jbX4_cheapestThroughGates_121 r2 r3 post k22 k71 x4 x5 x7 M → IX g s M H locs → lv_has ls 8 [(0, .ref (g.2.2.2 5)), (1, .ref (g.2.2.2 1)), (2, .ref (g.2.2.2 r2)), (3, .ref (g.2.2.2 r3)), (4, .int (i32 x4)), (5, .int (i32 x5)), (7, .int (i32 x7))] → W p l e rmX4_cheapestThroughGates s m args below meth c H locs 0 0 (QIX below args s g post) (F0 m 121 ls []) := by
  obtain ⟨⟨hx, hb, hml, hown, hts⟩, hr, hlk⟩ := id C
  intro x4 x5 x7 h4 h5 h7 M H locs ls hw I hl
  refine li_iinc (lv' := [(7, .int (i32 (x7 + 1))), (0, .ref (g.2.2.2 5)), (1, .ref (g.2.2.2 1)), (2, .ref (g.2.2.2 r2)), (3, .ref (g.2.2.2 r3)), (4, .int (i32 x4)), (5, .int (i32 x5))]) hx hb dX4_cheapestThroughGates_121 hl (k := 6) rfl (by decide) rfl (fun ls hl => ?_)
  refine lv_goto (tgt := 71) hx hb dX4_cheapestThroughGates_124 (by decide) ?_
  obtain ⟨h_1, hw⟩ := hw
  exact hk71 x4 x5 (x7 + 1) h4 h5 h_1 _ _ _ _ hw I (lv_sub hl [1, 2, 3, 4, 5, 6, 0] rfl)
set_option maxRecDepth 100000 in
set_option maxHeartbeats 4000000 in
theorem bX4_cheapestThroughGates_71 {p : Program} {l : Launch} {e : Env} {s : State} {m : MethodId} {args : Array Value} {below : List Frame} {meth : Method} {c : Code} {g : GP} (r2 : Int) (r3 : Int) (C : Cx p m c cX4_cheapestThroughGates 8 s args lw_g RX4 meth (some .int)) (post : Int → Mem → Prop) (k22 : Int → Int → Mem → Prop) (hk22 : ∀ (x4 x5 : Int), inR x4 → inR x5 → ∀ (M : Mem) (H : Heap) (locs : List Loc) (ls : Array Slot), k22 x4 x5 M → IX g s M H locs → lv_has ls 8 [(0, .ref (g.2.2.2 5)), (1, .ref (g.2.2.2 1)), (2, .ref (g.2.2.2 r2)), (3, .ref (g.2.2.2 r3)), (4, .int (i32 x4)), (5, .int (i32 x5))] → W p l e rmX4_cheapestThroughGates s m args below meth c H locs 0 0 (QIX below args s g post) (F0 m 22 ls [])) : ∀ (n : Nat), ∀ (x4 x5 x7 : Int), inR x4 → inR x5 → inR x7 → ∀ (M : Mem) (H : Heap) (locs : List Loc) (ls : Array Slot), lpX4_cheapestThroughGates_71 r2 r3 post k22 n x4 x5 x7 M → IX g s M H locs → lv_has ls 8 [(0, .ref (g.2.2.2 5)), (1, .ref (g.2.2.2 1)), (2, .ref (g.2.2.2 r2)), (3, .ref (g.2.2.2 r3)), (4, .int (i32 x4)), (5, .int (i32 x5)), (7, .int (i32 x7))] → W p l e rmX4_cheapestThroughGates s m args below meth c H locs 0 0 (QIX below args s g post) (F0 m 71 ls []) := by
  obtain ⟨⟨hx, hb, hml, hown, hts⟩, hr, hlk⟩ := id C
  intro n
  induction n with
  | zero =>
    intro x4 x5 x7 h4 h5 h7 M H locs ls hw
    exact hw.elim
  | succ n ih =>
    intro x4 x5 x7 h4 h5 h7 M H locs ls hw I hl
    refine lv_iload hx hb dX4_cheapestThroughGates_71 (lv_at hl 6 rfl) ?_
    refine lv_aload_n hx hb dX4_cheapestThroughGates_73 rfl (lv_at hl 1 rfl) ?_
    refine xg_1_0 hx hb hts wu_X3 hown I wf_X4_21 dX4_cheapestThroughGates_74 ?_
    have h_1 := I.rng 1 0
    refine li_icmp_ge (tgt := 127) hx hb dX4_cheapestThroughGates_77 (by decide) h7 h_1 (fun c_2 => ?_) (fun c_2 => ?_)
    · replace hw := hw.1 c_2
      refine li_iinc (lv' := [(5, .int (i32 (x5 + 1))), (0, .ref (g.2.2.2 5)), (1, .ref (g.2.2.2 1)), (2, .ref (g.2.2.2 r2)), (3, .ref (g.2.2.2 r3)), (4, .int (i32 x4)), (7, .int (i32 x7))]) hx hb dX4_cheapestThroughGates_127 hl (k := 5) rfl (by decide) rfl (fun ls hl => ?_)
      refine lv_goto (tgt := 22) hx hb dX4_cheapestThroughGates_130 (by decide) ?_
      obtain ⟨h_3, hw⟩ := hw
      exact hk22 x4 (x5 + 1) h4 h_3 _ _ _ _ hw I (lv_sub hl [1, 2, 3, 4, 5, 0] rfl)
    · replace hw := hw.2 c_2
      refine lv_aload_n hx hb dX4_cheapestThroughGates_80 rfl (lv_at hl 1 rfl) ?_
      refine xg_1_6 hx hb hts wu_X3 hown I wf_X4_58 dX4_cheapestThroughGates_81 ?_
      refine lv_iload hx hb dX4_cheapestThroughGates_84 (lv_at hl 5 rfl) ?_
      obtain ⟨h_4, hw⟩ := hw
      refine x_aald_10 hx hb I h_4 dX4_cheapestThroughGates_86 ?_
      refine lv_iload hx hb dX4_cheapestThroughGates_87 (lv_at hl 6 rfl) ?_
      obtain ⟨h_5, hw⟩ := hw
      refine x_iald hx hb I (40 + x5) (lenX_40 h_4) h_5 dX4_cheapestThroughGates_89 ?_
      have h_6 := I.rng (40 + x5) x7
      refine lv_ldc (v := i32 1000000) hx hb hown (hts _ wk_X4_31) dX4_cheapestThroughGates_90 ?_
      refine li_icmp_ge (tgt := 121) hx hb dX4_cheapestThroughGates_92 (by decide) h_6 (by decide) (fun c_7 => ?_) (fun c_7 => ?_)
      · replace hw := hw.1 c_7
        exact bX4_cheapestThroughGates_121 r2 r3 C post k22 (fun y4 y5 y7 N => lpX4_cheapestThroughGates_71 r2 r3 post k22 n y4 y5 y7 N) hk22 ih x4 x5 x7 h4 h5 h7 _ _ _ _ hw I (lv_sub hl [0, 1, 2, 3, 4, 5, 6] rfl)
      · replace hw := hw.2 c_7
        refine lv_aload_n hx hb dX4_cheapestThroughGates_95 rfl (lv_at hl 0 rfl) ?_
        refine xg_5_0 hx hb hts wu_X4 hown I wf_X4_12 dX4_cheapestThroughGates_96 ?_
        refine lv_bipush (v := i32 10) hx hb dX4_cheapestThroughGates_99 (by decide) ?_
        refine lv_iload hx hb dX4_cheapestThroughGates_101 (lv_at hl 5 rfl) ?_
        refine li_iadd hx hb dX4_cheapestThroughGates_103 ?_
        refine lv_iload hx hb dX4_cheapestThroughGates_104 (lv_at hl 6 rfl) ?_
        refine lv_ldc (v := i32 1000000) hx hb hown (hts _ wk_X4_31) dX4_cheapestThroughGates_106 ?_
        refine lv_aload_n hx hb dX4_cheapestThroughGates_108 rfl (lv_at hl 1 rfl) ?_
        refine xg_1_6 hx hb hts wu_X3 hown I wf_X4_58 dX4_cheapestThroughGates_109 ?_
        refine lv_iload hx hb dX4_cheapestThroughGates_112 (lv_at hl 5 rfl) ?_
        obtain ⟨h_8, hw⟩ := hw
        refine x_aald_10 hx hb I h_8 dX4_cheapestThroughGates_114 ?_
        refine lv_iload hx hb dX4_cheapestThroughGates_115 (lv_at hl 6 rfl) ?_
        obtain ⟨h_9, hw⟩ := hw
        refine x_iald hx hb I (40 + x5) (lenX_40 h_8) h_9 dX4_cheapestThroughGates_117 ?_
        have h_10 := I.rng (40 + x5) x7
        obtain ⟨h_11, hw⟩ := hw
        refine g_callVv (o := (8 + 0)) (As := [.int (i32 (10 + x5)), .int (i32 x7), .int (i32 1000000), .int (i32 (M (40 + x5) x7))]) (rest := []) ⟨hx, hb, hml, hown, hts⟩ I (mX5_join l g 0 (Or.inl rfl) (10 + x5) x7 1000000 (M (40 + x5) x7) h_11 h7 (by decide) h_10 M _ _ hw) (cwV 4 hts (gd_V wm_X4_36 wi_X5_join wl_X5_join wn_X5 wc_X5_join) rfl rfl rfl wd_X5_join ⟨Nat.le_of_ble_eq_true rfl, Nat.le_of_ble_eq_true rfl⟩) (by omega) (by omega) (obX_N (Or.inl rfl)) rfl rfl hl.1 rfl (Nat.le_of_ble_eq_true rfl) dX4_cheapestThroughGates_118 ⟨Nat.zero_le _, Nat.zero_le _⟩ (fun M118_11 H locs hw I => ?_)
        exact bX4_cheapestThroughGates_121 r2 r3 C post k22 (fun y4 y5 y7 N => lpX4_cheapestThroughGates_71 r2 r3 post k22 n y4 y5 y7 N) hk22 ih x4 x5 x7 h4 h5 h7 _ _ _ _ hw I (lv_sub hl [0, 1, 2, 3, 4, 5, 6] rfl)
set_option maxRecDepth 100000 in
set_option maxHeartbeats 4000000 in
theorem bX4_cheapestThroughGates_64 {p : Program} {l : Launch} {e : Env} {s : State} {m : MethodId} {args : Array Value} {below : List Frame} {meth : Method} {c : Code} {g : GP} (r2 : Int) (r3 : Int) (C : Cx p m c cX4_cheapestThroughGates 8 s args lw_g RX4 meth (some .int)) (post : Int → Mem → Prop) (k22 : Int → Int → Mem → Prop) (hk22 : ∀ (x4 x5 : Int), inR x4 → inR x5 → ∀ (M : Mem) (H : Heap) (locs : List Loc) (ls : Array Slot), k22 x4 x5 M → IX g s M H locs → lv_has ls 8 [(0, .ref (g.2.2.2 5)), (1, .ref (g.2.2.2 1)), (2, .ref (g.2.2.2 r2)), (3, .ref (g.2.2.2 r3)), (4, .int (i32 x4)), (5, .int (i32 x5))] → W p l e rmX4_cheapestThroughGates s m args below meth c H locs 0 0 (QIX below args s g post) (F0 m 22 ls [])) : ∀ (x4 x5 t0 t1 t2 : Int), inR x4 → inR x5 → inR t0 → inR t1 → inR t2 → ∀ (M : Mem) (H : Heap) (locs : List Loc) (ls : Array Slot), jbX4_cheapestThroughGates_64 r2 r3 post k22 x4 x5 t0 t1 t2 M → IX g s M H locs → lv_has ls 8 [(0, .ref (g.2.2.2 5)), (1, .ref (g.2.2.2 1)), (2, .ref (g.2.2.2 r2)), (3, .ref (g.2.2.2 r3)), (4, .int (i32 x4)), (5, .int (i32 x5))] → W p l e rmX4_cheapestThroughGates s m args below meth c H locs 0 0 (QIX below args s g post) (F0 m 64 ls [.int (i32 t0), .int (i32 t1), .int (i32 t2), .ref (g.2.2.2 (8 + 0))]) := by
  obtain ⟨⟨hx, hb, hml, hown, hts⟩, hr, hlk⟩ := id C
  intro x4 x5 t0 t1 t2 h4 h5 ht0 ht1 ht2 M H locs ls hw I hl
  refine li_iconst hx hb dX4_cheapestThroughGates_64 ?_
  refine g_callVv (o := (8 + 0)) (As := [.int (i32 t2), .int (i32 t1), .int (i32 t0), .int (i32 0)]) (rest := []) ⟨hx, hb, hml, hown, hts⟩ I (mX5_join l g 0 (Or.inl rfl) t2 t1 t0 0 ht2 ht1 ht0 (by decide) M _ _ hw) (cwV 4 hts (gd_V wm_X4_36 wi_X5_join wl_X5_join wn_X5 wc_X5_join) rfl rfl rfl wd_X5_join ⟨Nat.le_of_ble_eq_true rfl, Nat.le_of_ble_eq_true rfl⟩) (by omega) (by omega) (obX_N (Or.inl rfl)) rfl rfl hl.1 rfl (Nat.le_of_ble_eq_true rfl) dX4_cheapestThroughGates_65 ⟨Nat.zero_le _, Nat.zero_le _⟩ (fun M65_0 H locs hw I => ?_)
  refine li_iconst hx hb dX4_cheapestThroughGates_68 ?_
  refine lv_istore (lv' := [(7, .int (i32 0)), (0, .ref (g.2.2.2 5)), (1, .ref (g.2.2.2 1)), (2, .ref (g.2.2.2 r2)), (3, .ref (g.2.2.2 r3)), (4, .int (i32 x4)), (5, .int (i32 x5))]) hx hb dX4_cheapestThroughGates_69 hl (by decide) rfl (fun ls hl => ?_)
  obtain ⟨n1, hw⟩ := hw
  exact bX4_cheapestThroughGates_71 r2 r3 C post k22 hk22 n1 x4 x5 0 h4 h5 (by decide) _ _ _ _ hw I (lv_sub hl [1, 2, 3, 4, 5, 6, 0] rfl)
set_option maxRecDepth 100000 in
set_option maxHeartbeats 4000000 in
theorem bX4_cheapestThroughGates_22 {p : Program} {l : Launch} {e : Env} {s : State} {m : MethodId} {args : Array Value} {below : List Frame} {meth : Method} {c : Code} {g : GP} (r2 : Int) (r3 : Int) (C : Cx p m c cX4_cheapestThroughGates 8 s args lw_g RX4 meth (some .int)) (post : Int → Mem → Prop) : ∀ (n : Nat), ∀ (x4 x5 : Int), inR x4 → inR x5 → ∀ (M : Mem) (H : Heap) (locs : List Loc) (ls : Array Slot), lpX4_cheapestThroughGates_22 r2 r3 post n x4 x5 M → IX g s M H locs → lv_has ls 8 [(0, .ref (g.2.2.2 5)), (1, .ref (g.2.2.2 1)), (2, .ref (g.2.2.2 r2)), (3, .ref (g.2.2.2 r3)), (4, .int (i32 x4)), (5, .int (i32 x5))] → W p l e rmX4_cheapestThroughGates s m args below meth c H locs 0 0 (QIX below args s g post) (F0 m 22 ls []) := by
  obtain ⟨⟨hx, hb, hml, hown, hts⟩, hr, hlk⟩ := id C
  intro n
  induction n with
  | zero =>
    intro x4 x5 h4 h5 M H locs ls hw
    exact hw.elim
  | succ n ih =>
    intro x4 x5 h4 h5 M H locs ls hw I hl
    refine lv_iload hx hb dX4_cheapestThroughGates_22 (lv_at hl 5 rfl) ?_
    refine lv_aload_n hx hb dX4_cheapestThroughGates_24 rfl (lv_at hl 1 rfl) ?_
    refine xg_1_0 hx hb hts wu_X3 hown I wf_X4_21 dX4_cheapestThroughGates_25 ?_
    have h_1 := I.rng 1 0
    refine li_icmp_ge (tgt := 133) hx hb dX4_cheapestThroughGates_28 (by decide) h5 h_1 (fun c_2 => ?_) (fun c_2 => ?_)
    · replace hw := hw.1 c_2
      refine lv_aload_n hx hb dX4_cheapestThroughGates_133 rfl (lv_at hl 0 rfl) ?_
      refine lv_aload_n hx hb dX4_cheapestThroughGates_134 rfl (lv_at hl 1 rfl) ?_
      refine xg_1_0 hx hb hts wu_X3 hown I wf_X4_21 dX4_cheapestThroughGates_135 ?_
      have h_3 := I.rng 1 0
      refine lv_aload_n hx hb dX4_cheapestThroughGates_138 rfl (lv_at hl 2 rfl) ?_
      refine lv_aload_n hx hb dX4_cheapestThroughGates_139 rfl (lv_at hl 3 rfl) ?_
      refine g_callVv (o := 5) (As := [.int (i32 (M 1 0)), .ref (g.2.2.2 r2), .ref (g.2.2.2 r3)]) (rest := []) ⟨hx, hb, hml, hown, hts⟩ I (mX4_joinSink l g r2 r3 (M 1 0) h_3 M _ _ hw) (cwV 3 hts (gd_V wm_X4_40 wi_X4_joinSink wl_X4_joinSink wn_X4 wc_X4_joinSink) rfl rfl rfl wd_X4_joinSink ⟨Nat.le_of_ble_eq_true rfl, Nat.le_of_ble_eq_true rfl⟩) (by omega) (by omega) obX_5 rfl rfl hl.1 rfl (Nat.le_of_ble_eq_true rfl) dX4_cheapestThroughGates_140 ⟨Nat.zero_le _, Nat.zero_le _⟩ (fun M140_3 H locs hw I => ?_)
      refine lv_aload_n hx hb dX4_cheapestThroughGates_143 rfl (lv_at hl 0 rfl) ?_
      refine xg_5_0 hx hb hts wu_X4 hown I wf_X4_12 dX4_cheapestThroughGates_144 ?_
      refine lv_iload hx hb dX4_cheapestThroughGates_147 (lv_at hl 4 rfl) ?_
      refine g_callVv (o := (8 + 0)) (As := [.int (i32 x4)]) (rest := []) ⟨hx, hb, hml, hown, hts⟩ I (mX5_push l g 0 (Or.inl rfl) x4 h4 M140_3 _ _ hw) (cwV 1 hts (gd_V wm_X4_47 wi_X5_push wl_X5_push wn_X5 wc_X5_push) rfl rfl rfl wd_X5_push ⟨Nat.le_of_ble_eq_true rfl, Nat.le_of_ble_eq_true rfl⟩) (by omega) (by omega) (obX_N (Or.inl rfl)) rfl rfl hl.1 rfl (Nat.le_of_ble_eq_true rfl) dX4_cheapestThroughGates_149 ⟨Nat.zero_le _, Nat.zero_le _⟩ (fun M149_4 H locs hw I => ?_)
      refine lv_aload_n hx hb dX4_cheapestThroughGates_152 rfl (lv_at hl 0 rfl) ?_
      refine xg_5_0 hx hb hts wu_X4 hown I wf_X4_12 dX4_cheapestThroughGates_153 ?_
      refine xg_N_1 (z := 0) (Or.inl rfl) hx hb hts wu_X5 hown I wf_X4_61 dX4_cheapestThroughGates_156 ?_
      have h_6 := I.rng (8 + 0) 1
      refine lv_iload hx hb dX4_cheapestThroughGates_159 (lv_at hl 4 rfl) ?_
      refine li_icmp_ne (tgt := 174) hx hb dX4_cheapestThroughGates_161 (by decide) h_6 h4 (fun c_7 => ?_) (fun c_7 => ?_)
      · replace hw := hw.1 c_7
        refine li_iconst hx hb dX4_cheapestThroughGates_174 ?_
        exact bX4_cheapestThroughGates_175 r2 r3 C post (-1) (by decide) _ _ _ _ hw I (lv_sub hl [0, 1, 2, 3] rfl)
      · replace hw := hw.2 c_7
        refine lv_aload_n hx hb dX4_cheapestThroughGates_164 rfl (lv_at hl 0 rfl) ?_
        refine xg_5_0 hx hb hts wu_X4 hown I wf_X4_12 dX4_cheapestThroughGates_165 ?_
        refine xg_N_2 (z := 0) (Or.inl rfl) hx hb hts wu_X5 hown I wf_X4_51 dX4_cheapestThroughGates_168 ?_
        have h_8 := I.rng (8 + 0) 2
        refine lv_goto (tgt := 175) hx hb dX4_cheapestThroughGates_171 (by decide) ?_
        exact bX4_cheapestThroughGates_175 r2 r3 C post (M149_4 (8 + 0) 2) h_8 _ _ _ _ hw I (lv_sub hl [0, 1, 2, 3] rfl)
    · replace hw := hw.2 c_2
      refine lv_aload_n hx hb dX4_cheapestThroughGates_31 rfl (lv_at hl 1 rfl) ?_
      refine xg_1_5 hx hb hts wu_X3 hown I wf_X4_54 dX4_cheapestThroughGates_32 ?_
      refine lv_iload hx hb dX4_cheapestThroughGates_35 (lv_at hl 5 rfl) ?_
      obtain ⟨h_9, hw⟩ := hw
      refine x_iald hx hb I 18 lenX_18 h_9 dX4_cheapestThroughGates_37 ?_
      have h_10 := I.rng 18 x5
      refine li_name (fun v38_10 ev38_10 => ?_)
      replace hw := hw v38_10 ev38_10
      have hv38_10 : inR v38_10 := ev38_10 ▸ h_10
      refine lv_istore (lv' := [(6, .int (i32 v38_10)), (0, .ref (g.2.2.2 5)), (1, .ref (g.2.2.2 1)), (2, .ref (g.2.2.2 r2)), (3, .ref (g.2.2.2 r3)), (4, .int (i32 x4)), (5, .int (i32 x5))]) hx hb dX4_cheapestThroughGates_38 hl (by decide) rfl (fun ls hl => ?_)
      refine lv_aload_n hx hb dX4_cheapestThroughGates_40 rfl (lv_at hl 1 rfl) ?_
      refine xg_5_0 hx hb hts wu_X4 hown I wf_X4_12 dX4_cheapestThroughGates_41 ?_
      refine lv_iload hx hb dX4_cheapestThroughGates_44 (lv_at hl 6 rfl) ?_
      refine lv_bipush (v := i32 10) hx hb dX4_cheapestThroughGates_46 (by decide) ?_
      refine lv_iload hx hb dX4_cheapestThroughGates_48 (lv_at hl 6 rfl) ?_
      refine li_iadd hx hb dX4_cheapestThroughGates_50 ?_
      refine lv_iload hx hb dX4_cheapestThroughGates_51 (lv_at hl 0 rfl) ?_
      refine li_iconst hx hb dX4_cheapestThroughGates_53 ?_
      refine li_icmp_ne (tgt := 62) hx hb dX4_cheapestThroughGates_54 (by decide) hv38_10 (by decide) (fun c_12 => ?_) (fun c_12 => ?_)
      · replace hw := hw.1 c_12
        refine lv_iload hx hb dX4_cheapestThroughGates_62 (lv_at hl 0 rfl) ?_
        obtain ⟨h_13, hw⟩ := hw
        exact bX4_cheapestThroughGates_64 r2 r3 C post (fun y4 y5 N => lpX4_cheapestThroughGates_22 r2 r3 post n y4 y5 N) ih x4 x5 v38_10 (10 + x5) x5 h4 h5 hv38_10 h_13 h5 _ _ _ _ hw I (lv_sub hl [1, 2, 3, 4, 5, 6] rfl)
      · replace hw := hw.2 c_12
        refine lv_ldc (v := i32 1000000) hx hb hown (hts _ wk_X4_31) dX4_cheapestThroughGates_57 ?_
        refine lv_goto (tgt := 64) hx hb dX4_cheapestThroughGates_59 (by decide) ?_
        obtain ⟨h_14, hw⟩ := hw
        exact bX4_cheapestThroughGates_64 r2 r3 C post (fun y4 y5 N => lpX4_cheapestThroughGates_22 r2 r3 post n y4 y5 N) ih x4 x5 1000000 (10 + x5) x5 h4 h5 (by decide) h_14 h5 _ _ _ _ hw I (lv_sub hl [1, 2, 3, 4, 5, 6] rfl)
set_option maxRecDepth 100000 in
set_option maxHeartbeats 4000000 in
theorem mX4_cheapestThroughGates (l : Launch) (g : GP) (r2 : Int) (r3 : Int) (M : Mem) (post : Int → Mem → Prop) (sz : Nat) (hw : wpX4_cheapestThroughGates r2 r3 M post) : MIX l yX4_cheapestThroughGates wtX4_cheapestThroughGates rmX4_cheapestThroughGates g [.ref (g.2.2.2 5), .ref (g.2.2.2 1), .ref (g.2.2.2 r2), .ref (g.2.2.2 r3)] M sz post := by
  refine Met.ofW (cc := cX4_cheapestThroughGates) (maxL := 8) (ret := (some .int)) (by decide) rfl ?_
  intro p e s m args below meth c s₁ B hml hv
  obtain ⟨rfl, hpre⟩ := hv
  have hsz := hpre.1
  subst hsz
  have C : Cx p m c cX4_cheapestThroughGates 8 s _ lw_g RX4 meth (some .int) := ⟨⟨B.exec, B.bytes, hml, findClass_of_methodNamed B.named, fun w h => atoms_spec (ws := wtX4_cheapestThroughGates) B.pre w (List.mem_cons_of_mem _ h)⟩, B.returns, B.notSynchronized⟩
  obtain ⟨⟨hx, hb, hml, hown, hts⟩, hr, hlk⟩ := id C
  have I := InG.start hpre
  have hl := lv_entry ([.ref (g.2.2.2 5), .ref (g.2.2.2 1), .ref (g.2.2.2 r2), .ref (g.2.2.2 r3)]) (n := 8) (Nat.le_of_ble_eq_true rfl)
  rw [lg_entry_eq]
  generalize (lg_sl ([.ref (g.2.2.2 5), .ref (g.2.2.2 1), .ref (g.2.2.2 r2), .ref (g.2.2.2 r3)]) ++ List.replicate (8 - (lg_sl ([.ref (g.2.2.2 5), .ref (g.2.2.2 1), .ref (g.2.2.2 r2), .ref (g.2.2.2 r3)])).length) Slot.unset).toArray = ls at hl ⊢
  have hl : lv_has ls 8 [(0, .ref (g.2.2.2 5)), (1, .ref (g.2.2.2 1)), (2, .ref (g.2.2.2 r2)), (3, .ref (g.2.2.2 r3))] := hl
  show W p l e rmX4_cheapestThroughGates s m _ below meth c s.heap [] 0 0 (QIX below _ s g post) _
  refine lv_aload_n hx hb dX4_cheapestThroughGates_0 rfl (lv_at hl 0 rfl) ?_
  refine xg_5_0 hx hb hts wu_X4 hown I wf_X4_12 dX4_cheapestThroughGates_1 ?_
  refine g_callVv (o := (8 + 0)) (As := []) (rest := []) ⟨hx, hb, hml, hown, hts⟩ I (mX5_empty l g 0 (Or.inl rfl) M _ _ hw) (cwV 0 hts (gd_V wm_X4_18 wi_X5_empty wl_X5_empty wn_X5 wc_X5_empty) rfl rfl rfl wd_X5_empty ⟨Nat.le_of_ble_eq_true rfl, Nat.le_of_ble_eq_true rfl⟩) (by omega) (by omega) (obX_N (Or.inl rfl)) rfl rfl hl.1 rfl (Nat.le_of_ble_eq_true rfl) dX4_cheapestThroughGates_4 ⟨Nat.zero_le _, Nat.zero_le _⟩ (fun M4_0 H locs hw I => ?_)
  refine lv_aload_n hx hb dX4_cheapestThroughGates_7 rfl (lv_at hl 0 rfl) ?_
  refine lv_aload_n hx hb dX4_cheapestThroughGates_8 rfl (lv_at hl 1 rfl) ?_
  refine xg_1_0 hx hb hts wu_X3 hown I wf_X4_21 dX4_cheapestThroughGates_9 ?_
  have h_2 := I.rng 1 0
  refine lv_aload_n hx hb dX4_cheapestThroughGates_12 rfl (lv_at hl 2 rfl) ?_
  refine lv_aload_n hx hb dX4_cheapestThroughGates_13 rfl (lv_at hl 3 rfl) ?_
  refine g_callVi (o := 5) (As := [.int (i32 (M4_0 1 0)), .ref (g.2.2.2 r2), .ref (g.2.2.2 r3)]) (rest := []) ⟨hx, hb, hml, hown, hts⟩ I (mX4_joinSource l g r2 r3 (M4_0 1 0) h_2 M4_0 _ _ hw) (cwV 3 hts (gd_V wm_X4_27 wi_X4_joinSource wl_X4_joinSource wn_X4 wc_X4_joinSource) rfl rfl rfl wd_X4_joinSource ⟨Nat.le_of_ble_eq_true rfl, Nat.le_of_ble_eq_true rfl⟩) (by omega) (by omega) obX_5 rfl rfl hl.1 rfl (Nat.le_of_ble_eq_true rfl) dX4_cheapestThroughGates_14 ⟨Nat.zero_le _, Nat.zero_le _⟩ (fun r14_2 M14_2 H locs hr14_2 hw I => ?_)
  refine lv_istore (lv' := [(4, .int (i32 r14_2)), (0, .ref (g.2.2.2 5)), (1, .ref (g.2.2.2 1)), (2, .ref (g.2.2.2 r2)), (3, .ref (g.2.2.2 r3))]) hx hb dX4_cheapestThroughGates_17 hl (by decide) rfl (fun ls hl => ?_)
  refine li_iconst hx hb dX4_cheapestThroughGates_19 ?_
  refine lv_istore (lv' := [(5, .int (i32 0)), (4, .int (i32 r14_2)), (0, .ref (g.2.2.2 5)), (1, .ref (g.2.2.2 1)), (2, .ref (g.2.2.2 r2)), (3, .ref (g.2.2.2 r3))]) hx hb dX4_cheapestThroughGates_20 hl (by decide) rfl (fun ls hl => ?_)
  obtain ⟨n1, hw⟩ := hw
  exact bX4_cheapestThroughGates_22 r2 r3 C post n1 r14_2 0 hr14_2 (by decide) _ _ _ _ hw I (lv_sub hl [2, 3, 4, 5, 1, 0] rfl)
abbrev rmX6_takeGoods : Room := { frames := 1, cells := 0, slots := 0, locals := 23 }
abbrev wtX6_takeGoods : List Cond := Cond.code yX6_takeGoods cX6_takeGoods 8 none :: lw_g
set_option maxRecDepth 100000 in
set_option maxHeartbeats 4000000 in
theorem bX6_takeGoods_111 {p : Program} {l : Launch} {e : Env} {s : State} {m : MethodId} {args : Array Value} {below : List Frame} {meth : Method} {c : Code} {g : GP} (r3 : Int) (r4 : Int) (C : Cx p m c cX6_takeGoods 8 s args lw_g RX6 meth none) (post : Mem → Prop) (k51 : Int → Int → Mem → Prop) (hk51 : ∀ (x1 x5 : Int), inR x1 → inR x5 → ∀ (M : Mem) (H : Heap) (locs : List Loc) (ls : Array Slot), k51 x1 x5 M → IX g s M H locs → lv_has ls 8 [(0, .ref (g.2.2.2 6)), (2, .ref (g.2.2.2 (8 + 0))), (3, .ref (g.2.2.2 r3)), (4, .ref (g.2.2.2 r4)), (1, .int (i32 x1)), (5, .int (i32 x5))] → W p l e rmX6_takeGoods s m args below meth c H locs 0 0 (QVX below args s g post) (F0 m 51 ls [])) : ∀ (x1 x5 : Int), inR x1 → inR x5 → ∀ (M : Mem) (H : Heap) (locs : List Loc) (ls : Array Slot), jbX6_takeGoods_111 r3 r4 post k51 x1 x5 M → IX g s M H locs → lv_has ls 8 [(0, .ref (g.2.2.2 6)), (2, .ref (g.2.2.2 (8 + 0))), (3, .ref (g.2.2.2 r3)), (4, .ref (g.2.2.2 r4)), (1, .int (i32 x1)), (5, .int (i32 x5))] → W p l e rmX6_takeGoods s m args below meth c H locs 0 0 (QVX below args s g post) (F0 m 111 ls []) := by
  obtain ⟨⟨hx, hb, hml, hown, hts⟩, hr, hlk⟩ := id C
  intro x1 x5 h1 h5 M H locs ls hw I hl
  refine li_iinc (lv' := [(5, .int (i32 (x5 + 2))), (0, .ref (g.2.2.2 6)), (2, .ref (g.2.2.2 (8 + 0))), (3, .ref (g.2.2.2 r3)), (4, .ref (g.2.2.2 r4)), (1, .int (i32 x1))]) hx hb dX6_takeGoods_111 hl (k := 5) rfl (by decide) rfl (fun ls hl => ?_)
  refine lv_goto (tgt := 51) hx hb dX6_takeGoods_114 (by decide) ?_
  obtain ⟨h_1, hw⟩ := hw
  exact hk51 x1 (x5 + 2) h1 h_1 _ _ _ _ hw I (lv_sub hl [1, 2, 3, 4, 5, 0] rfl)
set_option maxRecDepth 100000 in
set_option maxHeartbeats 4000000 in
theorem bX6_takeGoods_51 {p : Program} {l : Launch} {e : Env} {s : State} {m : MethodId} {args : Array Value} {below : List Frame} {meth : Method} {c : Code} {g : GP} (r3 : Int) (r4 : Int) (C : Cx p m c cX6_takeGoods 8 s args lw_g RX6 meth none) (post : Mem → Prop) : ∀ (n : Nat), ∀ (x1 x5 : Int), inR x1 → inR x5 → ∀ (M : Mem) (H : Heap) (locs : List Loc) (ls : Array Slot), lpX6_takeGoods_51 r3 r4 post n x1 x5 M → IX g s M H locs → lv_has ls 8 [(0, .ref (g.2.2.2 6)), (2, .ref (g.2.2.2 (8 + 0))), (3, .ref (g.2.2.2 r3)), (4, .ref (g.2.2.2 r4)), (1, .int (i32 x1)), (5, .int (i32 x5))] → W p l e rmX6_takeGoods s m args below meth c H locs 0 0 (QVX below args s g post) (F0 m 51 ls []) := by
  obtain ⟨⟨hx, hb, hml, hown, hts⟩, hr, hlk⟩ := id C
  intro n
  induction n with
  | zero =>
    intro x1 x5 h1 h5 M H locs ls hw
    exact hw.elim
  | succ n ih =>
    intro x1 x5 h1 h5 M H locs ls hw I hl
    refine lv_iload hx hb dX6_takeGoods_51 (lv_at hl 5 rfl) ?_
    refine li_iconst hx hb dX6_takeGoods_53 ?_
    refine li_iadd hx hb dX6_takeGoods_54 ?_
    refine lv_aload_n hx hb dX6_takeGoods_55 rfl (lv_at hl 1 rfl) ?_
    refine xg_N_0 (z := 0) (Or.inl rfl) hx hb hts wu_X5 hown I wf_X6_71 dX6_takeGoods_56 ?_
    have h_1 := I.rng (8 + 0) 0
    obtain ⟨h_3, hw⟩ := hw
    refine li_icmp_ge (tgt := 117) hx hb dX6_takeGoods_59 (by decide) h_3 h_1 (fun c_2 => ?_) (fun c_2 => ?_)
    · replace hw := hw.1 c_2
      exact g_vret hx hb hr hlk I hw dX6_takeGoods_117
    · replace hw := hw.2 c_2
      refine lv_aload_n hx hb dX6_takeGoods_62 rfl (lv_at hl 1 rfl) ?_
      refine xg_N_3 (z := 0) (Or.inl rfl) hx hb hts wu_X5 hown I wf_X6_76 dX6_takeGoods_63 ?_
      refine lv_iload hx hb dX6_takeGoods_66 (lv_at hl 5 rfl) ?_
      obtain ⟨h_4, hw⟩ := hw
      refine x_iald hx hb I (28 + 0) (lenX_28 (Or.inl rfl)) h_4 dX6_takeGoods_68 ?_
      have h_5 := I.rng (28 + 0) x5
      refine li_name (fun v69_5 ev69_5 => ?_)
      replace hw := hw v69_5 ev69_5
      have hv69_5 : inR v69_5 := ev69_5 ▸ h_5
      refine lv_istore (lv' := [(6, .int (i32 v69_5)), (0, .ref (g.2.2.2 6)), (2, .ref (g.2.2.2 (8 + 0))), (3, .ref (g.2.2.2 r3)), (4, .ref (g.2.2.2 r4)), (1, .int (i32 x1)), (5, .int (i32 x5))]) hx hb dX6_takeGoods_69 hl (by decide) rfl (fun ls hl => ?_)
      refine lv_aload_n hx hb dX6_takeGoods_71 rfl (lv_at hl 2 rfl) ?_
      refine xg_N_4 (z := 0) (Or.inl rfl) hx hb hts wu_X5 hown I wf_X6_79 dX6_takeGoods_72 ?_
      refine lv_iload hx hb dX6_takeGoods_75 (lv_at hl 6 rfl) ?_
      obtain ⟨h_7, hw⟩ := hw
      refine x_iald hx hb I (30 + 0) (lenX_30 (Or.inl rfl)) h_7 dX6_takeGoods_77 ?_
      have h_8 := I.rng (30 + 0) x5
      refine li_name (fun v78_8 ev78_8 => ?_)
      replace hw := hw v78_8 ev78_8
      have hv78_8 : inR v78_8 := ev78_8 ▸ h_8
      refine lv_istore (lv' := [(7, .int (i32 v78_8)), (6, .int (i32 v69_5)), (0, .ref (g.2.2.2 6)), (2, .ref (g.2.2.2 (8 + 0))), (3, .ref (g.2.2.2 r3)), (4, .ref (g.2.2.2 r4)), (1, .int (i32 x1)), (5, .int (i32 x5))]) hx hb dX6_takeGoods_78 hl (by decide) rfl (fun ls hl => ?_)
      refine lv_iload hx hb dX6_takeGoods_80 (lv_at hl 1 rfl) ?_
      refine lv_iload_n hx hb dX6_takeGoods_82 rfl (lv_at hl 6 rfl) ?_
      refine li_icmp_ge (tgt := 111) hx hb dX6_takeGoods_83 (by decide) hv69_5 h1 (fun c_10 => ?_) (fun c_10 => ?_)
      · replace hw := hw.1 c_10
        exact bX6_takeGoods_111 r3 r4 C post (fun y1 y5 N => lpX6_takeGoods_51 r3 r4 post n y1 y5 N) ih x1 x5 h1 h5 _ _ _ _ hw I (lv_sub hl [2, 3, 4, 5, 6, 7] rfl)
      · replace hw := hw.2 c_10
        refine lv_iload hx hb dX6_takeGoods_86 (lv_at hl 0 rfl) ?_
        refine lv_iload_n hx hb dX6_takeGoods_88 rfl (lv_at hl 6 rfl) ?_
        refine li_icmp_ge (tgt := 111) hx hb dX6_takeGoods_89 (by decide) hv78_8 h1 (fun c_11 => ?_) (fun c_11 => ?_)
        · replace hw := hw.1 c_11
          exact bX6_takeGoods_111 r3 r4 C post (fun y1 y5 N => lpX6_takeGoods_51 r3 r4 post n y1 y5 N) ih x1 x5 h1 h5 _ _ _ _ hw I (lv_sub hl [2, 3, 4, 5, 6, 7] rfl)
        · replace hw := hw.2 c_11
          refine lv_aload_n hx hb dX6_takeGoods_92 rfl (lv_at hl 2 rfl) ?_
          refine xg_6_0 hx hb hts wu_X6 hown I wf_X6_11 dX6_takeGoods_93 ?_
          refine lv_iload hx hb dX6_takeGoods_96 (lv_at hl 1 rfl) ?_
          obtain ⟨h_12, hw⟩ := hw
          refine x_aald_14 hx hb I h_12 dX6_takeGoods_98 ?_
          refine lv_iload hx hb dX6_takeGoods_99 (lv_at hl 0 rfl) ?_
          refine lv_aload_n hx hb dX6_takeGoods_101 rfl (lv_at hl 3 rfl) ?_
          refine xg_N_5 (z := 0) (Or.inl rfl) hx hb hts wu_X5 hown I wf_X6_82 dX6_takeGoods_102 ?_
          refine lv_iload hx hb dX6_takeGoods_105 (lv_at hl 7 rfl) ?_
          refine li_iconst hx hb dX6_takeGoods_107 ?_
          refine li_iadd hx hb dX6_takeGoods_108 ?_
          obtain ⟨h_13, hw⟩ := hw
          refine x_iald hx hb I (32 + 0) (lenX_32 (Or.inl rfl)) h_13 dX6_takeGoods_109 ?_
          have h_14 := I.rng (32 + 0) (x5 + 1)
          obtain ⟨h_15, hw⟩ := hw
          refine x_iast hx hb I (70 + v69_5) (lenX_70 h_12) h_15 h_14 dX6_takeGoods_110 (fun H locs M110_15 eM110_15 I => ?_)
          replace hw := hw M110_15 eM110_15
          exact bX6_takeGoods_111 r3 r4 C post (fun y1 y5 N => lpX6_takeGoods_51 r3 r4 post n y1 y5 N) ih x1 x5 h1 h5 _ _ _ _ hw I (lv_sub hl [2, 3, 4, 5, 6, 7] rfl)
set_option maxRecDepth 100000 in
set_option maxHeartbeats 4000000 in
theorem bX6_takeGoods_3 {p : Program} {l : Launch} {e : Env} {s : State} {m : MethodId} {args : Array Value} {below : List Frame} {meth : Method} {c : Code} {g : GP} (r3 : Int) (r4 : Int) (C : Cx p m c cX6_takeGoods 8 s args lw_g RX6 meth none) (post : Mem → Prop) : ∀ (n : Nat), ∀ (x1 x5 : Int), inR x1 → inR x5 → ∀ (M : Mem) (H : Heap) (locs : List Loc) (ls : Array Slot), lpX6_takeGoods_3 r3 r4 post n x1 x5 M → IX g s M H locs → lv_has ls 8 [(0, .ref (g.2.2.2 6)), (2, .ref (g.2.2.2 (8 + 0))), (3, .ref (g.2.2.2 r3)), (4, .ref (g.2.2.2 r4)), (1, .int (i32 x1)), (5, .int (i32 x5))] → W p l e rmX6_takeGoods s m args below meth c H locs 0 0 (QVX below args s g post) (F0 m 3 ls []) := by
  obtain ⟨⟨hx, hb, hml, hown, hts⟩, hr, hlk⟩ := id C
  intro n
  induction n with
  | zero =>
    intro x1 x5 h1 h5 M H locs ls hw
    exact hw.elim
  | succ n ih =>
    intro x1 x5 h1 h5 M H locs ls hw I hl
    refine lv_iload hx hb dX6_takeGoods_3 (lv_at hl 5 rfl) ?_
    refine lv_iload_n hx hb dX6_takeGoods_5 rfl (lv_at hl 4 rfl) ?_
    refine li_icmp_ge (tgt := 48) hx hb dX6_takeGoods_6 (by decide) h5 h1 (fun c_1 => ?_) (fun c_1 => ?_)
    · replace hw := hw.1 c_1
      refine li_iconst hx hb dX6_takeGoods_48 ?_
      refine lv_istore (lv' := [(5, .int (i32 0)), (0, .ref (g.2.2.2 6)), (2, .ref (g.2.2.2 (8 + 0))), (3, .ref (g.2.2.2 r3)), (4, .ref (g.2.2.2 r4)), (1, .int (i32 x1))]) hx hb dX6_takeGoods_49 hl (by decide) rfl (fun ls hl => ?_)
      obtain ⟨n1, hw⟩ := hw
      exact bX6_takeGoods_51 r3 r4 C post n1 x1 0 h1 (by decide) _ _ _ _ hw I (lv_sub hl [1, 2, 3, 4, 5, 0] rfl)
    · replace hw := hw.2 c_1
      refine lv_aload_n hx hb dX6_takeGoods_9 rfl (lv_at hl 0 rfl) ?_
      refine xg_6_0 hx hb hts wu_X6 hown I wf_X6_11 dX6_takeGoods_10 ?_
      refine lv_iload hx hb dX6_takeGoods_13 (lv_at hl 5 rfl) ?_
      obtain ⟨h_2, hw⟩ := hw
      refine x_aald_14 hx hb I h_2 dX6_takeGoods_15 ?_
      refine li_iconst hx hb dX6_takeGoods_16 ?_
      refine g_callSv (As := [.ref (g.2.2.2 (70 + x5)), .int (i32 0)]) (rest := []) ⟨hx, hb, hml, hown, hts⟩ I (mJ7_fill_53178 l g (70 + x5) 0 (by decide) M _ _ hw) (va_cwS 2 hts (gd_S wm_X6_59 wa_J7_fill_53178 wn_J7 wc_J7_fill_53178) rfl rfl rfl wd_J7_fill_53178 ⟨Nat.le_of_ble_eq_true rfl, Nat.le_of_ble_eq_true rfl⟩) rfl hl.1 rfl (Nat.le_of_ble_eq_true rfl) dX6_takeGoods_17 ⟨Nat.zero_le _, Nat.zero_le _⟩ (fun M17_2 H locs hw I => ?_)
      refine lv_aload_n hx hb dX6_takeGoods_20 rfl (lv_at hl 0 rfl) ?_
      refine xg_6_0 hx hb hts wu_X6 hown I wf_X6_11 dX6_takeGoods_21 ?_
      refine lv_iload hx hb dX6_takeGoods_24 (lv_at hl 5 rfl) ?_
      obtain ⟨h_4, hw⟩ := hw
      refine x_aald_14 hx hb I h_4 dX6_takeGoods_26 ?_
      refine lv_iload hx hb dX6_takeGoods_27 (lv_at hl 5 rfl) ?_
      refine lv_aload_n hx hb dX6_takeGoods_29 rfl (lv_at hl 2 rfl) ?_
      refine lv_iload hx hb dX6_takeGoods_30 (lv_at hl 5 rfl) ?_
      obtain ⟨h_5, hw⟩ := hw
      refine x_iald hx hb I r3 rfl h_5 dX6_takeGoods_32 ?_
      have h_6 := I.rng r3 x5
      refine lv_aload hx hb dX6_takeGoods_33 (lv_at hl 3 rfl) ?_
      refine lv_iload hx hb dX6_takeGoods_35 (lv_at hl 5 rfl) ?_
      obtain ⟨h_7, hw⟩ := hw
      refine x_iald hx hb I r4 rfl h_7 dX6_takeGoods_37 ?_
      have h_8 := I.rng r4 x5
      refine g_mmin hx hb (hml.trans hl.1.symm) hts hown wm_X6_65 wa_min wn_J9 wc_min (Nat.le_of_ble_eq_true rfl) (Nat.le_of_ble_eq_true rfl) (Nat.zero_le _) (Nat.zero_le _) h_6 h_8 dX6_takeGoods_38 ?_
      obtain ⟨h_9, hw⟩ := hw
      refine x_iast hx hb I (70 + x5) (lenX_70 h_4) h_9 (inR_min h_6 h_8) dX6_takeGoods_41 (fun H locs M41_9 eM41_9 I => ?_)
      replace hw := hw M41_9 eM41_9
      refine li_iinc (lv' := [(5, .int (i32 (x5 + 1))), (0, .ref (g.2.2.2 6)), (2, .ref (g.2.2.2 (8 + 0))), (3, .ref (g.2.2.2 r3)), (4, .ref (g.2.2.2 r4)), (1, .int (i32 x1))]) hx hb dX6_takeGoods_42 hl (k := 5) rfl (by decide) rfl (fun ls hl => ?_)
      refine lv_goto (tgt := 3) hx hb dX6_takeGoods_45 (by decide) ?_
      obtain ⟨h_11, hw⟩ := hw
      exact ih x1 (x5 + 1) h1 h_11 _ _ _ _ hw I (lv_sub hl [1, 2, 3, 4, 5, 0] rfl)
set_option maxRecDepth 100000 in
set_option maxHeartbeats 4000000 in
theorem mX6_takeGoods (l : Launch) (g : GP) (r3 : Int) (r4 : Int) (a1 : Int) (ha1 : inR a1) (M : Mem) (post : Mem → Prop) (sz : Nat) (hw : wpX6_takeGoods r3 r4 a1 M post) : MVX l yX6_takeGoods wtX6_takeGoods rmX6_takeGoods g [.ref (g.2.2.2 6), .int (i32 a1), .ref (g.2.2.2 (8 + 0)), .ref (g.2.2.2 r3), .ref (g.2.2.2 r4)] M sz post := by
  refine Met.ofW (cc := cX6_takeGoods) (maxL := 8) (ret := none) (by decide) rfl ?_
  intro p e s m args below meth c s₁ B hml hv
  obtain ⟨rfl, hpre⟩ := hv
  have hsz := hpre.1
  subst hsz
  have C : Cx p m c cX6_takeGoods 8 s _ lw_g RX6 meth none := ⟨⟨B.exec, B.bytes, hml, findClass_of_methodNamed B.named, fun w h => atoms_spec (ws := wtX6_takeGoods) B.pre w (List.mem_cons_of_mem _ h)⟩, B.returns, B.notSynchronized⟩
  obtain ⟨⟨hx, hb, hml, hown, hts⟩, hr, hlk⟩ := id C
  have I := InG.start hpre
  have hl := lv_entry ([.ref (g.2.2.2 6), .int (i32 a1), .ref (g.2.2.2 (8 + 0)), .ref (g.2.2.2 r3), .ref (g.2.2.2 r4)]) (n := 8) (Nat.le_of_ble_eq_true rfl)
  rw [lg_entry_eq]
  generalize (lg_sl ([.ref (g.2.2.2 6), .int (i32 a1), .ref (g.2.2.2 (8 + 0)), .ref (g.2.2.2 r3), .ref (g.2.2.2 r4)]) ++ List.replicate (8 - (lg_sl ([.ref (g.2.2.2 6), .int (i32 a1), .ref (g.2.2.2 (8 + 0)), .ref (g.2.2.2 r3), .ref (g.2.2.2 r4)])).length) Slot.unset).toArray = ls at hl ⊢
  have hl : lv_has ls 8 [(0, .ref (g.2.2.2 6)), (1, .int (i32 a1)), (2, .ref (g.2.2.2 (8 + 0))), (3, .ref (g.2.2.2 r3)), (4, .ref (g.2.2.2 r4))] := hl
  show W p l e rmX6_takeGoods s m _ below meth c s.heap [] 0 0 (QVX below _ s g post) _
  refine li_iconst hx hb dX6_takeGoods_0 ?_
  refine lv_istore (lv' := [(5, .int (i32 0)), (0, .ref (g.2.2.2 6)), (1, .int (i32 a1)), (2, .ref (g.2.2.2 (8 + 0))), (3, .ref (g.2.2.2 r3)), (4, .ref (g.2.2.2 r4))]) hx hb dX6_takeGoods_1 hl (by decide) rfl (fun ls hl => ?_)
  obtain ⟨n1, hw⟩ := hw
  exact bX6_takeGoods_3 r3 r4 C post n1 a1 0 ha1 (by decide) _ _ _ _ hw I (lv_sub hl [1, 3, 4, 5, 2, 0] rfl)
abbrev rmX6_lowerHeights : Room := { frames := 0, cells := 0, slots := 0, locals := 0 }
abbrev wtX6_lowerHeights : List Cond := Cond.code yX6_lowerHeights cX6_lowerHeights 6 (some .boolean) :: lw_g
set_option maxRecDepth 100000 in
set_option maxHeartbeats 4000000 in
theorem bX6_lowerHeights_121 {p : Program} {l : Launch} {e : Env} {s : State} {m : MethodId} {args : Array Value} {below : List Frame} {meth : Method} {c : Code} {g : GP} (C : Cx p m c cX6_lowerHeights 6 s args lw_g RX6 meth (some .boolean)) (post : Int → Mem → Prop) (k4 : Int → Int → Mem → Prop) (k15 : Int → Int → Int → Mem → Prop) (hk4 : ∀ (x2 x3 : Int), inR x2 → inR x3 → ∀ (M : Mem) (H : Heap) (locs : List Loc) (ls : Array Slot), k4 x2 x3 M → IX g s M H locs → lv_has ls 6 [(0, .ref (g.2.2.2 6)), (1, .ref (g.2.2.2 1)), (2, .int (i32 x2)), (3, .int (i32 x3))] → W p l e rmX6_lowerHeights s m args below meth c H locs 0 0 (QIX below args s g post) (F0 m 4 ls [])) (hk15 : ∀ (x2 x3 x4 : Int), inR x2 → inR x3 → inR x4 → ∀ (M : Mem) (H : Heap) (locs : List Loc) (ls : Array Slot), k15 x2 x3 x4 M → IX g s M H locs → lv_has ls 6 [(0, .ref (g.2.2.2 6)), (1, .ref (g.2.2.2 1)), (2, .int (i32 x2)), (3, .int (i32 x3)), (4, .int (i32 x4))] → W p l e rmX6_lowerHeights s m args below meth c H locs 0 0 (QIX below args s g post) (F0 m 15 ls [])) : ∀ (x2 x3 x4 : Int), inR x2 → inR x3 → inR x4 → ∀ (M : Mem) (H : Heap) (locs : List Loc) (ls : Array Slot), jbX6_lowerHeights_121 post k4 k15 x2 x3 x4 M → IX g s M H locs → lv_has ls 6 [(0, .ref (g.2.2.2 6)), (1, .ref (g.2.2.2 1)), (2, .int (i32 x2)), (3, .int (i32 x3)), (4, .int (i32 x4))] → W p l e rmX6_lowerHeights s m args below meth c H locs 0 0 (QIX below args s g post) (F0 m 121 ls []) := by
  obtain ⟨⟨hx, hb, hml, hown, hts⟩, hr, hlk⟩ := id C
  intro x2 x3 x4 h2 h3 h4 M H locs ls hw I hl
  refine li_iinc (lv' := [(4, .int (i32 (x4 + 1))), (0, .ref (g.2.2.2 6)), (1, .ref (g.2.2.2 1)), (2, .int (i32 x2)), (3, .int (i32 x3))]) hx hb dX6_lowerHeights_121 hl (k := 4) rfl (by decide) rfl (fun ls hl => ?_)
  refine lv_goto (tgt := 15) hx hb dX6_lowerHeights_124 (by decide) ?_
  obtain ⟨h_1, hw⟩ := hw
  exact hk15 x2 x3 (x4 + 1) h2 h3 h_1 _ _ _ _ hw I (lv_sub hl [1, 2, 3, 4, 0] rfl)
set_option maxRecDepth 100000 in
set_option maxHeartbeats 4000000 in
theorem bX6_lowerHeights_72 {p : Program} {l : Launch} {e : Env} {s : State} {m : MethodId} {args : Array Value} {below : List Frame} {meth : Method} {c : Code} {g : GP} (C : Cx p m c cX6_lowerHeights 6 s args lw_g RX6 meth (some .boolean)) (post : Int → Mem → Prop) (k4 : Int → Int → Mem → Prop) (k15 : Int → Int → Int → Mem → Prop) (hk4 : ∀ (x2 x3 : Int), inR x2 → inR x3 → ∀ (M : Mem) (H : Heap) (locs : List Loc) (ls : Array Slot), k4 x2 x3 M → IX g s M H locs → lv_has ls 6 [(0, .ref (g.2.2.2 6)), (1, .ref (g.2.2.2 1)), (2, .int (i32 x2)), (3, .int (i32 x3))] → W p l e rmX6_lowerHeights s m args below meth c H locs 0 0 (QIX below args s g post) (F0 m 4 ls [])) (hk15 : ∀ (x2 x3 x4 : Int), inR x2 → inR x3 → inR x4 → ∀ (M : Mem) (H : Heap) (locs : List Loc) (ls : Array Slot), k15 x2 x3 x4 M → IX g s M H locs → lv_has ls 6 [(0, .ref (g.2.2.2 6)), (1, .ref (g.2.2.2 1)), (2, .int (i32 x2)), (3, .int (i32 x3)), (4, .int (i32 x4))] → W p l e rmX6_lowerHeights s m args below meth c H locs 0 0 (QIX below args s g post) (F0 m 15 ls [])) : ∀ (x2 x3 x4 x5 : Int), inR x2 → inR x3 → inR x4 → inR x5 → ∀ (M : Mem) (H : Heap) (locs : List Loc) (ls : Array Slot), jbX6_lowerHeights_72 post k4 k15 x2 x3 x4 x5 M → IX g s M H locs → lv_has ls 6 [(0, .ref (g.2.2.2 6)), (1, .ref (g.2.2.2 1)), (2, .int (i32 x2)), (3, .int (i32 x3)), (4, .int (i32 x4)), (5, .int (i32 x5))] → W p l e rmX6_lowerHeights s m args below meth c H locs 0 0 (QIX below args s g post) (F0 m 72 ls []) := by
  obtain ⟨⟨hx, hb, hml, hown, hts⟩, hr, hlk⟩ := id C
  intro x2 x3 x4 x5 h2 h3 h4 h5 M H locs ls hw I hl
  refine lv_aload_n hx hb dX6_lowerHeights_72 rfl (lv_at hl 0 rfl) ?_
  refine xg_6_0 hx hb hts wu_X6 hown I wf_X6_11 dX6_lowerHeights_73 ?_
  refine lv_iload_n hx hb dX6_lowerHeights_76 rfl (lv_at hl 3 rfl) ?_
  obtain ⟨h_1, hw⟩ := hw
  refine x_aald_14 hx hb I h_1 dX6_lowerHeights_77 ?_
  refine lv_iload hx hb dX6_lowerHeights_78 (lv_at hl 4 rfl) ?_
  obtain ⟨h_2, hw⟩ := hw
  refine x_iald hx hb I (70 + x3) (lenX_70 h_1) h_2 dX6_lowerHeights_80 ?_
  have h_3 := I.rng (70 + x3) x4
  refine li_if_le (tgt := 121) hx hb dX6_lowerHeights_81 (by decide) h_3 (fun c_4 => ?_) (fun c_4 => ?_)
  · replace hw := hw.1 c_4
    exact bX6_lowerHeights_121 C post k4 k15 hk4 hk15 x2 x3 x4 h2 h3 h4 _ _ _ _ hw I (lv_sub hl [0, 1, 2, 3, 4] rfl)
  · replace hw := hw.2 c_4
    refine lv_aload_n hx hb dX6_lowerHeights_84 rfl (lv_at hl 0 rfl) ?_
    refine xg_6_1 hx hb hts wu_X6 hown I wf_X6_16 dX6_lowerHeights_85 ?_
    refine lv_iload hx hb dX6_lowerHeights_88 (lv_at hl 4 rfl) ?_
    obtain ⟨h_5, hw⟩ := hw
    refine x_iald hx hb I 23 lenX_23 h_5 dX6_lowerHeights_90 ?_
    have h_6 := I.rng 23 x4
    refine lv_aload_n hx hb dX6_lowerHeights_91 rfl (lv_at hl 0 rfl) ?_
    refine xg_6_1 hx hb hts wu_X6 hown I wf_X6_16 dX6_lowerHeights_92 ?_
    refine lv_iload_n hx hb dX6_lowerHeights_95 rfl (lv_at hl 3 rfl) ?_
    obtain ⟨h_7, hw⟩ := hw
    refine x_iald hx hb I 23 lenX_23 h_7 dX6_lowerHeights_96 ?_
    have h_8 := I.rng 23 x3
    refine lv_iload hx hb dX6_lowerHeights_97 (lv_at hl 5 rfl) ?_
    refine li_isub hx hb dX6_lowerHeights_99 ?_
    obtain ⟨h_10, hw⟩ := hw
    refine li_icmp_le (tgt := 121) hx hb dX6_lowerHeights_100 (by decide) h_6 h_10 (fun c_9 => ?_) (fun c_9 => ?_)
    · replace hw := hw.1 c_9
      exact bX6_lowerHeights_121 C post k4 k15 hk4 hk15 x2 x3 x4 h2 h3 h4 _ _ _ _ hw I (lv_sub hl [0, 1, 2, 3, 4] rfl)
    · replace hw := hw.2 c_9
      refine lv_aload_n hx hb dX6_lowerHeights_103 rfl (lv_at hl 0 rfl) ?_
      refine xg_6_1 hx hb hts wu_X6 hown I wf_X6_16 dX6_lowerHeights_104 ?_
      refine lv_iload hx hb dX6_lowerHeights_107 (lv_at hl 4 rfl) ?_
      refine lv_aload_n hx hb dX6_lowerHeights_109 rfl (lv_at hl 0 rfl) ?_
      refine xg_6_1 hx hb hts wu_X6 hown I wf_X6_16 dX6_lowerHeights_110 ?_
      refine lv_iload_n hx hb dX6_lowerHeights_113 rfl (lv_at hl 3 rfl) ?_
      obtain ⟨h_11, hw⟩ := hw
      refine x_iald hx hb I 23 lenX_23 h_11 dX6_lowerHeights_114 ?_
      have h_12 := I.rng 23 x3
      refine lv_iload hx hb dX6_lowerHeights_115 (lv_at hl 5 rfl) ?_
      refine li_isub hx hb dX6_lowerHeights_117 ?_
      obtain ⟨h_13, hw⟩ := hw
      refine x_iast hx hb I 23 lenX_23 h_13 h_10 dX6_lowerHeights_118 (fun H locs M118_13 eM118_13 I => ?_)
      replace hw := hw M118_13 eM118_13
      refine li_iconst hx hb dX6_lowerHeights_119 ?_
      refine lv_istore_n (lv' := [(2, .int (i32 1)), (0, .ref (g.2.2.2 6)), (1, .ref (g.2.2.2 1)), (3, .int (i32 x3)), (4, .int (i32 x4)), (5, .int (i32 x5))]) hx hb dX6_lowerHeights_120 rfl hl (by decide) rfl (fun ls hl => ?_)
      exact bX6_lowerHeights_121 C post k4 k15 hk4 hk15 1 x3 x4 (by decide) h3 h4 _ _ _ _ hw I (lv_sub hl [1, 2, 0, 3, 4] rfl)
set_option maxRecDepth 100000 in
set_option maxHeartbeats 4000000 in
theorem bX6_lowerHeights_15 {p : Program} {l : Launch} {e : Env} {s : State} {m : MethodId} {args : Array Value} {below : List Frame} {meth : Method} {c : Code} {g : GP} (C : Cx p m c cX6_lowerHeights 6 s args lw_g RX6 meth (some .boolean)) (post : Int → Mem → Prop) (k4 : Int → Int → Mem → Prop) (hk4 : ∀ (x2 x3 : Int), inR x2 → inR x3 → ∀ (M : Mem) (H : Heap) (locs : List Loc) (ls : Array Slot), k4 x2 x3 M → IX g s M H locs → lv_has ls 6 [(0, .ref (g.2.2.2 6)), (1, .ref (g.2.2.2 1)), (2, .int (i32 x2)), (3, .int (i32 x3))] → W p l e rmX6_lowerHeights s m args below meth c H locs 0 0 (QIX below args s g post) (F0 m 4 ls [])) : ∀ (n : Nat), ∀ (x2 x3 x4 : Int), inR x2 → inR x3 → inR x4 → ∀ (M : Mem) (H : Heap) (locs : List Loc) (ls : Array Slot), lpX6_lowerHeights_15 post k4 n x2 x3 x4 M → IX g s M H locs → lv_has ls 6 [(0, .ref (g.2.2.2 6)), (1, .ref (g.2.2.2 1)), (2, .int (i32 x2)), (3, .int (i32 x3)), (4, .int (i32 x4))] → W p l e rmX6_lowerHeights s m args below meth c H locs 0 0 (QIX below args s g post) (F0 m 15 ls []) := by
  obtain ⟨⟨hx, hb, hml, hown, hts⟩, hr, hlk⟩ := id C
  intro n
  induction n with
  | zero =>
    intro x2 x3 x4 h2 h3 h4 M H locs ls hw
    exact hw.elim
  | succ n ih =>
    intro x2 x3 x4 h2 h3 h4 M H locs ls hw I hl
    refine lv_iload hx hb dX6_lowerHeights_15 (lv_at hl 4 rfl) ?_
    refine lv_aload_n hx hb dX6_lowerHeights_17 rfl (lv_at hl 1 rfl) ?_
    refine xg_1_0 hx hb hts wu_X3 hown I wf_X6_35 dX6_lowerHeights_18 ?_
    have h_1 := I.rng 1 0
    refine li_icmp_ge (tgt := 127) hx hb dX6_lowerHeights_21 (by decide) h4 h_1 (fun c_2 => ?_) (fun c_2 => ?_)
    · replace hw := hw.1 c_2
      refine li_iinc (lv' := [(3, .int (i32 (x3 + 1))), (0, .ref (g.2.2.2 6)), (1, .ref (g.2.2.2 1)), (2, .int (i32 x2)), (4, .int (i32 x4))]) hx hb dX6_lowerHeights_127 hl (k := 3) rfl (by decide) rfl (fun ls hl => ?_)
      refine lv_goto (tgt := 4) hx hb dX6_lowerHeights_130 (by decide) ?_
      obtain ⟨h_3, hw⟩ := hw
      exact hk4 x2 (x3 + 1) h2 h_3 _ _ _ _ hw I (lv_sub hl [1, 2, 3, 0] rfl)
    · replace hw := hw.2 c_2
      refine lv_aload_n hx hb dX6_lowerHeights_24 rfl (lv_at hl 1 rfl) ?_
      refine xg_1_7 hx hb hts wu_X3 hown I wf_X6_56 dX6_lowerHeights_25 ?_
      refine lv_iload_n hx hb dX6_lowerHeights_28 rfl (lv_at hl 3 rfl) ?_
      obtain ⟨h_4, hw⟩ := hw
      refine x_aald_11 hx hb I h_4 dX6_lowerHeights_29 ?_
      refine lv_iload hx hb dX6_lowerHeights_30 (lv_at hl 4 rfl) ?_
      obtain ⟨h_5, hw⟩ := hw
      refine x_iald hx hb I (50 + x3) (lenX_50 h_4) h_5 dX6_lowerHeights_32 ?_
      have h_6 := I.rng (50 + x3) x4
      refine li_name (fun v33_6 ev33_6 => ?_)
      replace hw := hw v33_6 ev33_6
      have hv33_6 : inR v33_6 := ev33_6 ▸ h_6
      refine lv_istore (lv' := [(5, .int (i32 v33_6)), (0, .ref (g.2.2.2 6)), (1, .ref (g.2.2.2 1)), (2, .int (i32 x2)), (3, .int (i32 x3)), (4, .int (i32 x4))]) hx hb dX6_lowerHeights_33 hl (by decide) rfl (fun ls hl => ?_)
      refine lv_aload_n hx hb dX6_lowerHeights_35 rfl (lv_at hl 1 rfl) ?_
      refine xg_6_1 hx hb hts wu_X6 hown I wf_X6_16 dX6_lowerHeights_36 ?_
      refine lv_iload_n hx hb dX6_lowerHeights_39 rfl (lv_at hl 4 rfl) ?_
      obtain ⟨h_8, hw⟩ := hw
      refine x_iald hx hb I 23 lenX_23 h_8 dX6_lowerHeights_40 ?_
      have h_9 := I.rng 23 x3
      refine lv_aload_n hx hb dX6_lowerHeights_41 rfl (lv_at hl 1 rfl) ?_
      refine xg_6_1 hx hb hts wu_X6 hown I wf_X6_16 dX6_lowerHeights_42 ?_
      refine lv_iload hx hb dX6_lowerHeights_45 (lv_at hl 5 rfl) ?_
      obtain ⟨h_10, hw⟩ := hw
      refine x_iald hx hb I 23 lenX_23 h_10 dX6_lowerHeights_47 ?_
      have h_11 := I.rng 23 x4
      refine lv_iload hx hb dX6_lowerHeights_48 (lv_at hl 0 rfl) ?_
      refine li_iadd hx hb dX6_lowerHeights_50 ?_
      obtain ⟨h_13, hw⟩ := hw
      refine li_icmp_le (tgt := 72) hx hb dX6_lowerHeights_51 (by decide) h_9 h_13 (fun c_12 => ?_) (fun c_12 => ?_)
      · replace hw := hw.1 c_12
        exact bX6_lowerHeights_72 C post k4 (fun y2 y3 y4 N => lpX6_lowerHeights_15 post k4 n y2 y3 y4 N) hk4 ih x2 x3 x4 v33_6 h2 h3 h4 hv33_6 _ _ _ _ hw I (lv_sub hl [1, 2, 3, 4, 5, 0] rfl)
      · replace hw := hw.2 c_12
        refine lv_aload_n hx hb dX6_lowerHeights_54 rfl (lv_at hl 1 rfl) ?_
        refine xg_6_1 hx hb hts wu_X6 hown I wf_X6_16 dX6_lowerHeights_55 ?_
        refine lv_iload_n hx hb dX6_lowerHeights_58 rfl (lv_at hl 4 rfl) ?_
        refine lv_aload_n hx hb dX6_lowerHeights_59 rfl (lv_at hl 1 rfl) ?_
        refine xg_6_1 hx hb hts wu_X6 hown I wf_X6_16 dX6_lowerHeights_60 ?_
        refine lv_iload hx hb dX6_lowerHeights_63 (lv_at hl 5 rfl) ?_
        obtain ⟨h_14, hw⟩ := hw
        refine x_iald hx hb I 23 lenX_23 h_14 dX6_lowerHeights_65 ?_
        have h_15 := I.rng 23 x4
        refine lv_iload hx hb dX6_lowerHeights_66 (lv_at hl 0 rfl) ?_
        refine li_iadd hx hb dX6_lowerHeights_68 ?_
        obtain ⟨h_16, hw⟩ := hw
        refine x_iast hx hb I 23 lenX_23 h_16 h_13 dX6_lowerHeights_69 (fun H locs M69_16 eM69_16 I => ?_)
        replace hw := hw M69_16 eM69_16
        refine li_iconst hx hb dX6_lowerHeights_70 ?_
        refine lv_istore_n (lv' := [(2, .int (i32 1)), (5, .int (i32 v33_6)), (0, .ref (g.2.2.2 6)), (1, .ref (g.2.2.2 1)), (3, .int (i32 x3)), (4, .int (i32 x4))]) hx hb dX6_lowerHeights_71 rfl hl (by decide) rfl (fun ls hl => ?_)
        exact bX6_lowerHeights_72 C post k4 (fun y2 y3 y4 N => lpX6_lowerHeights_15 post k4 n y2 y3 y4 N) hk4 ih 1 x3 x4 v33_6 (by decide) h3 h4 hv33_6 _ _ _ _ hw I (lv_sub hl [2, 3, 0, 4, 5, 1] rfl)
set_option maxRecDepth 100000 in
set_option maxHeartbeats 4000000 in
theorem bX6_lowerHeights_4 {p : Program} {l : Launch} {e : Env} {s : State} {m : MethodId} {args : Array Value} {below : List Frame} {meth : Method} {c : Code} {g : GP} (C : Cx p m c cX6_lowerHeights 6 s args lw_g RX6 meth (some .boolean)) (post : Int → Mem → Prop) : ∀ (n : Nat), ∀ (x2 x3 : Int), inR x2 → inR x3 → ∀ (M : Mem) (H : Heap) (locs : List Loc) (ls : Array Slot), lpX6_lowerHeights_4 post n x2 x3 M → IX g s M H locs → lv_has ls 6 [(0, .ref (g.2.2.2 6)), (1, .ref (g.2.2.2 1)), (2, .int (i32 x2)), (3, .int (i32 x3))] → W p l e rmX6_lowerHeights s m args below meth c H locs 0 0 (QIX below args s g post) (F0 m 4 ls []) := by
  obtain ⟨⟨hx, hb, hml, hown, hts⟩, hr, hlk⟩ := id C
  intro n
  induction n with
  | zero =>
    intro x2 x3 h2 h3 M H locs ls hw
    exact hw.elim
  | succ n ih =>
    intro x2 x3 h2 h3 M H locs ls hw I hl
    refine lv_iload_n hx hb dX6_lowerHeights_4 rfl (lv_at hl 3 rfl) ?_
    refine lv_aload_n hx hb dX6_lowerHeights_5 rfl (lv_at hl 1 rfl) ?_
    refine xg_1_0 hx hb hts wu_X3 hown I wf_X6_35 dX6_lowerHeights_6 ?_
    have h_1 := I.rng 1 0
    refine li_icmp_ge (tgt := 133) hx hb dX6_lowerHeights_9 (by decide) h3 h_1 (fun c_2 => ?_) (fun c_2 => ?_)
    · replace hw := hw.1 c_2
      refine lv_iload_n hx hb dX6_lowerHeights_133 rfl (lv_at hl 2 rfl) ?_
      obtain ⟨h_3, hw⟩ := hw
      exact g_zret hx hb hr hlk I h_3 hw dX6_lowerHeights_134
    · replace hw := hw.2 c_2
      refine li_iconst hx hb dX6_lowerHeights_12 ?_
      refine lv_istore (lv' := [(4, .int (i32 0)), (0, .ref (g.2.2.2 6)), (1, .ref (g.2.2.2 1)), (2, .int (i32 x2)), (3, .int (i32 x3))]) hx hb dX6_lowerHeights_13 hl (by decide) rfl (fun ls hl => ?_)
      obtain ⟨n1, hw⟩ := hw
      exact bX6_lowerHeights_15 C post (fun y2 y3 N => lpX6_lowerHeights_4 post n y2 y3 N) ih n1 x2 x3 0 h2 h3 (by decide) _ _ _ _ hw I (lv_sub hl [1, 2, 3, 4, 0] rfl)
set_option maxRecDepth 100000 in
set_option maxHeartbeats 4000000 in
theorem mX6_lowerHeights (l : Launch) (g : GP) (M : Mem) (post : Int → Mem → Prop) (sz : Nat) (hw : wpX6_lowerHeights M post) : MIX l yX6_lowerHeights wtX6_lowerHeights rmX6_lowerHeights g [.ref (g.2.2.2 6), .ref (g.2.2.2 1)] M sz post := by
  refine Met.ofW (cc := cX6_lowerHeights) (maxL := 6) (ret := (some .boolean)) (by decide) rfl ?_
  intro p e s m args below meth c s₁ B hml hv
  obtain ⟨rfl, hpre⟩ := hv
  have hsz := hpre.1
  subst hsz
  have C : Cx p m c cX6_lowerHeights 6 s _ lw_g RX6 meth (some .boolean) := ⟨⟨B.exec, B.bytes, hml, findClass_of_methodNamed B.named, fun w h => atoms_spec (ws := wtX6_lowerHeights) B.pre w (List.mem_cons_of_mem _ h)⟩, B.returns, B.notSynchronized⟩
  obtain ⟨⟨hx, hb, hml, hown, hts⟩, hr, hlk⟩ := id C
  have I := InG.start hpre
  have hl := lv_entry ([.ref (g.2.2.2 6), .ref (g.2.2.2 1)]) (n := 6) (Nat.le_of_ble_eq_true rfl)
  rw [lg_entry_eq]
  generalize (lg_sl ([.ref (g.2.2.2 6), .ref (g.2.2.2 1)]) ++ List.replicate (6 - (lg_sl ([.ref (g.2.2.2 6), .ref (g.2.2.2 1)])).length) Slot.unset).toArray = ls at hl ⊢
  have hl : lv_has ls 6 [(0, .ref (g.2.2.2 6)), (1, .ref (g.2.2.2 1))] := hl
  show W p l e rmX6_lowerHeights s m _ below meth c s.heap [] 0 0 (QIX below _ s g post) _
  refine li_iconst hx hb dX6_lowerHeights_0 ?_
  refine lv_istore_n (lv' := [(2, .int (i32 0)), (0, .ref (g.2.2.2 6)), (1, .ref (g.2.2.2 1))]) hx hb dX6_lowerHeights_1 rfl hl (by decide) rfl (fun ls hl => ?_)
  refine li_iconst hx hb dX6_lowerHeights_2 ?_
  refine lv_istore_n (lv' := [(3, .int (i32 0)), (2, .int (i32 0)), (0, .ref (g.2.2.2 6)), (1, .ref (g.2.2.2 1))]) hx hb dX6_lowerHeights_3 rfl hl (by decide) rfl (fun ls hl => ?_)
  obtain ⟨n1, hw⟩ := hw
  exact bX6_lowerHeights_4 C post n1 0 0 (by decide) (by decide) _ _ _ _ hw I (lv_sub hl [2, 3, 1, 0] rfl)
abbrev rmX6_raiseHeights : Room := { frames := 1, cells := 0, slots := 0, locals := 25 }
abbrev wtX6_raiseHeights : List Cond := Cond.code yX6_raiseHeights cX6_raiseHeights 3 none :: lw_g
set_option maxRecDepth 100000 in
set_option maxHeartbeats 4000000 in
theorem bX6_raiseHeights_57 {p : Program} {l : Launch} {e : Env} {s : State} {m : MethodId} {args : Array Value} {below : List Frame} {meth : Method} {c : Code} {g : GP} (C : Cx p m c cX6_raiseHeights 3 s args lw_g RX6 meth none) (post : Mem → Prop) : ∀ (M : Mem) (H : Heap) (locs : List Loc) (ls : Array Slot), jbX6_raiseHeights_57 post  M → IX g s M H locs → lv_has ls 3 [(0, .ref (g.2.2.2 6)), (1, .ref (g.2.2.2 1))] → W p l e rmX6_raiseHeights s m args below meth c H locs 0 0 (QVX below args s g post) (F0 m 57 ls []) := by
  obtain ⟨⟨hx, hb, hml, hown, hts⟩, hr, hlk⟩ := id C
  intro M H locs ls hw I hl
  exact g_vret hx hb hr hlk I hw dX6_raiseHeights_57
set_option maxRecDepth 100000 in
set_option maxHeartbeats 4000000 in
theorem bX6_raiseHeights_32 {p : Program} {l : Launch} {e : Env} {s : State} {m : MethodId} {args : Array Value} {below : List Frame} {meth : Method} {c : Code} {g : GP} (C : Cx p m c cX6_raiseHeights 3 s args lw_g RX6 meth none) (post : Mem → Prop) : ∀ (n : Nat), ∀ (x2 : Int), inR x2 → ∀ (M : Mem) (H : Heap) (locs : List Loc) (ls : Array Slot), lpX6_raiseHeights_32 post n x2 M → IX g s M H locs → lv_has ls 3 [(0, .ref (g.2.2.2 6)), (1, .ref (g.2.2.2 1)), (2, .int (i32 x2))] → W p l e rmX6_raiseHeights s m args below meth c H locs 0 0 (QVX below args s g post) (F0 m 32 ls []) := by
  obtain ⟨⟨hx, hb, hml, hown, hts⟩, hr, hlk⟩ := id C
  intro n
  induction n with
  | zero =>
    intro x2 h2 M H locs ls hw
    exact hw.elim
  | succ n ih =>
    intro x2 h2 M H locs ls hw I hl
    refine lv_iload_n hx hb dX6_raiseHeights_32 rfl (lv_at hl 2 rfl) ?_
    refine lv_aload_n hx hb dX6_raiseHeights_33 rfl (lv_at hl 1 rfl) ?_
    refine xg_1_0 hx hb hts wu_X3 hown I wf_X6_35 dX6_raiseHeights_34 ?_
    have h_1 := I.rng 1 0
    refine li_icmp_ge (tgt := 57) hx hb dX6_raiseHeights_37 (by decide) h2 h_1 (fun c_2 => ?_) (fun c_2 => ?_)
    · replace hw := hw.1 c_2
      exact bX6_raiseHeights_57 C post _ _ _ _ hw I (lv_sub hl [0, 1] rfl)
    · replace hw := hw.2 c_2
      refine lv_aload_n hx hb dX6_raiseHeights_40 rfl (lv_at hl 0 rfl) ?_
      refine lv_aload_n hx hb dX6_raiseHeights_41 rfl (lv_at hl 1 rfl) ?_
      refine g_callVi (o := 6) (As := [.ref (g.2.2.2 1)]) (rest := []) ⟨hx, hb, hml, hown, hts⟩ I (mX6_lowerHeights l g M _ _ hw) (cwV 1 hts (gd_V wm_X6_85 wi_X6_lowerHeights wl_X6_lowerHeights wn_X6 wc_X6_lowerHeights) rfl rfl rfl wd_X6_lowerHeights ⟨Nat.le_of_ble_eq_true rfl, Nat.le_of_ble_eq_true rfl⟩) (by omega) (by omega) obX_6 rfl rfl hl.1 rfl (Nat.le_of_ble_eq_true rfl) dX6_raiseHeights_42 ⟨Nat.zero_le _, Nat.zero_le _⟩ (fun r42_2 M42_2 H locs hr42_2 hw I => ?_)
      refine li_if_ne (tgt := 51) hx hb dX6_raiseHeights_45 (by decide) hr42_2 (fun c_4 => ?_) (fun c_4 => ?_)
      · replace hw := hw.1 c_4
        refine li_iinc (lv' := [(2, .int (i32 (x2 + 1))), (0, .ref (g.2.2.2 6)), (1, .ref (g.2.2.2 1))]) hx hb dX6_raiseHeights_51 hl (k := 2) rfl (by decide) rfl (fun ls hl => ?_)
        refine lv_goto (tgt := 32) hx hb dX6_raiseHeights_54 (by decide) ?_
        obtain ⟨h_5, hw⟩ := hw
        exact ih (x2 + 1) h_5 _ _ _ _ hw I (lv_sub hl [1, 2, 0] rfl)
      · replace hw := hw.2 c_4
        refine lv_goto (tgt := 57) hx hb dX6_raiseHeights_48 (by decide) ?_
        exact bX6_raiseHeights_57 C post _ _ _ _ hw I (lv_sub hl [0, 1] rfl)
set_option maxRecDepth 100000 in
set_option maxHeartbeats 4000000 in
theorem bX6_raiseHeights_2 {p : Program} {l : Launch} {e : Env} {s : State} {m : MethodId} {args : Array Value} {below : List Frame} {meth : Method} {c : Code} {g : GP} (C : Cx p m c cX6_raiseHeights 3 s args lw_g RX6 meth none) (post : Mem → Prop) : ∀ (n : Nat), ∀ (x2 : Int), inR x2 → ∀ (M : Mem) (H : Heap) (locs : List Loc) (ls : Array Slot), lpX6_raiseHeights_2 post n x2 M → IX g s M H locs → lv_has ls 3 [(0, .ref (g.2.2.2 6)), (1, .ref (g.2.2.2 1)), (2, .int (i32 x2))] → W p l e rmX6_raiseHeights s m args below meth c H locs 0 0 (QVX below args s g post) (F0 m 2 ls []) := by
  obtain ⟨⟨hx, hb, hml, hown, hts⟩, hr, hlk⟩ := id C
  intro n
  induction n with
  | zero =>
    intro x2 h2 M H locs ls hw
    exact hw.elim
  | succ n ih =>
    intro x2 h2 M H locs ls hw I hl
    refine lv_iload_n hx hb dX6_raiseHeights_2 rfl (lv_at hl 2 rfl) ?_
    refine lv_aload_n hx hb dX6_raiseHeights_3 rfl (lv_at hl 1 rfl) ?_
    refine xg_1_0 hx hb hts wu_X3 hown I wf_X6_35 dX6_raiseHeights_4 ?_
    have h_1 := I.rng 1 0
    refine li_icmp_ge (tgt := 30) hx hb dX6_raiseHeights_7 (by decide) h2 h_1 (fun c_2 => ?_) (fun c_2 => ?_)
    · replace hw := hw.1 c_2
      refine li_iconst hx hb dX6_raiseHeights_30 ?_
      refine lv_istore_n (lv' := [(2, .int (i32 0)), (0, .ref (g.2.2.2 6)), (1, .ref (g.2.2.2 1))]) hx hb dX6_raiseHeights_31 rfl hl (by decide) rfl (fun ls hl => ?_)
      obtain ⟨n1, hw⟩ := hw
      exact bX6_raiseHeights_32 C post n1 0 (by decide) _ _ _ _ hw I (lv_sub hl [1, 2, 0] rfl)
    · replace hw := hw.2 c_2
      refine lv_aload_n hx hb dX6_raiseHeights_10 rfl (lv_at hl 0 rfl) ?_
      refine xg_6_1 hx hb hts wu_X6 hown I wf_X6_16 dX6_raiseHeights_11 ?_
      refine lv_iload_n hx hb dX6_raiseHeights_14 rfl (lv_at hl 2 rfl) ?_
      refine lv_aload_n hx hb dX6_raiseHeights_15 rfl (lv_at hl 1 rfl) ?_
      refine xg_1_7 hx hb hts wu_X3 hown I wf_X6_56 dX6_raiseHeights_16 ?_
      refine lv_iload_n hx hb dX6_raiseHeights_19 rfl (lv_at hl 2 rfl) ?_
      obtain ⟨h_3, hw⟩ := hw
      refine x_aald_11 hx hb I h_3 dX6_raiseHeights_20 ?_
      refine li_iconst hx hb dX6_raiseHeights_21 ?_
      refine x_iald hx hb I (50 + x2) (lenX_50 h_3) (by decide) dX6_raiseHeights_22 ?_
      have h_4 := I.rng (50 + x2) 0
      obtain ⟨h_5, hw⟩ := hw
      refine x_iast hx hb I 23 lenX_23 h_5 h_4 dX6_raiseHeights_23 (fun H locs M23_5 eM23_5 I => ?_)
      replace hw := hw M23_5 eM23_5
      refine li_iinc (lv' := [(2, .int (i32 (x2 + 1))), (0, .ref (g.2.2.2 6)), (1, .ref (g.2.2.2 1))]) hx hb dX6_raiseHeights_24 hl (k := 2) rfl (by decide) rfl (fun ls hl => ?_)
      refine lv_goto (tgt := 2) hx hb dX6_raiseHeights_27 (by decide) ?_
      obtain ⟨h_7, hw⟩ := hw
      exact ih (x2 + 1) h_7 _ _ _ _ hw I (lv_sub hl [1, 2, 0] rfl)
set_option maxRecDepth 100000 in
set_option maxHeartbeats 4000000 in
theorem mX6_raiseHeights (l : Launch) (g : GP) (M : Mem) (post : Mem → Prop) (sz : Nat) (hw : wpX6_raiseHeights M post) : MVX l yX6_raiseHeights wtX6_raiseHeights rmX6_raiseHeights g [.ref (g.2.2.2 6), .ref (g.2.2.2 1)] M sz post := by
  refine Met.ofW (cc := cX6_raiseHeights) (maxL := 3) (ret := none) (by decide) rfl ?_
  intro p e s m args below meth c s₁ B hml hv
  obtain ⟨rfl, hpre⟩ := hv
  have hsz := hpre.1
  subst hsz
  have C : Cx p m c cX6_raiseHeights 3 s _ lw_g RX6 meth none := ⟨⟨B.exec, B.bytes, hml, findClass_of_methodNamed B.named, fun w h => atoms_spec (ws := wtX6_raiseHeights) B.pre w (List.mem_cons_of_mem _ h)⟩, B.returns, B.notSynchronized⟩
  obtain ⟨⟨hx, hb, hml, hown, hts⟩, hr, hlk⟩ := id C
  have I := InG.start hpre
  have hl := lv_entry ([.ref (g.2.2.2 6), .ref (g.2.2.2 1)]) (n := 3) (Nat.le_of_ble_eq_true rfl)
  rw [lg_entry_eq]
  generalize (lg_sl ([.ref (g.2.2.2 6), .ref (g.2.2.2 1)]) ++ List.replicate (3 - (lg_sl ([.ref (g.2.2.2 6), .ref (g.2.2.2 1)])).length) Slot.unset).toArray = ls at hl ⊢
  have hl : lv_has ls 3 [(0, .ref (g.2.2.2 6)), (1, .ref (g.2.2.2 1))] := hl
  show W p l e rmX6_raiseHeights s m _ below meth c s.heap [] 0 0 (QVX below _ s g post) _
  refine li_iconst hx hb dX6_raiseHeights_0 ?_
  refine lv_istore_n (lv' := [(2, .int (i32 0)), (0, .ref (g.2.2.2 6)), (1, .ref (g.2.2.2 1))]) hx hb dX6_raiseHeights_1 rfl hl (by decide) rfl (fun ls hl => ?_)
  obtain ⟨n1, hw⟩ := hw
  exact bX6_raiseHeights_2 C post n1 0 (by decide) _ _ _ _ hw I (lv_sub hl [1, 2, 0] rfl)
abbrev rmX6_isTight : Room := { frames := 0, cells := 0, slots := 0, locals := 0 }
abbrev wtX6_isTight : List Cond := Cond.code yX6_isTight cX6_isTight 4 (some .boolean) :: lw_g
set_option maxRecDepth 100000 in
set_option maxHeartbeats 4000000 in
theorem bX6_isTight_29 {p : Program} {l : Launch} {e : Env} {s : State} {m : MethodId} {args : Array Value} {below : List Frame} {meth : Method} {c : Code} {g : GP} (C : Cx p m c cX6_isTight 4 s args lw_g RX6 meth (some .boolean)) (post : Int → Mem → Prop) : ∀ (t0 : Int), inR t0 → ∀ (M : Mem) (H : Heap) (locs : List Loc) (ls : Array Slot), jbX6_isTight_29 post t0 M → IX g s M H locs → lv_has ls 4 [(0, .ref (g.2.2.2 6)), (1, .ref (g.2.2.2 1))] → W p l e rmX6_isTight s m args below meth c H locs 0 0 (QIX below args s g post) (F0 m 29 ls [.int (i32 t0)]) := by
  obtain ⟨⟨hx, hb, hml, hown, hts⟩, hr, hlk⟩ := id C
  intro t0 ht0 M H locs ls hw I hl
  obtain ⟨h_1, hw⟩ := hw
  exact g_zret hx hb hr hlk I h_1 hw dX6_isTight_29
set_option maxRecDepth 100000 in
set_option maxHeartbeats 4000000 in
theorem mX6_isTight (l : Launch) (g : GP) (a2 a3 : Int) (ha2 : inR a2) (ha3 : inR a3) (M : Mem) (post : Int → Mem → Prop) (sz : Nat) (hw : wpX6_isTight a2 a3 M post) : MIX l yX6_isTight wtX6_isTight rmX6_isTight g [.ref (g.2.2.2 6), .ref (g.2.2.2 1), .int (i32 a2), .int (i32 a3)] M sz post := by
  refine Met.ofW (cc := cX6_isTight) (maxL := 4) (ret := (some .boolean)) (by decide) rfl ?_
  intro p e s m args below meth c s₁ B hml hv
  obtain ⟨rfl, hpre⟩ := hv
  have hsz := hpre.1
  subst hsz
  have C : Cx p m c cX6_isTight 4 s _ lw_g RX6 meth (some .boolean) := ⟨⟨B.exec, B.bytes, hml, findClass_of_methodNamed B.named, fun w h => atoms_spec (ws := wtX6_isTight) B.pre w (List.mem_cons_of_mem _ h)⟩, B.returns, B.notSynchronized⟩
  obtain ⟨⟨hx, hb, hml, hown, hts⟩, hr, hlk⟩ := id C
  have I := InG.start hpre
  have hl := lv_entry ([.ref (g.2.2.2 6), .ref (g.2.2.2 1), .int (i32 a2), .int (i32 a3)]) (n := 4) (Nat.le_of_ble_eq_true rfl)
  rw [lg_entry_eq]
  generalize (lg_sl ([.ref (g.2.2.2 6), .ref (g.2.2.2 1), .int (i32 a2), .int (i32 a3)]) ++ List.replicate (4 - (lg_sl ([.ref (g.2.2.2 6), .ref (g.2.2.2 1), .int (i32 a2), .int (i32 a3)])).length) Slot.unset).toArray = ls at hl ⊢
  have hl : lv_has ls 4 [(0, .ref (g.2.2.2 6)), (1, .ref (g.2.2.2 1)), (2, .int (i32 a2)), (3, .int (i32 a3))] := hl
  show W p l e rmX6_isTight s m _ below meth c s.heap [] 0 0 (QIX below _ s g post) _
  refine lv_aload_n hx hb dX6_isTight_0 rfl (lv_at hl 0 rfl) ?_
  refine xg_6_1 hx hb hts wu_X6 hown I wf_X6_16 dX6_isTight_1 ?_
  refine lv_iload_n hx hb dX6_isTight_4 rfl (lv_at hl 2 rfl) ?_
  obtain ⟨h_1, hw⟩ := hw
  refine x_iald hx hb I 23 lenX_23 h_1 dX6_isTight_5 ?_
  have h_2 := I.rng 23 a2
  refine lv_aload_n hx hb dX6_isTight_6 rfl (lv_at hl 0 rfl) ?_
  refine xg_6_1 hx hb hts wu_X6 hown I wf_X6_16 dX6_isTight_7 ?_
  refine lv_iload_n hx hb dX6_isTight_10 rfl (lv_at hl 3 rfl) ?_
  obtain ⟨h_3, hw⟩ := hw
  refine x_iald hx hb I 23 lenX_23 h_3 dX6_isTight_11 ?_
  have h_4 := I.rng 23 a3
  refine li_isub hx hb dX6_isTight_12 ?_
  refine lv_aload_n hx hb dX6_isTight_13 rfl (lv_at hl 1 rfl) ?_
  refine xg_1_7 hx hb hts wu_X3 hown I wf_X6_56 dX6_isTight_14 ?_
  refine lv_iload_n hx hb dX6_isTight_17 rfl (lv_at hl 2 rfl) ?_
  obtain ⟨h_5, hw⟩ := hw
  refine x_aald_11 hx hb I h_5 dX6_isTight_18 ?_
  refine lv_iload_n hx hb dX6_isTight_19 rfl (lv_at hl 3 rfl) ?_
  obtain ⟨h_6, hw⟩ := hw
  refine x_iald hx hb I (50 + a2) (lenX_50 h_5) h_6 dX6_isTight_20 ?_
  have h_7 := I.rng (50 + a2) a3
  obtain ⟨h_9, hw⟩ := hw
  refine li_icmp_ne (tgt := 28) hx hb dX6_isTight_21 (by decide) h_9 h_7 (fun c_8 => ?_) (fun c_8 => ?_)
  · replace hw := hw.1 c_8
    refine li_iconst hx hb dX6_isTight_28 ?_
    exact bX6_isTight_29 C post 0 (by decide) _ _ _ _ hw I (lv_sub hl [0, 1] rfl)
  · replace hw := hw.2 c_8
    refine li_iconst hx hb dX6_isTight_24 ?_
    refine lv_goto (tgt := 29) hx hb dX6_isTight_25 (by decide) ?_
    exact bX6_isTight_29 C post 1 (by decide) _ _ _ _ hw I (lv_sub hl [0, 1] rfl)
abbrev rmX6_cell : Room := { frames := 0, cells := 0, slots := 0, locals := 0 }
abbrev wtX6_cell : List Cond := Cond.code yX6_cell cX6_cell 2 (some .int) :: lw_g
set_option maxRecDepth 100000 in
set_option maxHeartbeats 4000000 in
theorem mX6_cell (l : Launch) (g : GP) (a0 a1 : Int) (ha0 : inR a0) (ha1 : inR a1) (M : Mem) (post : Int → Mem → Prop) (sz : Nat) (hw : wpX6_cell a0 a1 M post) : MIX l yX6_cell wtX6_cell rmX6_cell g [.int (i32 a0), .int (i32 a1)] M sz post := by
  refine Met.ofW (cc := cX6_cell) (maxL := 2) (ret := (some .int)) (by decide) rfl ?_
  intro p e s m args below meth c s₁ B hml hv
  obtain ⟨rfl, hpre⟩ := hv
  have hsz := hpre.1
  subst hsz
  have C : Cx p m c cX6_cell 2 s _ lw_g RX6 meth (some .int) := ⟨⟨B.exec, B.bytes, hml, findClass_of_methodNamed B.named, fun w h => atoms_spec (ws := wtX6_cell) B.pre w (List.mem_cons_of_mem _ h)⟩, B.returns, B.notSynchronized⟩
  obtain ⟨⟨hx, hb, hml, hown, hts⟩, hr, hlk⟩ := id C
  have I := InG.start hpre
  have hl := lv_entry ([.int (i32 a0), .int (i32 a1)]) (n := 2) (Nat.le_of_ble_eq_true rfl)
  rw [lg_entry_eq]
  generalize (lg_sl ([.int (i32 a0), .int (i32 a1)]) ++ List.replicate (2 - (lg_sl ([.int (i32 a0), .int (i32 a1)])).length) Slot.unset).toArray = ls at hl ⊢
  have hl : lv_has ls 2 [(0, .int (i32 a0)), (1, .int (i32 a1))] := hl
  show W p l e rmX6_cell s m _ below meth c s.heap [] 0 0 (QIX below _ s g post) _
  refine lv_iload_n hx hb dX6_cell_0 rfl (lv_at hl 0 rfl) ?_
  refine lv_bipush (v := i32 10) hx hb dX6_cell_1 (by decide) ?_
  refine li_imul hx hb dX6_cell_3 ?_
  refine lv_iload_n hx hb dX6_cell_4 rfl (lv_at hl 1 rfl) ?_
  refine li_iadd hx hb dX6_cell_5 ?_
  obtain ⟨h_1, hw⟩ := hw
  exact g_iret hx hb hr hlk I h_1 hw dX6_cell_6
abbrev rmX6_reachColumns : Room := { frames := 1, cells := 0, slots := 0, locals := 23 }
abbrev wtX6_reachColumns : List Cond := Cond.code yX6_reachColumns cX6_reachColumns 7 (some .int) :: lw_g
set_option maxRecDepth 100000 in
set_option maxHeartbeats 4000000 in
theorem bX6_reachColumns_75 {p : Program} {l : Launch} {e : Env} {s : State} {m : MethodId} {args : Array Value} {below : List Frame} {meth : Method} {c : Code} {g : GP} (C : Cx p m c cX6_reachColumns 7 s args lw_g RX6 meth (some .int)) (post : Int → Mem → Prop) (k6 : Int → Int → Int → Int → Mem → Prop) (hk6 : ∀ (x2 x4 x5 x6 : Int), inR x2 → inR x4 → inR x5 → inR x6 → ∀ (M : Mem) (H : Heap) (locs : List Loc) (ls : Array Slot), k6 x2 x4 x5 x6 M → IX g s M H locs → lv_has ls 7 [(0, .ref (g.2.2.2 6)), (1, .ref (g.2.2.2 1)), (2, .int (i32 x2)), (4, .int (i32 x4)), (5, .int (i32 x5)), (6, .int (i32 x6))] → W p l e rmX6_reachColumns s m args below meth c H locs 0 0 (QIX below args s g post) (F0 m 6 ls [])) : ∀ (x2 x4 x5 x6 : Int), inR x2 → inR x4 → inR x5 → inR x6 → ∀ (M : Mem) (H : Heap) (locs : List Loc) (ls : Array Slot), jbX6_reachColumns_75 post k6 x2 x4 x5 x6 M → IX g s M H locs → lv_has ls 7 [(0, .ref (g.2.2.2 6)), (1, .ref (g.2.2.2 1)), (2, .int (i32 x2)), (4, .int (i32 x4)), (5, .int (i32 x5)), (6, .int (i32 x6))] → W p l e rmX6_reachColumns s m args below meth c H locs 0 0 (QIX below args s g post) (F0 m 75 ls []) := by
  obtain ⟨⟨hx, hb, hml, hown, hts⟩, hr, hlk⟩ := id C
  intro x2 x4 x5 x6 h2 h4 h5 h6 M H locs ls hw I hl
  refine li_iinc (lv' := [(6, .int (i32 (x6 + 1))), (0, .ref (g.2.2.2 6)), (1, .ref (g.2.2.2 1)), (2, .int (i32 x2)), (4, .int (i32 x4)), (5, .int (i32 x5))]) hx hb dX6_reachColumns_75 hl (k := 5) rfl (by decide) rfl (fun ls hl => ?_)
  refine lv_goto (tgt := 6) hx hb dX6_reachColumns_78 (by decide) ?_
  obtain ⟨h_1, hw⟩ := hw
  exact hk6 x2 x4 x5 (x6 + 1) h2 h4 h5 h_1 _ _ _ _ hw I (lv_sub hl [1, 2, 3, 4, 5, 0] rfl)
set_option maxRecDepth 100000 in
set_option maxHeartbeats 4000000 in
theorem bX6_reachColumns_6 {p : Program} {l : Launch} {e : Env} {s : State} {m : MethodId} {args : Array Value} {below : List Frame} {meth : Method} {c : Code} {g : GP} (C : Cx p m c cX6_reachColumns 7 s args lw_g RX6 meth (some .int)) (post : Int → Mem → Prop) : ∀ (n : Nat), ∀ (x2 x4 x5 x6 : Int), inR x2 → inR x4 → inR x5 → inR x6 → ∀ (M : Mem) (H : Heap) (locs : List Loc) (ls : Array Slot), lpX6_reachColumns_6 post n x2 x4 x5 x6 M → IX g s M H locs → lv_has ls 7 [(0, .ref (g.2.2.2 6)), (1, .ref (g.2.2.2 1)), (2, .int (i32 x2)), (4, .int (i32 x4)), (5, .int (i32 x5)), (6, .int (i32 x6))] → W p l e rmX6_reachColumns s m args below meth c H locs 0 0 (QIX below args s g post) (F0 m 6 ls []) := by
  obtain ⟨⟨hx, hb, hml, hown, hts⟩, hr, hlk⟩ := id C
  intro n
  induction n with
  | zero =>
    intro x2 x4 x5 x6 h2 h4 h5 h6 M H locs ls hw
    exact hw.elim
  | succ n ih =>
    intro x2 x4 x5 x6 h2 h4 h5 h6 M H locs ls hw I hl
    refine lv_iload hx hb dX6_reachColumns_6 (lv_at hl 5 rfl) ?_
    refine lv_aload_n hx hb dX6_reachColumns_8 rfl (lv_at hl 1 rfl) ?_
    refine xg_1_0 hx hb hts wu_X3 hown I wf_X6_35 dX6_reachColumns_9 ?_
    have h_1 := I.rng 1 0
    refine li_icmp_ge (tgt := 81) hx hb dX6_reachColumns_12 (by decide) h6 h_1 (fun c_2 => ?_) (fun c_2 => ?_)
    · replace hw := hw.1 c_2
      refine lv_iload hx hb dX6_reachColumns_81 (lv_at hl 4 rfl) ?_
      exact g_iret hx hb hr hlk I h5 hw dX6_reachColumns_83
    · replace hw := hw.2 c_2
      refine lv_aload_n hx hb dX6_reachColumns_15 rfl (lv_at hl 0 rfl) ?_
      refine xg_6_3 hx hb hts wu_X6 hown I wf_X6_23 dX6_reachColumns_16 ?_
      refine lv_iload hx hb dX6_reachColumns_19 (lv_at hl 5 rfl) ?_
      obtain ⟨h_3, hw⟩ := hw
      refine x_iald hx hb I 25 lenX_25 h_3 dX6_reachColumns_21 ?_
      have h_4 := I.rng 25 x6
      refine li_iconst hx hb dX6_reachColumns_22 ?_
      refine li_icmp_ne (tgt := 75) hx hb dX6_reachColumns_23 (by decide) h_4 (by decide) (fun c_5 => ?_) (fun c_5 => ?_)
      · replace hw := hw.1 c_5
        exact bX6_reachColumns_75 C post (fun y2 y4 y5 y6 N => lpX6_reachColumns_6 post n y2 y4 y5 y6 N) ih x2 x4 x5 x6 h2 h4 h5 h6 _ _ _ _ hw I (lv_sub hl [0, 1, 2, 3, 4, 5] rfl)
      · replace hw := hw.2 c_5
        refine lv_iload_n hx hb dX6_reachColumns_26 rfl (lv_at hl 2 rfl) ?_
        refine lv_iload hx hb dX6_reachColumns_27 (lv_at hl 5 rfl) ?_
        refine g_callSi (As := [.int (i32 x2), .int (i32 x6)]) (rest := []) ⟨hx, hb, hml, hown, hts⟩ I (mX6_cell l g x2 x6 h2 h6 M _ _ hw) (va_cwS 2 hts (gd_S wm_X6_93 wa_X6_cell wn_X6 wc_X6_cell) rfl rfl rfl wd_X6_cell ⟨Nat.le_of_ble_eq_true rfl, Nat.le_of_ble_eq_true rfl⟩) rfl hl.1 rfl (Nat.le_of_ble_eq_true rfl) dX6_reachColumns_29 ⟨Nat.zero_le _, Nat.zero_le _⟩ (fun r29_5 M29_5 H locs hr29_5 hw I => ?_)
        refine lv_iload hx hb dX6_reachColumns_32 (lv_at hl 3 rfl) ?_
        refine li_icmp_lt (tgt := 75) hx hb dX6_reachColumns_34 (by decide) hr29_5 h4 (fun c_7 => ?_) (fun c_7 => ?_)
        · replace hw := hw.1 c_7
          exact bX6_reachColumns_75 C post (fun y2 y4 y5 y6 N => lpX6_reachColumns_6 post n y2 y4 y5 y6 N) ih x2 x4 x5 x6 h2 h4 h5 h6 _ _ _ _ hw I (lv_sub hl [0, 1, 2, 3, 4, 5] rfl)
        · replace hw := hw.2 c_7
          refine lv_aload_n hx hb dX6_reachColumns_37 rfl (lv_at hl 0 rfl) ?_
          refine lv_aload_n hx hb dX6_reachColumns_38 rfl (lv_at hl 1 rfl) ?_
          refine lv_iload_n hx hb dX6_reachColumns_39 rfl (lv_at hl 2 rfl) ?_
          refine lv_iload hx hb dX6_reachColumns_40 (lv_at hl 5 rfl) ?_
          refine g_callVi (o := 6) (As := [.ref (g.2.2.2 1), .int (i32 x2), .int (i32 x6)]) (rest := []) ⟨hx, hb, hml, hown, hts⟩ I (mX6_isTight l g x2 x6 h2 h6 M29_5 _ _ hw) (cwV 3 hts (gd_V wm_X6_89 wi_X6_isTight wl_X6_isTight wn_X6 wc_X6_isTight) rfl rfl rfl wd_X6_isTight ⟨Nat.le_of_ble_eq_true rfl, Nat.le_of_ble_eq_true rfl⟩) (by omega) (by omega) obX_6 rfl rfl hl.1 rfl (Nat.le_of_ble_eq_true rfl) dX6_reachColumns_42 ⟨Nat.zero_le _, Nat.zero_le _⟩ (fun r42_7 M42_7 H locs hr42_7 hw I => ?_)
          refine li_if_eq (tgt := 75) hx hb dX6_reachColumns_45 (by decide) hr42_7 (fun c_9 => ?_) (fun c_9 => ?_)
          · replace hw := hw.1 c_9
            exact bX6_reachColumns_75 C post (fun y2 y4 y5 y6 N => lpX6_reachColumns_6 post n y2 y4 y5 y6 N) ih x2 x4 x5 x6 h2 h4 h5 h6 _ _ _ _ hw I (lv_sub hl [0, 1, 2, 3, 4, 5] rfl)
          · replace hw := hw.2 c_9
            refine lv_aload_n hx hb dX6_reachColumns_48 rfl (lv_at hl 0 rfl) ?_
            refine xg_6_3 hx hb hts wu_X6 hown I wf_X6_23 dX6_reachColumns_49 ?_
            refine lv_iload hx hb dX6_reachColumns_52 (lv_at hl 5 rfl) ?_
            refine lv_iload_n hx hb dX6_reachColumns_54 rfl (lv_at hl 2 rfl) ?_
            obtain ⟨h_10, hw⟩ := hw
            refine x_iast hx hb I 25 lenX_25 h_10 h2 dX6_reachColumns_55 (fun H locs M55_10 eM55_10 I => ?_)
            replace hw := hw M55_10 eM55_10
            refine lv_iload hx hb dX6_reachColumns_56 (lv_at hl 4 rfl) ?_
            refine lv_bipush (v := i32 10) hx hb dX6_reachColumns_58 (by decide) ?_
            refine li_icmp_ge (tgt := 75) hx hb dX6_reachColumns_60 (by decide) h5 (by decide) (fun c_12 => ?_) (fun c_12 => ?_)
            · replace hw := hw.1 c_12
              exact bX6_reachColumns_75 C post (fun y2 y4 y5 y6 N => lpX6_reachColumns_6 post n y2 y4 y5 y6 N) ih x2 x4 x5 x6 h2 h4 h5 h6 _ _ _ _ hw I (lv_sub hl [0, 1, 2, 3, 4, 5] rfl)
            · replace hw := hw.2 c_12
              refine lv_aload_n hx hb dX6_reachColumns_63 rfl (lv_at hl 0 rfl) ?_
              refine xg_6_4 hx hb hts wu_X6 hown I wf_X6_26 dX6_reachColumns_64 ?_
              refine lv_iload hx hb dX6_reachColumns_67 (lv_at hl 4 rfl) ?_
              refine lv_iload hx hb dX6_reachColumns_69 (lv_at hl 5 rfl) ?_
              obtain ⟨h_13, hw⟩ := hw
              refine x_iast hx hb I 26 lenX_26 h_13 h6 dX6_reachColumns_71 (fun H locs M71_13 eM71_13 I => ?_)
              replace hw := hw M71_13 eM71_13
              refine li_iinc (lv' := [(5, .int (i32 (x5 + 1))), (0, .ref (g.2.2.2 6)), (1, .ref (g.2.2.2 1)), (2, .int (i32 x2)), (4, .int (i32 x4)), (6, .int (i32 x6))]) hx hb dX6_reachColumns_72 hl (k := 4) rfl (by decide) rfl (fun ls hl => ?_)
              obtain ⟨h_15, hw⟩ := hw
              exact bX6_reachColumns_75 C post (fun y2 y4 y5 y6 N => lpX6_reachColumns_6 post n y2 y4 y5 y6 N) ih x2 x4 (x5 + 1) x6 h2 h4 h_15 h6 _ _ _ _ hw I (lv_sub hl [1, 2, 3, 4, 0, 5] rfl)
set_option maxRecDepth 100000 in
set_option maxHeartbeats 4000000 in
theorem mX6_reachColumns (l : Launch) (g : GP) (a2 a3 a4 : Int) (ha2 : inR a2) (ha3 : inR a3) (ha4 : inR a4) (M : Mem) (post : Int → Mem → Prop) (sz : Nat) (hw : wpX6_reachColumns a2 a3 a4 M post) : MIX l yX6_reachColumns wtX6_reachColumns rmX6_reachColumns g [.ref (g.2.2.2 6), .ref (g.2.2.2 1), .int (i32 a2), .int (i32 a3), .int (i32 a4)] M sz post := by
  refine Met.ofW (cc := cX6_reachColumns) (maxL := 7) (ret := (some .int)) (by decide) rfl ?_
  intro p e s m args below meth c s₁ B hml hv
  obtain ⟨rfl, hpre⟩ := hv
  have hsz := hpre.1
  subst hsz
  have C : Cx p m c cX6_reachColumns 7 s _ lw_g RX6 meth (some .int) := ⟨⟨B.exec, B.bytes, hml, findClass_of_methodNamed B.named, fun w h => atoms_spec (ws := wtX6_reachColumns) B.pre w (List.mem_cons_of_mem _ h)⟩, B.returns, B.notSynchronized⟩
  obtain ⟨⟨hx, hb, hml, hown, hts⟩, hr, hlk⟩ := id C
  have I := InG.start hpre
  have hl := lv_entry ([.ref (g.2.2.2 6), .ref (g.2.2.2 1), .int (i32 a2), .int (i32 a3), .int (i32 a4)]) (n := 7) (Nat.le_of_ble_eq_true rfl)
  rw [lg_entry_eq]
  generalize (lg_sl ([.ref (g.2.2.2 6), .ref (g.2.2.2 1), .int (i32 a2), .int (i32 a3), .int (i32 a4)]) ++ List.replicate (7 - (lg_sl ([.ref (g.2.2.2 6), .ref (g.2.2.2 1), .int (i32 a2), .int (i32 a3), .int (i32 a4)])).length) Slot.unset).toArray = ls at hl ⊢
  have hl : lv_has ls 7 [(0, .ref (g.2.2.2 6)), (1, .ref (g.2.2.2 1)), (2, .int (i32 a2)), (3, .int (i32 a3)), (4, .int (i32 a4))] := hl
  show W p l e rmX6_reachColumns s m _ below meth c s.heap [] 0 0 (QIX below _ s g post) _
  refine lv_iload_n hx hb dX6_reachColumns_0 rfl (lv_at hl 3 rfl) ?_
  refine lv_istore (lv' := [(5, .int (i32 a3)), (0, .ref (g.2.2.2 6)), (1, .ref (g.2.2.2 1)), (2, .int (i32 a2)), (3, .int (i32 a3)), (4, .int (i32 a4))]) hx hb dX6_reachColumns_1 hl (by decide) rfl (fun ls hl => ?_)
  refine li_iconst hx hb dX6_reachColumns_3 ?_
  refine lv_istore (lv' := [(6, .int (i32 0)), (5, .int (i32 a3)), (0, .ref (g.2.2.2 6)), (1, .ref (g.2.2.2 1)), (2, .int (i32 a2)), (3, .int (i32 a3)), (4, .int (i32 a4))]) hx hb dX6_reachColumns_4 hl (by decide) rfl (fun ls hl => ?_)
  obtain ⟨n1, hw⟩ := hw
  exact bX6_reachColumns_6 C post n1 a2 a4 a3 0 ha2 ha4 ha3 (by decide) _ _ _ _ hw I (lv_sub hl [2, 3, 4, 6, 1, 0] rfl)
abbrev rmX6_findRing : Room := { frames := 2, cells := 0, slots := 0, locals := 49 }
abbrev wtX6_findRing : List Cond := Cond.code yX6_findRing cX6_findRing 10 (some .boolean) :: lw_g
set_option maxRecDepth 100000 in
set_option maxHeartbeats 4000000 in
theorem bX6_findRing_180 {p : Program} {l : Launch} {e : Env} {s : State} {m : MethodId} {args : Array Value} {below : List Frame} {meth : Method} {c : Code} {g : GP} (C : Cx p m c cX6_findRing 10 s args lw_g RX6 meth (some .boolean)) (post : Int → Mem → Prop) : ∀ (M : Mem) (H : Heap) (locs : List Loc) (ls : Array Slot), jbX6_findRing_180 post  M → IX g s M H locs → lv_has ls 10 [(0, .ref (g.2.2.2 6)), (1, .ref (g.2.2.2 1))] → W p l e rmX6_findRing s m args below meth c H locs 0 0 (QIX below args s g post) (F0 m 180 ls []) := by
  obtain ⟨⟨hx, hb, hml, hown, hts⟩, hr, hlk⟩ := id C
  intro M H locs ls hw I hl
  refine li_iconst hx hb dX6_findRing_180 ?_
  exact g_zret hx hb hr hlk I (Or.inl rfl) hw dX6_findRing_181
set_option maxRecDepth 100000 in
set_option maxHeartbeats 4000000 in
theorem bX6_findRing_156 {p : Program} {l : Launch} {e : Env} {s : State} {m : MethodId} {args : Array Value} {below : List Frame} {meth : Method} {c : Code} {g : GP} (C : Cx p m c cX6_findRing 10 s args lw_g RX6 meth (some .boolean)) (post : Int → Mem → Prop) (k36 : Int → Int → Int → Int → Int → Mem → Prop) (k62 : Int → Int → Int → Int → Int → Int → Int → Mem → Prop) (hk36 : ∀ (x2 x3 x4 x5 x6 : Int), inR x2 → inR x3 → inR x4 → inR x5 → inR x6 → ∀ (M : Mem) (H : Heap) (locs : List Loc) (ls : Array Slot), k36 x2 x3 x4 x5 x6 M → IX g s M H locs → lv_has ls 10 [(0, .ref (g.2.2.2 6)), (1, .ref (g.2.2.2 1)), (2, .int (i32 x2)), (3, .int (i32 x3)), (4, .int (i32 x4)), (5, .int (i32 x5)), (6, .int (i32 x6))] → W p l e rmX6_findRing s m args below meth c H locs 0 0 (QIX below args s g post) (F0 m 36 ls [])) (hk62 : ∀ (x2 x3 x4 x5 x6 x7 x8 : Int), inR x2 → inR x3 → inR x4 → inR x5 → inR x6 → inR x7 → inR x8 → ∀ (M : Mem) (H : Heap) (locs : List Loc) (ls : Array Slot), k62 x2 x3 x4 x5 x6 x7 x8 M → IX g s M H locs → lv_has ls 10 [(0, .ref (g.2.2.2 6)), (1, .ref (g.2.2.2 1)), (2, .int (i32 x2)), (3, .int (i32 x3)), (4, .int (i32 x4)), (5, .int (i32 x5)), (6, .int (i32 x6)), (7, .int (i32 x7)), (8, .int (i32 x8))] → W p l e rmX6_findRing s m args below meth c H locs 0 0 (QIX below args s g post) (F0 m 62 ls [])) : ∀ (x2 x3 x4 x5 x6 x7 x8 : Int), inR x2 → inR x3 → inR x4 → inR x5 → inR x6 → inR x7 → inR x8 → ∀ (M : Mem) (H : Heap) (locs : List Loc) (ls : Array Slot), jbX6_findRing_156 post k36 k62 x2 x3 x4 x5 x6 x7 x8 M → IX g s M H locs → lv_has ls 10 [(0, .ref (g.2.2.2 6)), (1, .ref (g.2.2.2 1)), (2, .int (i32 x2)), (3, .int (i32 x3)), (4, .int (i32 x4)), (5, .int (i32 x5)), (6, .int (i32 x6)), (7, .int (i32 x7)), (8, .int (i32 x8))] → W p l e rmX6_findRing s m args below meth c H locs 0 0 (QIX below args s g post) (F0 m 156 ls []) := by
  obtain ⟨⟨hx, hb, hml, hown, hts⟩, hr, hlk⟩ := id C
  intro x2 x3 x4 x5 x6 x7 x8 h2 h3 h4 h5 h6 h7 h8 M H locs ls hw I hl
  refine li_iinc (lv' := [(8, .int (i32 (x8 + 1))), (0, .ref (g.2.2.2 6)), (1, .ref (g.2.2.2 1)), (2, .int (i32 x2)), (3, .int (i32 x3)), (4, .int (i32 x4)), (5, .int (i32 x5)), (6, .int (i32 x6)), (7, .int (i32 x7))]) hx hb dX6_findRing_156 hl (k := 8) rfl (by decide) rfl (fun ls hl => ?_)
  refine lv_goto (tgt := 62) hx hb dX6_findRing_159 (by decide) ?_
  obtain ⟨h_1, hw⟩ := hw
  exact hk62 x2 x3 x4 x5 x6 x7 (x8 + 1) h2 h3 h4 h5 h6 h7 h_1 _ _ _ _ hw I (lv_sub hl [1, 2, 3, 4, 5, 6, 7, 8, 0] rfl)
set_option maxRecDepth 100000 in
set_option maxHeartbeats 4000000 in
theorem bX6_findRing_103 {p : Program} {l : Launch} {e : Env} {s : State} {m : MethodId} {args : Array Value} {below : List Frame} {meth : Method} {c : Code} {g : GP} (C : Cx p m c cX6_findRing 10 s args lw_g RX6 meth (some .boolean)) (post : Int → Mem → Prop) (k36 : Int → Int → Int → Int → Int → Mem → Prop) (k62 : Int → Int → Int → Int → Int → Int → Int → Mem → Prop) (hk36 : ∀ (x2 x3 x4 x5 x6 : Int), inR x2 → inR x3 → inR x4 → inR x5 → inR x6 → ∀ (M : Mem) (H : Heap) (locs : List Loc) (ls : Array Slot), k36 x2 x3 x4 x5 x6 M → IX g s M H locs → lv_has ls 10 [(0, .ref (g.2.2.2 6)), (1, .ref (g.2.2.2 1)), (2, .int (i32 x2)), (3, .int (i32 x3)), (4, .int (i32 x4)), (5, .int (i32 x5)), (6, .int (i32 x6))] → W p l e rmX6_findRing s m args below meth c H locs 0 0 (QIX below args s g post) (F0 m 36 ls [])) (hk62 : ∀ (x2 x3 x4 x5 x6 x7 x8 : Int), inR x2 → inR x3 → inR x4 → inR x5 → inR x6 → inR x7 → inR x8 → ∀ (M : Mem) (H : Heap) (locs : List Loc) (ls : Array Slot), k62 x2 x3 x4 x5 x6 x7 x8 M → IX g s M H locs → lv_has ls 10 [(0, .ref (g.2.2.2 6)), (1, .ref (g.2.2.2 1)), (2, .int (i32 x2)), (3, .int (i32 x3)), (4, .int (i32 x4)), (5, .int (i32 x5)), (6, .int (i32 x6)), (7, .int (i32 x7)), (8, .int (i32 x8))] → W p l e rmX6_findRing s m args below meth c H locs 0 0 (QIX below args s g post) (F0 m 62 ls [])) : ∀ (x2 x3 x4 x5 x6 x7 x8 t0 : Int), inR x2 → inR x3 → inR x4 → inR x5 → inR x6 → inR x7 → inR x8 → inR t0 → ∀ (M : Mem) (H : Heap) (locs : List Loc) (ls : Array Slot), jbX6_findRing_103 post k36 k62 x2 x3 x4 x5 x6 x7 x8 t0 M → IX g s M H locs → lv_has ls 10 [(0, .ref (g.2.2.2 6)), (1, .ref (g.2.2.2 1)), (2, .int (i32 x2)), (3, .int (i32 x3)), (4, .int (i32 x4)), (5, .int (i32 x5)), (6, .int (i32 x6)), (7, .int (i32 x7)), (8, .int (i32 x8))] → W p l e rmX6_findRing s m args below meth c H locs 0 0 (QIX below args s g post) (F0 m 103 ls [.int (i32 t0)]) := by
  obtain ⟨⟨hx, hb, hml, hown, hts⟩, hr, hlk⟩ := id C
  intro x2 x3 x4 x5 x6 x7 x8 t0 h2 h3 h4 h5 h6 h7 h8 ht0 M H locs ls hw I hl
  refine lv_istore (lv' := [(9, .int (i32 t0)), (0, .ref (g.2.2.2 6)), (1, .ref (g.2.2.2 1)), (2, .int (i32 x2)), (3, .int (i32 x3)), (4, .int (i32 x4)), (5, .int (i32 x5)), (6, .int (i32 x6)), (7, .int (i32 x7)), (8, .int (i32 x8))]) hx hb dX6_findRing_103 hl (by decide) rfl (fun ls hl => ?_)
  refine lv_iload hx hb dX6_findRing_105 (lv_at hl 0 rfl) ?_
  refine li_if_eq (tgt := 156) hx hb dX6_findRing_107 (by decide) ht0 (fun c_1 => ?_) (fun c_1 => ?_)
  · replace hw := hw.1 c_1
    exact bX6_findRing_156 C post k36 k62 hk36 hk62 x2 x3 x4 x5 x6 x7 x8 h2 h3 h4 h5 h6 h7 h8 _ _ _ _ hw I (lv_sub hl [1, 2, 3, 4, 5, 6, 7, 8, 9] rfl)
  · replace hw := hw.2 c_1
    refine lv_aload_n hx hb dX6_findRing_110 rfl (lv_at hl 1 rfl) ?_
    refine xg_6_2 hx hb hts wu_X6 hown I wf_X6_20 dX6_findRing_111 ?_
    refine lv_iload hx hb dX6_findRing_114 (lv_at hl 9 rfl) ?_
    obtain ⟨h_2, hw⟩ := hw
    refine x_iald hx hb I 24 lenX_24 h_2 dX6_findRing_116 ?_
    have h_3 := I.rng 24 x8
    refine li_iconst hx hb dX6_findRing_117 ?_
    refine li_icmp_ne (tgt := 156) hx hb dX6_findRing_118 (by decide) h_3 (by decide) (fun c_4 => ?_) (fun c_4 => ?_)
    · replace hw := hw.1 c_4
      exact bX6_findRing_156 C post k36 k62 hk36 hk62 x2 x3 x4 x5 x6 x7 x8 h2 h3 h4 h5 h6 h7 h8 _ _ _ _ hw I (lv_sub hl [1, 2, 3, 4, 5, 6, 7, 8, 9] rfl)
    · replace hw := hw.2 c_4
      refine lv_aload_n hx hb dX6_findRing_121 rfl (lv_at hl 1 rfl) ?_
      refine xg_6_0 hx hb hts wu_X6 hown I wf_X6_11 dX6_findRing_122 ?_
      refine lv_iload hx hb dX6_findRing_125 (lv_at hl 9 rfl) ?_
      obtain ⟨h_5, hw⟩ := hw
      refine x_aald_14 hx hb I h_5 dX6_findRing_127 ?_
      refine lv_iload hx hb dX6_findRing_128 (lv_at hl 8 rfl) ?_
      obtain ⟨h_6, hw⟩ := hw
      refine x_iald hx hb I (70 + x8) (lenX_70 h_5) h_6 dX6_findRing_130 ?_
      have h_7 := I.rng (70 + x8) x7
      refine li_if_le (tgt := 156) hx hb dX6_findRing_131 (by decide) h_7 (fun c_8 => ?_) (fun c_8 => ?_)
      · replace hw := hw.1 c_8
        exact bX6_findRing_156 C post k36 k62 hk36 hk62 x2 x3 x4 x5 x6 x7 x8 h2 h3 h4 h5 h6 h7 h8 _ _ _ _ hw I (lv_sub hl [1, 2, 3, 4, 5, 6, 7, 8, 9] rfl)
      · replace hw := hw.2 c_8
        refine lv_aload_n hx hb dX6_findRing_134 rfl (lv_at hl 1 rfl) ?_
        refine xg_6_2 hx hb hts wu_X6 hown I wf_X6_20 dX6_findRing_135 ?_
        refine lv_iload hx hb dX6_findRing_138 (lv_at hl 9 rfl) ?_
        refine lv_iload hx hb dX6_findRing_140 (lv_at hl 8 rfl) ?_
        obtain ⟨h_9, hw⟩ := hw
        refine x_iast hx hb I 24 lenX_24 h_9 h7 dX6_findRing_142 (fun H locs M142_9 eM142_9 I => ?_)
        replace hw := hw M142_9 eM142_9
        refine lv_aload_n hx hb dX6_findRing_143 rfl (lv_at hl 1 rfl) ?_
        refine lv_aload_n hx hb dX6_findRing_144 rfl (lv_at hl 2 rfl) ?_
        refine lv_iload hx hb dX6_findRing_145 (lv_at hl 9 rfl) ?_
        refine lv_iload hx hb dX6_findRing_147 (lv_at hl 6 rfl) ?_
        refine lv_iload hx hb dX6_findRing_149 (lv_at hl 5 rfl) ?_
        refine g_callVi (o := 6) (As := [.ref (g.2.2.2 1), .int (i32 x8), .int (i32 x5), .int (i32 x4)]) (rest := []) ⟨hx, hb, hml, hown, hts⟩ I (mX6_reachColumns l g x8 x5 x4 h8 h5 h4 M142_9 _ _ hw) (cwV 4 hts (gd_V wm_X6_104 wi_X6_reachColumns wl_X6_reachColumns wn_X6 wc_X6_reachColumns) rfl rfl rfl wd_X6_reachColumns ⟨Nat.le_of_ble_eq_true rfl, Nat.le_of_ble_eq_true rfl⟩) (by omega) (by omega) obX_6 rfl rfl hl.1 rfl (Nat.le_of_ble_eq_true rfl) dX6_findRing_151 ⟨Nat.zero_le _, Nat.zero_le _⟩ (fun r151_10 M151_10 H locs hr151_10 hw I => ?_)
        refine lv_istore (lv' := [(5, .int (i32 r151_10)), (9, .int (i32 t0)), (0, .ref (g.2.2.2 6)), (1, .ref (g.2.2.2 1)), (2, .int (i32 x2)), (3, .int (i32 x3)), (4, .int (i32 x4)), (6, .int (i32 x6)), (7, .int (i32 x7)), (8, .int (i32 x8))]) hx hb dX6_findRing_154 hl (by decide) rfl (fun ls hl => ?_)
        exact bX6_findRing_156 C post k36 k62 hk36 hk62 x2 x3 x4 r151_10 x6 x7 x8 h2 h3 h4 hr151_10 h6 h7 h8 _ _ _ _ hw I (lv_sub hl [2, 3, 4, 5, 6, 0, 7, 8, 9] rfl)
set_option maxRecDepth 100000 in
set_option maxHeartbeats 4000000 in
theorem bX6_findRing_102 {p : Program} {l : Launch} {e : Env} {s : State} {m : MethodId} {args : Array Value} {below : List Frame} {meth : Method} {c : Code} {g : GP} (C : Cx p m c cX6_findRing 10 s args lw_g RX6 meth (some .boolean)) (post : Int → Mem → Prop) (k36 : Int → Int → Int → Int → Int → Mem → Prop) (k62 : Int → Int → Int → Int → Int → Int → Int → Mem → Prop) (hk36 : ∀ (x2 x3 x4 x5 x6 : Int), inR x2 → inR x3 → inR x4 → inR x5 → inR x6 → ∀ (M : Mem) (H : Heap) (locs : List Loc) (ls : Array Slot), k36 x2 x3 x4 x5 x6 M → IX g s M H locs → lv_has ls 10 [(0, .ref (g.2.2.2 6)), (1, .ref (g.2.2.2 1)), (2, .int (i32 x2)), (3, .int (i32 x3)), (4, .int (i32 x4)), (5, .int (i32 x5)), (6, .int (i32 x6))] → W p l e rmX6_findRing s m args below meth c H locs 0 0 (QIX below args s g post) (F0 m 36 ls [])) (hk62 : ∀ (x2 x3 x4 x5 x6 x7 x8 : Int), inR x2 → inR x3 → inR x4 → inR x5 → inR x6 → inR x7 → inR x8 → ∀ (M : Mem) (H : Heap) (locs : List Loc) (ls : Array Slot), k62 x2 x3 x4 x5 x6 x7 x8 M → IX g s M H locs → lv_has ls 10 [(0, .ref (g.2.2.2 6)), (1, .ref (g.2.2.2 1)), (2, .int (i32 x2)), (3, .int (i32 x3)), (4, .int (i32 x4)), (5, .int (i32 x5)), (6, .int (i32 x6)), (7, .int (i32 x7)), (8, .int (i32 x8))] → W p l e rmX6_findRing s m args below meth c H locs 0 0 (QIX below args s g post) (F0 m 62 ls [])) : ∀ (x2 x3 x4 x5 x6 x7 x8 : Int), inR x2 → inR x3 → inR x4 → inR x5 → inR x6 → inR x7 → inR x8 → ∀ (M : Mem) (H : Heap) (locs : List Loc) (ls : Array Slot), jbX6_findRing_102 post k36 k62 x2 x3 x4 x5 x6 x7 x8 M → IX g s M H locs → lv_has ls 10 [(0, .ref (g.2.2.2 6)), (1, .ref (g.2.2.2 1)), (2, .int (i32 x2)), (3, .int (i32 x3)), (4, .int (i32 x4)), (5, .int (i32 x5)), (6, .int (i32 x6)), (7, .int (i32 x7)), (8, .int (i32 x8))] → W p l e rmX6_findRing s m args below meth c H locs 0 0 (QIX below args s g post) (F0 m 102 ls []) := by
  obtain ⟨⟨hx, hb, hml, hown, hts⟩, hr, hlk⟩ := id C
  intro x2 x3 x4 x5 x6 x7 x8 h2 h3 h4 h5 h6 h7 h8 M H locs ls hw I hl
  refine li_iconst hx hb dX6_findRing_102 ?_
  exact bX6_findRing_103 C post k36 k62 hk36 hk62 x2 x3 x4 x5 x6 x7 x8 0 h2 h3 h4 h5 h6 h7 h8 (by decide) _ _ _ _ hw I (lv_sub hl [0, 1, 2, 3, 4, 5, 6, 7, 8] rfl)
set_option maxRecDepth 100000 in
set_option maxHeartbeats 4000000 in
theorem bX6_findRing_62 {p : Program} {l : Launch} {e : Env} {s : State} {m : MethodId} {args : Array Value} {below : List Frame} {meth : Method} {c : Code} {g : GP} (C : Cx p m c cX6_findRing 10 s args lw_g RX6 meth (some .boolean)) (post : Int → Mem → Prop) (k36 : Int → Int → Int → Int → Int → Mem → Prop) (hk36 : ∀ (x2 x3 x4 x5 x6 : Int), inR x2 → inR x3 → inR x4 → inR x5 → inR x6 → ∀ (M : Mem) (H : Heap) (locs : List Loc) (ls : Array Slot), k36 x2 x3 x4 x5 x6 M → IX g s M H locs → lv_has ls 10 [(0, .ref (g.2.2.2 6)), (1, .ref (g.2.2.2 1)), (2, .int (i32 x2)), (3, .int (i32 x3)), (4, .int (i32 x4)), (5, .int (i32 x5)), (6, .int (i32 x6))] → W p l e rmX6_findRing s m args below meth c H locs 0 0 (QIX below args s g post) (F0 m 36 ls [])) : ∀ (n : Nat), ∀ (x2 x3 x4 x5 x6 x7 x8 : Int), inR x2 → inR x3 → inR x4 → inR x5 → inR x6 → inR x7 → inR x8 → ∀ (M : Mem) (H : Heap) (locs : List Loc) (ls : Array Slot), lpX6_findRing_62 post k36 n x2 x3 x4 x5 x6 x7 x8 M → IX g s M H locs → lv_has ls 10 [(0, .ref (g.2.2.2 6)), (1, .ref (g.2.2.2 1)), (2, .int (i32 x2)), (3, .int (i32 x3)), (4, .int (i32 x4)), (5, .int (i32 x5)), (6, .int (i32 x6)), (7, .int (i32 x7)), (8, .int (i32 x8))] → W p l e rmX6_findRing s m args below meth c H locs 0 0 (QIX below args s g post) (F0 m 62 ls []) := by
  obtain ⟨⟨hx, hb, hml, hown, hts⟩, hr, hlk⟩ := id C
  intro n
  induction n with
  | zero =>
    intro x2 x3 x4 x5 x6 x7 x8 h2 h3 h4 h5 h6 h7 h8 M H locs ls hw
    exact hw.elim
  | succ n ih =>
    intro x2 x3 x4 x5 x6 x7 x8 h2 h3 h4 h5 h6 h7 h8 M H locs ls hw I hl
    refine lv_iload hx hb dX6_findRing_62 (lv_at hl 8 rfl) ?_
    refine lv_aload_n hx hb dX6_findRing_64 rfl (lv_at hl 1 rfl) ?_
    refine xg_1_0 hx hb hts wu_X3 hown I wf_X6_35 dX6_findRing_65 ?_
    have h_1 := I.rng 1 0
    refine li_icmp_ge (tgt := 162) hx hb dX6_findRing_68 (by decide) h8 h_1 (fun c_2 => ?_) (fun c_2 => ?_)
    · replace hw := hw.1 c_2
      refine lv_aload_n hx hb dX6_findRing_162 rfl (lv_at hl 0 rfl) ?_
      refine xg_6_2 hx hb hts wu_X6 hown I wf_X6_20 dX6_findRing_163 ?_
      refine lv_iload_n hx hb dX6_findRing_166 rfl (lv_at hl 2 rfl) ?_
      obtain ⟨h_3, hw⟩ := hw
      refine x_iald hx hb I 24 lenX_24 h_3 dX6_findRing_167 ?_
      have h_4 := I.rng 24 x2
      refine li_iconst hx hb dX6_findRing_168 ?_
      refine li_icmp_eq (tgt := 174) hx hb dX6_findRing_169 (by decide) h_4 (by decide) (fun c_5 => ?_) (fun c_5 => ?_)
      · replace hw := hw.1 c_5
        refine li_iinc (lv' := [(6, .int (i32 (x6 + 1))), (0, .ref (g.2.2.2 6)), (1, .ref (g.2.2.2 1)), (2, .int (i32 x2)), (3, .int (i32 x3)), (4, .int (i32 x4)), (5, .int (i32 x5)), (7, .int (i32 x7)), (8, .int (i32 x8))]) hx hb dX6_findRing_174 hl (k := 6) rfl (by decide) rfl (fun ls hl => ?_)
        refine lv_goto (tgt := 36) hx hb dX6_findRing_177 (by decide) ?_
        obtain ⟨h_6, hw⟩ := hw
        exact hk36 x2 x3 x4 x5 (x6 + 1) h2 h3 h4 h5 h_6 _ _ _ _ hw I (lv_sub hl [1, 2, 3, 4, 5, 6, 0] rfl)
      · replace hw := hw.2 c_5
        refine li_iconst hx hb dX6_findRing_172 ?_
        exact g_zret hx hb hr hlk I (Or.inr rfl) hw dX6_findRing_173
    · replace hw := hw.2 c_2
      refine lv_iload hx hb dX6_findRing_71 (lv_at hl 8 rfl) ?_
      refine lv_iload hx hb dX6_findRing_73 (lv_at hl 7 rfl) ?_
      refine g_callSi (As := [.int (i32 x8), .int (i32 x7)]) (rest := []) ⟨hx, hb, hml, hown, hts⟩ I (mX6_cell l g x8 x7 h8 h7 M _ _ hw) (va_cwS 2 hts (gd_S wm_X6_93 wa_X6_cell wn_X6 wc_X6_cell) rfl rfl rfl wd_X6_cell ⟨Nat.le_of_ble_eq_true rfl, Nat.le_of_ble_eq_true rfl⟩) rfl hl.1 rfl (Nat.le_of_ble_eq_true rfl) dX6_findRing_75 ⟨Nat.zero_le _, Nat.zero_le _⟩ (fun r75_6 M75_6 H locs hr75_6 hw I => ?_)
      refine lv_iload hx hb dX6_findRing_78 (lv_at hl 4 rfl) ?_
      refine li_icmp_lt (tgt := 102) hx hb dX6_findRing_80 (by decide) hr75_6 h4 (fun c_8 => ?_) (fun c_8 => ?_)
      · replace hw := hw.1 c_8
        exact bX6_findRing_102 C post k36 (fun y2 y3 y4 y5 y6 y7 y8 N => lpX6_findRing_62 post k36 n y2 y3 y4 y5 y6 y7 y8 N) hk36 ih x2 x3 x4 x5 x6 x7 x8 h2 h3 h4 h5 h6 h7 h8 _ _ _ _ hw I (lv_sub hl [0, 1, 2, 3, 4, 5, 6, 7, 8] rfl)
      · replace hw := hw.2 c_8
        refine lv_iload hx hb dX6_findRing_83 (lv_at hl 8 rfl) ?_
        refine lv_iload hx hb dX6_findRing_85 (lv_at hl 7 rfl) ?_
        refine g_callSi (As := [.int (i32 x8), .int (i32 x7)]) (rest := []) ⟨hx, hb, hml, hown, hts⟩ I (mX6_cell l g x8 x7 h8 h7 M75_6 _ _ hw) (va_cwS 2 hts (gd_S wm_X6_93 wa_X6_cell wn_X6 wc_X6_cell) rfl rfl rfl wd_X6_cell ⟨Nat.le_of_ble_eq_true rfl, Nat.le_of_ble_eq_true rfl⟩) rfl hl.1 rfl (Nat.le_of_ble_eq_true rfl) dX6_findRing_87 ⟨Nat.zero_le _, Nat.zero_le _⟩ (fun r87_8 M87_8 H locs hr87_8 hw I => ?_)
        refine lv_iload_n hx hb dX6_findRing_90 rfl (lv_at hl 2 rfl) ?_
        refine lv_iload_n hx hb dX6_findRing_91 rfl (lv_at hl 3 rfl) ?_
        refine g_callSi (As := [.int (i32 x2), .int (i32 x3)]) (rest := [.int (i32 r87_8)]) ⟨hx, hb, hml, hown, hts⟩ I (mX6_cell l g x2 x3 h2 h3 M87_8 _ _ hw) (va_cwS 2 hts (gd_S wm_X6_93 wa_X6_cell wn_X6 wc_X6_cell) rfl rfl rfl wd_X6_cell ⟨Nat.le_of_ble_eq_true rfl, Nat.le_of_ble_eq_true rfl⟩) rfl hl.1 rfl (Nat.le_of_ble_eq_true rfl) dX6_findRing_92 ⟨Nat.zero_le _, Nat.zero_le _⟩ (fun r92_9 M92_9 H locs hr92_9 hw I => ?_)
        refine li_icmp_eq (tgt := 102) hx hb dX6_findRing_95 (by decide) hr87_8 hr92_9 (fun c_11 => ?_) (fun c_11 => ?_)
        · replace hw := hw.1 c_11
          exact bX6_findRing_102 C post k36 (fun y2 y3 y4 y5 y6 y7 y8 N => lpX6_findRing_62 post k36 n y2 y3 y4 y5 y6 y7 y8 N) hk36 ih x2 x3 x4 x5 x6 x7 x8 h2 h3 h4 h5 h6 h7 h8 _ _ _ _ hw I (lv_sub hl [0, 1, 2, 3, 4, 5, 6, 7, 8] rfl)
        · replace hw := hw.2 c_11
          refine li_iconst hx hb dX6_findRing_98 ?_
          refine lv_goto (tgt := 103) hx hb dX6_findRing_99 (by decide) ?_
          exact bX6_findRing_103 C post k36 (fun y2 y3 y4 y5 y6 y7 y8 N => lpX6_findRing_62 post k36 n y2 y3 y4 y5 y6 y7 y8 N) hk36 ih x2 x3 x4 x5 x6 x7 x8 1 h2 h3 h4 h5 h6 h7 h8 (by decide) _ _ _ _ hw I (lv_sub hl [0, 1, 2, 3, 4, 5, 6, 7, 8] rfl)
set_option maxRecDepth 100000 in
set_option maxHeartbeats 4000000 in
theorem bX6_findRing_36 {p : Program} {l : Launch} {e : Env} {s : State} {m : MethodId} {args : Array Value} {below : List Frame} {meth : Method} {c : Code} {g : GP} (C : Cx p m c cX6_findRing 10 s args lw_g RX6 meth (some .boolean)) (post : Int → Mem → Prop) : ∀ (n : Nat), ∀ (x2 x3 x4 x5 x6 : Int), inR x2 → inR x3 → inR x4 → inR x5 → inR x6 → ∀ (M : Mem) (H : Heap) (locs : List Loc) (ls : Array Slot), lpX6_findRing_36 post n x2 x3 x4 x5 x6 M → IX g s M H locs → lv_has ls 10 [(0, .ref (g.2.2.2 6)), (1, .ref (g.2.2.2 1)), (2, .int (i32 x2)), (3, .int (i32 x3)), (4, .int (i32 x4)), (5, .int (i32 x5)), (6, .int (i32 x6))] → W p l e rmX6_findRing s m args below meth c H locs 0 0 (QIX below args s g post) (F0 m 36 ls []) := by
  obtain ⟨⟨hx, hb, hml, hown, hts⟩, hr, hlk⟩ := id C
  intro n
  induction n with
  | zero =>
    intro x2 x3 x4 x5 x6 h2 h3 h4 h5 h6 M H locs ls hw
    exact hw.elim
  | succ n ih =>
    intro x2 x3 x4 x5 x6 h2 h3 h4 h5 h6 M H locs ls hw I hl
    refine lv_iload hx hb dX6_findRing_36 (lv_at hl 6 rfl) ?_
    refine lv_iload hx hb dX6_findRing_38 (lv_at hl 5 rfl) ?_
    refine li_icmp_ge (tgt := 180) hx hb dX6_findRing_40 (by decide) h6 h5 (fun c_1 => ?_) (fun c_1 => ?_)
    · replace hw := hw.1 c_1
      exact bX6_findRing_180 C post _ _ _ _ hw I (lv_sub hl [0, 1] rfl)
    · replace hw := hw.2 c_1
      refine lv_iload hx hb dX6_findRing_43 (lv_at hl 6 rfl) ?_
      refine lv_bipush (v := i32 10) hx hb dX6_findRing_45 (by decide) ?_
      refine li_icmp_ge (tgt := 180) hx hb dX6_findRing_47 (by decide) h6 (by decide) (fun c_2 => ?_) (fun c_2 => ?_)
      · replace hw := hw.1 c_2
        exact bX6_findRing_180 C post _ _ _ _ hw I (lv_sub hl [0, 1] rfl)
      · replace hw := hw.2 c_2
        refine lv_aload_n hx hb dX6_findRing_50 rfl (lv_at hl 0 rfl) ?_
        refine xg_6_4 hx hb hts wu_X6 hown I wf_X6_26 dX6_findRing_51 ?_
        refine lv_iload hx hb dX6_findRing_54 (lv_at hl 6 rfl) ?_
        obtain ⟨h_3, hw⟩ := hw
        refine x_iald hx hb I 26 lenX_26 h_3 dX6_findRing_56 ?_
        have h_4 := I.rng 26 x6
        refine li_name (fun v57_4 ev57_4 => ?_)
        replace hw := hw v57_4 ev57_4
        have hv57_4 : inR v57_4 := ev57_4 ▸ h_4
        refine lv_istore (lv' := [(7, .int (i32 v57_4)), (0, .ref (g.2.2.2 6)), (1, .ref (g.2.2.2 1)), (2, .int (i32 x2)), (3, .int (i32 x3)), (4, .int (i32 x4)), (5, .int (i32 x5)), (6, .int (i32 x6))]) hx hb dX6_findRing_57 hl (by decide) rfl (fun ls hl => ?_)
        refine li_iconst hx hb dX6_findRing_59 ?_
        refine lv_istore (lv' := [(8, .int (i32 0)), (7, .int (i32 v57_4)), (0, .ref (g.2.2.2 6)), (1, .ref (g.2.2.2 1)), (2, .int (i32 x2)), (3, .int (i32 x3)), (4, .int (i32 x4)), (5, .int (i32 x5)), (6, .int (i32 x6))]) hx hb dX6_findRing_60 hl (by decide) rfl (fun ls hl => ?_)
        obtain ⟨n1, hw⟩ := hw
        exact bX6_findRing_62 C post (fun y2 y3 y4 y5 y6 N => lpX6_findRing_36 post n y2 y3 y4 y5 y6 N) ih n1 x2 x3 x4 x5 x6 v57_4 0 h2 h3 h4 h5 h6 hv57_4 (by decide) _ _ _ _ hw I (lv_sub hl [2, 3, 4, 5, 6, 7, 8, 1, 0] rfl)
set_option maxRecDepth 100000 in
set_option maxHeartbeats 4000000 in
theorem mX6_findRing (l : Launch) (g : GP) (a2 a3 a4 : Int) (ha2 : inR a2) (ha3 : inR a3) (ha4 : inR a4) (M : Mem) (post : Int → Mem → Prop) (sz : Nat) (hw : wpX6_findRing a2 a3 a4 M post) : MIX l yX6_findRing wtX6_findRing rmX6_findRing g [.ref (g.2.2.2 6), .ref (g.2.2.2 1), .int (i32 a2), .int (i32 a3), .int (i32 a4)] M sz post := by
  refine Met.ofW (cc := cX6_findRing) (maxL := 10) (ret := (some .boolean)) (by decide) rfl ?_
  intro p e s m args below meth c s₁ B hml hv
  obtain ⟨rfl, hpre⟩ := hv
  have hsz := hpre.1
  subst hsz
  have C : Cx p m c cX6_findRing 10 s _ lw_g RX6 meth (some .boolean) := ⟨⟨B.exec, B.bytes, hml, findClass_of_methodNamed B.named, fun w h => atoms_spec (ws := wtX6_findRing) B.pre w (List.mem_cons_of_mem _ h)⟩, B.returns, B.notSynchronized⟩
  obtain ⟨⟨hx, hb, hml, hown, hts⟩, hr, hlk⟩ := id C
  have I := InG.start hpre
  have hl := lv_entry ([.ref (g.2.2.2 6), .ref (g.2.2.2 1), .int (i32 a2), .int (i32 a3), .int (i32 a4)]) (n := 10) (Nat.le_of_ble_eq_true rfl)
  rw [lg_entry_eq]
  generalize (lg_sl ([.ref (g.2.2.2 6), .ref (g.2.2.2 1), .int (i32 a2), .int (i32 a3), .int (i32 a4)]) ++ List.replicate (10 - (lg_sl ([.ref (g.2.2.2 6), .ref (g.2.2.2 1), .int (i32 a2), .int (i32 a3), .int (i32 a4)])).length) Slot.unset).toArray = ls at hl ⊢
  have hl : lv_has ls 10 [(0, .ref (g.2.2.2 6)), (1, .ref (g.2.2.2 1)), (2, .int (i32 a2)), (3, .int (i32 a3)), (4, .int (i32 a4))] := hl
  show W p l e rmX6_findRing s m _ below meth c s.heap [] 0 0 (QIX below _ s g post) _
  refine lv_aload_n hx hb dX6_findRing_0 rfl (lv_at hl 0 rfl) ?_
  refine xg_6_2 hx hb hts wu_X6 hown I wf_X6_20 dX6_findRing_1 ?_
  refine li_iconst hx hb dX6_findRing_4 ?_
  refine g_callSv (As := [.ref (g.2.2.2 24), .int (i32 (-1))]) (rest := []) ⟨hx, hb, hml, hown, hts⟩ I (mJ7_fill_53178 l g 24 (-1) (by decide) M _ _ hw) (va_cwS 2 hts (gd_S wm_X6_59 wa_J7_fill_53178 wn_J7 wc_J7_fill_53178) rfl rfl rfl wd_J7_fill_53178 ⟨Nat.le_of_ble_eq_true rfl, Nat.le_of_ble_eq_true rfl⟩) rfl hl.1 rfl (Nat.le_of_ble_eq_true rfl) dX6_findRing_5 ⟨Nat.zero_le _, Nat.zero_le _⟩ (fun M5_0 H locs hw I => ?_)
  refine lv_aload_n hx hb dX6_findRing_8 rfl (lv_at hl 0 rfl) ?_
  refine xg_6_3 hx hb hts wu_X6 hown I wf_X6_23 dX6_findRing_9 ?_
  refine li_iconst hx hb dX6_findRing_12 ?_
  refine g_callSv (As := [.ref (g.2.2.2 25), .int (i32 (-1))]) (rest := []) ⟨hx, hb, hml, hown, hts⟩ I (mJ7_fill_53178 l g 25 (-1) (by decide) M5_0 _ _ hw) (va_cwS 2 hts (gd_S wm_X6_59 wa_J7_fill_53178 wn_J7 wc_J7_fill_53178) rfl rfl rfl wd_J7_fill_53178 ⟨Nat.le_of_ble_eq_true rfl, Nat.le_of_ble_eq_true rfl⟩) rfl hl.1 rfl (Nat.le_of_ble_eq_true rfl) dX6_findRing_13 ⟨Nat.zero_le _, Nat.zero_le _⟩ (fun M13_1 H locs hw I => ?_)
  refine lv_aload_n hx hb dX6_findRing_16 rfl (lv_at hl 0 rfl) ?_
  refine xg_6_3 hx hb hts wu_X6 hown I wf_X6_23 dX6_findRing_17 ?_
  refine lv_iload_n hx hb dX6_findRing_20 rfl (lv_at hl 3 rfl) ?_
  refine lv_iload_n hx hb dX6_findRing_21 rfl (lv_at hl 2 rfl) ?_
  obtain ⟨h_3, hw⟩ := hw
  refine x_iast hx hb I 25 lenX_25 h_3 ha2 dX6_findRing_22 (fun H locs M22_3 eM22_3 I => ?_)
  replace hw := hw M22_3 eM22_3
  refine lv_aload_n hx hb dX6_findRing_23 rfl (lv_at hl 0 rfl) ?_
  refine xg_6_4 hx hb hts wu_X6 hown I wf_X6_26 dX6_findRing_24 ?_
  refine li_iconst hx hb dX6_findRing_27 ?_
  refine lv_iload_n hx hb dX6_findRing_28 rfl (lv_at hl 3 rfl) ?_
  refine x_iast hx hb I 26 lenX_26 (by decide) ha3 dX6_findRing_29 (fun H locs M29_4 eM29_4 I => ?_)
  replace hw := hw M29_4 eM29_4
  refine li_iconst hx hb dX6_findRing_30 ?_
  refine lv_istore (lv' := [(5, .int (i32 1)), (0, .ref (g.2.2.2 6)), (1, .ref (g.2.2.2 1)), (2, .int (i32 a2)), (3, .int (i32 a3)), (4, .int (i32 a4))]) hx hb dX6_findRing_31 hl (by decide) rfl (fun ls hl => ?_)
  refine li_iconst hx hb dX6_findRing_33 ?_
  refine lv_istore (lv' := [(6, .int (i32 0)), (5, .int (i32 1)), (0, .ref (g.2.2.2 6)), (1, .ref (g.2.2.2 1)), (2, .int (i32 a2)), (3, .int (i32 a3)), (4, .int (i32 a4))]) hx hb dX6_findRing_34 hl (by decide) rfl (fun ls hl => ?_)
  obtain ⟨n1, hw⟩ := hw
  exact bX6_findRing_36 C post n1 a2 a3 a4 1 0 ha2 ha3 ha4 (by decide) (by decide) _ _ _ _ hw I (lv_sub hl [2, 3, 4, 5, 6, 1, 0] rfl)
abbrev rmX6_ringAmount : Room := { frames := 1, cells := 0, slots := 0, locals := 21 }
abbrev wtX6_ringAmount : List Cond := Cond.code yX6_ringAmount cX6_ringAmount 7 (some .int) :: lw_g
set_option maxRecDepth 100000 in
set_option maxHeartbeats 4000000 in
theorem bX6_ringAmount_80 {p : Program} {l : Launch} {e : Env} {s : State} {m : MethodId} {args : Array Value} {below : List Frame} {meth : Method} {c : Code} {g : GP} (C : Cx p m c cX6_ringAmount 7 s args lw_g RX6 meth (some .int)) (post : Int → Mem → Prop) : ∀ (x3 : Int), inR x3 → ∀ (M : Mem) (H : Heap) (locs : List Loc) (ls : Array Slot), jbX6_ringAmount_80 post x3 M → IX g s M H locs → lv_has ls 7 [(0, .ref (g.2.2.2 6)), (3, .int (i32 x3))] → W p l e rmX6_ringAmount s m args below meth c H locs 0 0 (QIX below args s g post) (F0 m 80 ls []) := by
  obtain ⟨⟨hx, hb, hml, hown, hts⟩, hr, hlk⟩ := id C
  intro x3 h3 M H locs ls hw I hl
  refine lv_iload_n hx hb dX6_ringAmount_80 rfl (lv_at hl 1 rfl) ?_
  exact g_iret hx hb hr hlk I h3 hw dX6_ringAmount_81
set_option maxRecDepth 100000 in
set_option maxHeartbeats 4000000 in
theorem bX6_ringAmount_72 {p : Program} {l : Launch} {e : Env} {s : State} {m : MethodId} {args : Array Value} {below : List Frame} {meth : Method} {c : Code} {g : GP} (C : Cx p m c cX6_ringAmount 7 s args lw_g RX6 meth (some .int)) (post : Int → Mem → Prop) (k18 : Int → Int → Int → Int → Int → Mem → Prop) (hk18 : ∀ (x2 x3 x4 x5 x6 : Int), inR x2 → inR x3 → inR x4 → inR x5 → inR x6 → ∀ (M : Mem) (H : Heap) (locs : List Loc) (ls : Array Slot), k18 x2 x3 x4 x5 x6 M → IX g s M H locs → lv_has ls 7 [(0, .ref (g.2.2.2 6)), (2, .int (i32 x2)), (3, .int (i32 x3)), (4, .int (i32 x4)), (5, .int (i32 x5)), (6, .int (i32 x6))] → W p l e rmX6_ringAmount s m args below meth c H locs 0 0 (QIX below args s g post) (F0 m 18 ls [])) : ∀ (x2 x3 x4 x6 t0 : Int), inR x2 → inR x3 → inR x4 → inR x6 → inR t0 → ∀ (M : Mem) (H : Heap) (locs : List Loc) (ls : Array Slot), jbX6_ringAmount_72 post k18 x2 x3 x4 x6 t0 M → IX g s M H locs → lv_has ls 7 [(0, .ref (g.2.2.2 6)), (2, .int (i32 x2)), (3, .int (i32 x3)), (4, .int (i32 x4)), (6, .int (i32 x6))] → W p l e rmX6_ringAmount s m args below meth c H locs 0 0 (QIX below args s g post) (F0 m 72 ls [.int (i32 t0)]) := by
  obtain ⟨⟨hx, hb, hml, hown, hts⟩, hr, hlk⟩ := id C
  intro x2 x3 x4 x6 t0 h2 h3 h4 h6 ht0 M H locs ls hw I hl
  refine lv_istore (lv' := [(5, .int (i32 t0)), (0, .ref (g.2.2.2 6)), (2, .int (i32 x2)), (3, .int (i32 x3)), (4, .int (i32 x4)), (6, .int (i32 x6))]) hx hb dX6_ringAmount_72 hl (by decide) rfl (fun ls hl => ?_)
  refine li_iinc (lv' := [(6, .int (i32 (x6 + 1))), (5, .int (i32 t0)), (0, .ref (g.2.2.2 6)), (2, .int (i32 x2)), (3, .int (i32 x3)), (4, .int (i32 x4))]) hx hb dX6_ringAmount_74 hl (k := 5) rfl (by decide) rfl (fun ls hl => ?_)
  refine lv_goto (tgt := 18) hx hb dX6_ringAmount_77 (by decide) ?_
  obtain ⟨h_1, hw⟩ := hw
  exact hk18 x2 x3 x4 t0 (x6 + 1) h2 h3 h4 ht0 h_1 _ _ _ _ hw I (lv_sub hl [2, 3, 4, 5, 1, 0] rfl)
set_option maxRecDepth 100000 in
set_option maxHeartbeats 4000000 in
theorem bX6_ringAmount_18 {p : Program} {l : Launch} {e : Env} {s : State} {m : MethodId} {args : Array Value} {below : List Frame} {meth : Method} {c : Code} {g : GP} (C : Cx p m c cX6_ringAmount 7 s args lw_g RX6 meth (some .int)) (post : Int → Mem → Prop) : ∀ (n : Nat), ∀ (x2 x3 x4 x5 x6 : Int), inR x2 → inR x3 → inR x4 → inR x5 → inR x6 → ∀ (M : Mem) (H : Heap) (locs : List Loc) (ls : Array Slot), lpX6_ringAmount_18 post n x2 x3 x4 x5 x6 M → IX g s M H locs → lv_has ls 7 [(0, .ref (g.2.2.2 6)), (2, .int (i32 x2)), (3, .int (i32 x3)), (4, .int (i32 x4)), (5, .int (i32 x5)), (6, .int (i32 x6))] → W p l e rmX6_ringAmount s m args below meth c H locs 0 0 (QIX below args s g post) (F0 m 18 ls []) := by
  obtain ⟨⟨hx, hb, hml, hown, hts⟩, hr, hlk⟩ := id C
  intro n
  induction n with
  | zero =>
    intro x2 x3 x4 x5 x6 h2 h3 h4 h5 h6 M H locs ls hw
    exact hw.elim
  | succ n ih =>
    intro x2 x3 x4 x5 x6 h2 h3 h4 h5 h6 M H locs ls hw I hl
    refine lv_iload hx hb dX6_ringAmount_18 (lv_at hl 5 rfl) ?_
    refine lv_bipush (v := i32 10) hx hb dX6_ringAmount_20 (by decide) ?_
    refine li_icmp_ge (tgt := 80) hx hb dX6_ringAmount_22 (by decide) h6 (by decide) (fun c_1 => ?_) (fun c_1 => ?_)
    · replace hw := hw.1 c_1
      exact bX6_ringAmount_80 C post x3 h3 _ _ _ _ hw I (lv_sub hl [0, 2] rfl)
    · replace hw := hw.2 c_1
      refine lv_iload hx hb dX6_ringAmount_25 (lv_at hl 4 rfl) ?_
      refine li_iconst hx hb dX6_ringAmount_27 ?_
      refine li_icmp_eq (tgt := 80) hx hb dX6_ringAmount_28 (by decide) h5 (by decide) (fun c_2 => ?_) (fun c_2 => ?_)
      · replace hw := hw.1 c_2
        exact bX6_ringAmount_80 C post x3 h3 _ _ _ _ hw I (lv_sub hl [0, 2] rfl)
      · replace hw := hw.2 c_2
        refine lv_iload_n hx hb dX6_ringAmount_31 rfl (lv_at hl 2 rfl) ?_
        refine lv_aload_n hx hb dX6_ringAmount_32 rfl (lv_at hl 0 rfl) ?_
        refine xg_6_0 hx hb hts wu_X6 hown I wf_X6_11 dX6_ringAmount_33 ?_
        refine lv_iload hx hb dX6_ringAmount_36 (lv_at hl 3 rfl) ?_
        obtain ⟨h_3, hw⟩ := hw
        refine x_aald_14 hx hb I h_3 dX6_ringAmount_38 ?_
        refine lv_iload hx hb dX6_ringAmount_39 (lv_at hl 4 rfl) ?_
        obtain ⟨h_4, hw⟩ := hw
        refine x_iald hx hb I (70 + x4) (lenX_70 h_3) h_4 dX6_ringAmount_41 ?_
        have h_5 := I.rng (70 + x4) x5
        refine g_mmin hx hb (hml.trans hl.1.symm) hts hown wm_X6_65 wa_min wn_J9 wc_min (Nat.le_of_ble_eq_true rfl) (Nat.le_of_ble_eq_true rfl) (Nat.zero_le _) (Nat.zero_le _) h3 h_5 dX6_ringAmount_42 ?_
        refine li_name (fun v45_5 ev45_5 => ?_)
        replace hw := hw v45_5 ev45_5
        have hv45_5 : inR v45_5 := ev45_5 ▸ (inR_min h3 h_5)
        refine lv_istore_n (lv' := [(3, .int (i32 v45_5)), (0, .ref (g.2.2.2 6)), (2, .int (i32 x2)), (4, .int (i32 x4)), (5, .int (i32 x5)), (6, .int (i32 x6))]) hx hb dX6_ringAmount_45 rfl hl (by decide) rfl (fun ls hl => ?_)
        refine lv_aload_n hx hb dX6_ringAmount_46 rfl (lv_at hl 1 rfl) ?_
        refine xg_6_3 hx hb hts wu_X6 hown I wf_X6_23 dX6_ringAmount_47 ?_
        refine lv_iload hx hb dX6_ringAmount_50 (lv_at hl 4 rfl) ?_
        obtain ⟨h_7, hw⟩ := hw
        refine x_iald hx hb I 25 lenX_25 h_7 dX6_ringAmount_52 ?_
        have h_8 := I.rng 25 x5
        refine li_name (fun v53_8 ev53_8 => ?_)
        replace hw := hw v53_8 ev53_8
        have hv53_8 : inR v53_8 := ev53_8 ▸ h_8
        refine lv_istore (lv' := [(4, .int (i32 v53_8)), (3, .int (i32 v45_5)), (0, .ref (g.2.2.2 6)), (2, .int (i32 x2)), (5, .int (i32 x5)), (6, .int (i32 x6))]) hx hb dX6_ringAmount_53 hl (by decide) rfl (fun ls hl => ?_)
        refine lv_iload hx hb dX6_ringAmount_55 (lv_at hl 4 rfl) ?_
        refine lv_iload_n hx hb dX6_ringAmount_57 rfl (lv_at hl 3 rfl) ?_
        refine li_icmp_ne (tgt := 65) hx hb dX6_ringAmount_58 (by decide) h5 h2 (fun c_10 => ?_) (fun c_10 => ?_)
        · replace hw := hw.1 c_10
          refine lv_aload_n hx hb dX6_ringAmount_65 rfl (lv_at hl 2 rfl) ?_
          refine xg_6_2 hx hb hts wu_X6 hown I wf_X6_20 dX6_ringAmount_66 ?_
          refine lv_iload hx hb dX6_ringAmount_69 (lv_at hl 0 rfl) ?_
          obtain ⟨h_11, hw⟩ := hw
          refine x_iald hx hb I 24 lenX_24 h_11 dX6_ringAmount_71 ?_
          have h_12 := I.rng 24 v53_8
          exact bX6_ringAmount_72 C post (fun y2 y3 y4 y5 y6 N => lpX6_ringAmount_18 post n y2 y3 y4 y5 y6 N) ih x2 v45_5 v53_8 x6 (M 24 v53_8) h2 hv45_5 hv53_8 h6 h_12 _ _ _ _ hw I (lv_sub hl [2, 3, 1, 0, 5] rfl)
        · replace hw := hw.2 c_10
          refine li_iconst hx hb dX6_ringAmount_61 ?_
          refine lv_goto (tgt := 72) hx hb dX6_ringAmount_62 (by decide) ?_
          exact bX6_ringAmount_72 C post (fun y2 y3 y4 y5 y6 N => lpX6_ringAmount_18 post n y2 y3 y4 y5 y6 N) ih x2 v45_5 v53_8 x6 (-1) h2 hv45_5 hv53_8 h6 (by decide) _ _ _ _ hw I (lv_sub hl [2, 3, 1, 0, 5] rfl)
set_option maxRecDepth 100000 in
set_option maxHeartbeats 4000000 in
theorem mX6_ringAmount (l : Launch) (g : GP) (a1 a2 : Int) (ha1 : inR a1) (ha2 : inR a2) (M : Mem) (post : Int → Mem → Prop) (sz : Nat) (hw : wpX6_ringAmount a1 a2 M post) : MIX l yX6_ringAmount wtX6_ringAmount rmX6_ringAmount g [.ref (g.2.2.2 6), .int (i32 a1), .int (i32 a2)] M sz post := by
  refine Met.ofW (cc := cX6_ringAmount) (maxL := 7) (ret := (some .int)) (by decide) rfl ?_
  intro p e s m args below meth c s₁ B hml hv
  obtain ⟨rfl, hpre⟩ := hv
  have hsz := hpre.1
  subst hsz
  have C : Cx p m c cX6_ringAmount 7 s _ lw_g RX6 meth (some .int) := ⟨⟨B.exec, B.bytes, hml, findClass_of_methodNamed B.named, fun w h => atoms_spec (ws := wtX6_ringAmount) B.pre w (List.mem_cons_of_mem _ h)⟩, B.returns, B.notSynchronized⟩
  obtain ⟨⟨hx, hb, hml, hown, hts⟩, hr, hlk⟩ := id C
  have I := InG.start hpre
  have hl := lv_entry ([.ref (g.2.2.2 6), .int (i32 a1), .int (i32 a2)]) (n := 7) (Nat.le_of_ble_eq_true rfl)
  rw [lg_entry_eq]
  generalize (lg_sl ([.ref (g.2.2.2 6), .int (i32 a1), .int (i32 a2)]) ++ List.replicate (7 - (lg_sl ([.ref (g.2.2.2 6), .int (i32 a1), .int (i32 a2)])).length) Slot.unset).toArray = ls at hl ⊢
  have hl : lv_has ls 7 [(0, .ref (g.2.2.2 6)), (1, .int (i32 a1)), (2, .int (i32 a2))] := hl
  show W p l e rmX6_ringAmount s m _ below meth c s.heap [] 0 0 (QIX below _ s g post) _
  refine lv_sipush (v := i32 1000) hx hb dX6_ringAmount_0 (by decide) ?_
  refine lv_istore_n (lv' := [(3, .int (i32 1000)), (0, .ref (g.2.2.2 6)), (1, .int (i32 a1)), (2, .int (i32 a2))]) hx hb dX6_ringAmount_3 rfl hl (by decide) rfl (fun ls hl => ?_)
  refine lv_iload_n hx hb dX6_ringAmount_4 rfl (lv_at hl 2 rfl) ?_
  refine lv_istore (lv' := [(4, .int (i32 a1)), (3, .int (i32 1000)), (0, .ref (g.2.2.2 6)), (1, .int (i32 a1)), (2, .int (i32 a2))]) hx hb dX6_ringAmount_5 hl (by decide) rfl (fun ls hl => ?_)
  refine lv_aload_n hx hb dX6_ringAmount_7 rfl (lv_at hl 2 rfl) ?_
  refine xg_6_2 hx hb hts wu_X6 hown I wf_X6_20 dX6_ringAmount_8 ?_
  refine lv_iload_n hx hb dX6_ringAmount_11 rfl (lv_at hl 3 rfl) ?_
  obtain ⟨h_1, hw⟩ := hw
  refine x_iald hx hb I 24 lenX_24 h_1 dX6_ringAmount_12 ?_
  have h_2 := I.rng 24 a1
  refine li_name (fun v13_2 ev13_2 => ?_)
  replace hw := hw v13_2 ev13_2
  have hv13_2 : inR v13_2 := ev13_2 ▸ h_2
  refine lv_istore (lv' := [(5, .int (i32 v13_2)), (4, .int (i32 a1)), (3, .int (i32 1000)), (0, .ref (g.2.2.2 6)), (1, .int (i32 a1)), (2, .int (i32 a2))]) hx hb dX6_ringAmount_13 hl (by decide) rfl (fun ls hl => ?_)
  refine li_iconst hx hb dX6_ringAmount_15 ?_
  refine lv_istore (lv' := [(6, .int (i32 0)), (5, .int (i32 v13_2)), (4, .int (i32 a1)), (3, .int (i32 1000)), (0, .ref (g.2.2.2 6)), (1, .int (i32 a1)), (2, .int (i32 a2))]) hx hb dX6_ringAmount_16 hl (by decide) rfl (fun ls hl => ?_)
  obtain ⟨n1, hw⟩ := hw
  exact bX6_ringAmount_18 C post n1 a2 1000 a1 v13_2 0 ha2 (by decide) ha1 hv13_2 (by decide) _ _ _ _ hw I (lv_sub hl [4, 6, 3, 2, 1, 0] rfl)
abbrev rmX6_turnRing : Room := { frames := 2, cells := 0, slots := 0, locals := 47 }
abbrev wtX6_turnRing : List Cond := Cond.code yX6_turnRing cX6_turnRing 7 none :: lw_g
set_option maxRecDepth 100000 in
set_option maxHeartbeats 4000000 in
theorem bX6_turnRing_96 {p : Program} {l : Launch} {e : Env} {s : State} {m : MethodId} {args : Array Value} {below : List Frame} {meth : Method} {c : Code} {g : GP} (C : Cx p m c cX6_turnRing 7 s args lw_g RX6 meth none) (post : Mem → Prop) : ∀ (M : Mem) (H : Heap) (locs : List Loc) (ls : Array Slot), jbX6_turnRing_96 post  M → IX g s M H locs → lv_has ls 7 [(0, .ref (g.2.2.2 6))] → W p l e rmX6_turnRing s m args below meth c H locs 0 0 (QVX below args s g post) (F0 m 96 ls []) := by
  obtain ⟨⟨hx, hb, hml, hown, hts⟩, hr, hlk⟩ := id C
  intro M H locs ls hw I hl
  exact g_vret hx hb hr hlk I hw dX6_turnRing_96
set_option maxRecDepth 100000 in
set_option maxHeartbeats 4000000 in
theorem bX6_turnRing_88 {p : Program} {l : Launch} {e : Env} {s : State} {m : MethodId} {args : Array Value} {below : List Frame} {meth : Method} {c : Code} {g : GP} (C : Cx p m c cX6_turnRing 7 s args lw_g RX6 meth none) (post : Mem → Prop) (k21 : Int → Int → Int → Int → Int → Mem → Prop) (hk21 : ∀ (x2 x3 x4 x5 x6 : Int), inR x2 → inR x3 → inR x4 → inR x5 → inR x6 → ∀ (M : Mem) (H : Heap) (locs : List Loc) (ls : Array Slot), k21 x2 x3 x4 x5 x6 M → IX g s M H locs → lv_has ls 7 [(0, .ref (g.2.2.2 6)), (2, .int (i32 x2)), (3, .int (i32 x3)), (4, .int (i32 x4)), (5, .int (i32 x5)), (6, .int (i32 x6))] → W p l e rmX6_turnRing s m args below meth c H locs 0 0 (QVX below args s g post) (F0 m 21 ls [])) : ∀ (x2 x3 x4 x6 t0 : Int), inR x2 → inR x3 → inR x4 → inR x6 → inR t0 → ∀ (M : Mem) (H : Heap) (locs : List Loc) (ls : Array Slot), jbX6_turnRing_88 post k21 x2 x3 x4 x6 t0 M → IX g s M H locs → lv_has ls 7 [(0, .ref (g.2.2.2 6)), (2, .int (i32 x2)), (3, .int (i32 x3)), (4, .int (i32 x4)), (6, .int (i32 x6))] → W p l e rmX6_turnRing s m args below meth c H locs 0 0 (QVX below args s g post) (F0 m 88 ls [.int (i32 t0)]) := by
  obtain ⟨⟨hx, hb, hml, hown, hts⟩, hr, hlk⟩ := id C
  intro x2 x3 x4 x6 t0 h2 h3 h4 h6 ht0 M H locs ls hw I hl
  refine lv_istore (lv' := [(5, .int (i32 t0)), (0, .ref (g.2.2.2 6)), (2, .int (i32 x2)), (3, .int (i32 x3)), (4, .int (i32 x4)), (6, .int (i32 x6))]) hx hb dX6_turnRing_88 hl (by decide) rfl (fun ls hl => ?_)
  refine li_iinc (lv' := [(6, .int (i32 (x6 + 1))), (5, .int (i32 t0)), (0, .ref (g.2.2.2 6)), (2, .int (i32 x2)), (3, .int (i32 x3)), (4, .int (i32 x4))]) hx hb dX6_turnRing_90 hl (k := 5) rfl (by decide) rfl (fun ls hl => ?_)
  refine lv_goto (tgt := 21) hx hb dX6_turnRing_93 (by decide) ?_
  obtain ⟨h_1, hw⟩ := hw
  exact hk21 x2 x3 x4 t0 (x6 + 1) h2 h3 h4 ht0 h_1 _ _ _ _ hw I (lv_sub hl [2, 3, 4, 5, 1, 0] rfl)
set_option maxRecDepth 100000 in
set_option maxHeartbeats 4000000 in
theorem bX6_turnRing_21 {p : Program} {l : Launch} {e : Env} {s : State} {m : MethodId} {args : Array Value} {below : List Frame} {meth : Method} {c : Code} {g : GP} (C : Cx p m c cX6_turnRing 7 s args lw_g RX6 meth none) (post : Mem → Prop) : ∀ (n : Nat), ∀ (x2 x3 x4 x5 x6 : Int), inR x2 → inR x3 → inR x4 → inR x5 → inR x6 → ∀ (M : Mem) (H : Heap) (locs : List Loc) (ls : Array Slot), lpX6_turnRing_21 post n x2 x3 x4 x5 x6 M → IX g s M H locs → lv_has ls 7 [(0, .ref (g.2.2.2 6)), (2, .int (i32 x2)), (3, .int (i32 x3)), (4, .int (i32 x4)), (5, .int (i32 x5)), (6, .int (i32 x6))] → W p l e rmX6_turnRing s m args below meth c H locs 0 0 (QVX below args s g post) (F0 m 21 ls []) := by
  obtain ⟨⟨hx, hb, hml, hown, hts⟩, hr, hlk⟩ := id C
  intro n
  induction n with
  | zero =>
    intro x2 x3 x4 x5 x6 h2 h3 h4 h5 h6 M H locs ls hw
    exact hw.elim
  | succ n ih =>
    intro x2 x3 x4 x5 x6 h2 h3 h4 h5 h6 M H locs ls hw I hl
    refine lv_iload hx hb dX6_turnRing_21 (lv_at hl 5 rfl) ?_
    refine lv_bipush (v := i32 10) hx hb dX6_turnRing_23 (by decide) ?_
    refine li_icmp_ge (tgt := 96) hx hb dX6_turnRing_25 (by decide) h6 (by decide) (fun c_1 => ?_) (fun c_1 => ?_)
    · replace hw := hw.1 c_1
      exact bX6_turnRing_96 C post _ _ _ _ hw I (lv_sub hl [0] rfl)
    · replace hw := hw.2 c_1
      refine lv_iload hx hb dX6_turnRing_28 (lv_at hl 4 rfl) ?_
      refine li_iconst hx hb dX6_turnRing_30 ?_
      refine li_icmp_eq (tgt := 96) hx hb dX6_turnRing_31 (by decide) h5 (by decide) (fun c_2 => ?_) (fun c_2 => ?_)
      · replace hw := hw.1 c_2
        exact bX6_turnRing_96 C post _ _ _ _ hw I (lv_sub hl [0] rfl)
      · replace hw := hw.2 c_2
        refine lv_aload_n hx hb dX6_turnRing_34 rfl (lv_at hl 0 rfl) ?_
        refine xg_6_0 hx hb hts wu_X6 hown I wf_X6_11 dX6_turnRing_35 ?_
        refine lv_iload hx hb dX6_turnRing_38 (lv_at hl 3 rfl) ?_
        obtain ⟨h_3, hw⟩ := hw
        refine x_aald_14 hx hb I h_3 dX6_turnRing_40 ?_
        refine lv_iload hx hb dX6_turnRing_41 (lv_at hl 4 rfl) ?_
        refine lv_dup2_11 hx hb dX6_turnRing_43 rfl rfl ?_
        obtain ⟨h_4, hw⟩ := hw
        refine x_iald hx hb I (70 + x4) (lenX_70 h_3) h_4 dX6_turnRing_44 ?_
        have h_5 := I.rng (70 + x4) x5
        refine lv_iload_n hx hb dX6_turnRing_45 rfl (lv_at hl 2 rfl) ?_
        refine li_isub hx hb dX6_turnRing_46 ?_
        obtain ⟨h_6, hw⟩ := hw
        obtain ⟨h_7, hw⟩ := hw
        refine x_iast hx hb I (70 + x4) (lenX_70 h_3) h_6 h_7 dX6_turnRing_47 (fun H locs M47_7 eM47_7 I => ?_)
        replace hw := hw M47_7 eM47_7
        refine lv_aload_n hx hb dX6_turnRing_48 rfl (lv_at hl 0 rfl) ?_
        refine xg_6_3 hx hb hts wu_X6 hown I wf_X6_23 dX6_turnRing_49 ?_
        refine lv_iload hx hb dX6_turnRing_52 (lv_at hl 4 rfl) ?_
        obtain ⟨h_9, hw⟩ := hw
        refine x_iald hx hb I 25 lenX_25 h_9 dX6_turnRing_54 ?_
        have h_10 := I.rng 25 x5
        refine li_name (fun v55_10 ev55_10 => ?_)
        replace hw := hw v55_10 ev55_10
        have hv55_10 : inR v55_10 := ev55_10 ▸ h_10
        refine lv_istore (lv' := [(4, .int (i32 v55_10)), (0, .ref (g.2.2.2 6)), (2, .int (i32 x2)), (3, .int (i32 x3)), (5, .int (i32 x5)), (6, .int (i32 x6))]) hx hb dX6_turnRing_55 hl (by decide) rfl (fun ls hl => ?_)
        refine lv_aload_n hx hb dX6_turnRing_57 rfl (lv_at hl 1 rfl) ?_
        refine xg_6_0 hx hb hts wu_X6 hown I wf_X6_11 dX6_turnRing_58 ?_
        refine lv_iload hx hb dX6_turnRing_61 (lv_at hl 0 rfl) ?_
        obtain ⟨h_12, hw⟩ := hw
        refine x_aald_14 hx hb I h_12 dX6_turnRing_63 ?_
        refine lv_iload hx hb dX6_turnRing_64 (lv_at hl 4 rfl) ?_
        refine lv_dup2_11 hx hb dX6_turnRing_66 rfl rfl ?_
        obtain ⟨h_13, hw⟩ := hw
        refine x_iald hx hb I (70 + v55_10) (lenX_70 h_12) h_13 dX6_turnRing_67 ?_
        have h_14 := I.rng (70 + v55_10) x5
        refine lv_iload_n hx hb dX6_turnRing_68 rfl (lv_at hl 3 rfl) ?_
        refine li_iadd hx hb dX6_turnRing_69 ?_
        obtain ⟨h_15, hw⟩ := hw
        obtain ⟨h_16, hw⟩ := hw
        refine x_iast hx hb I (70 + v55_10) (lenX_70 h_12) h_15 h_16 dX6_turnRing_70 (fun H locs M70_16 eM70_16 I => ?_)
        replace hw := hw M70_16 eM70_16
        refine lv_iload hx hb dX6_turnRing_71 (lv_at hl 4 rfl) ?_
        refine lv_iload_n hx hb dX6_turnRing_73 rfl (lv_at hl 2 rfl) ?_
        refine li_icmp_ne (tgt := 81) hx hb dX6_turnRing_74 (by decide) h5 h2 (fun c_18 => ?_) (fun c_18 => ?_)
        · replace hw := hw.1 c_18
          refine lv_aload_n hx hb dX6_turnRing_81 rfl (lv_at hl 1 rfl) ?_
          refine xg_6_2 hx hb hts wu_X6 hown I wf_X6_20 dX6_turnRing_82 ?_
          refine lv_iload hx hb dX6_turnRing_85 (lv_at hl 0 rfl) ?_
          obtain ⟨h_19, hw⟩ := hw
          refine x_iald hx hb I 24 lenX_24 h_19 dX6_turnRing_87 ?_
          have h_20 := I.rng 24 v55_10
          exact bX6_turnRing_88 C post (fun y2 y3 y4 y5 y6 N => lpX6_turnRing_21 post n y2 y3 y4 y5 y6 N) ih x2 x3 v55_10 x6 (M70_16 24 v55_10) h2 h3 hv55_10 h6 h_20 _ _ _ _ hw I (lv_sub hl [1, 2, 3, 0, 5] rfl)
        · replace hw := hw.2 c_18
          refine li_iconst hx hb dX6_turnRing_77 ?_
          refine lv_goto (tgt := 88) hx hb dX6_turnRing_78 (by decide) ?_
          exact bX6_turnRing_88 C post (fun y2 y3 y4 y5 y6 N => lpX6_turnRing_21 post n y2 y3 y4 y5 y6 N) ih x2 x3 v55_10 x6 (-1) h2 h3 hv55_10 h6 (by decide) _ _ _ _ hw I (lv_sub hl [1, 2, 3, 0, 5] rfl)
set_option maxRecDepth 100000 in
set_option maxHeartbeats 4000000 in
theorem mX6_turnRing (l : Launch) (g : GP) (a1 a2 : Int) (ha1 : inR a1) (ha2 : inR a2) (M : Mem) (post : Mem → Prop) (sz : Nat) (hw : wpX6_turnRing a1 a2 M post) : MVX l yX6_turnRing wtX6_turnRing rmX6_turnRing g [.ref (g.2.2.2 6), .int (i32 a1), .int (i32 a2)] M sz post := by
  refine Met.ofW (cc := cX6_turnRing) (maxL := 7) (ret := none) (by decide) rfl ?_
  intro p e s m args below meth c s₁ B hml hv
  obtain ⟨rfl, hpre⟩ := hv
  have hsz := hpre.1
  subst hsz
  have C : Cx p m c cX6_turnRing 7 s _ lw_g RX6 meth none := ⟨⟨B.exec, B.bytes, hml, findClass_of_methodNamed B.named, fun w h => atoms_spec (ws := wtX6_turnRing) B.pre w (List.mem_cons_of_mem _ h)⟩, B.returns, B.notSynchronized⟩
  obtain ⟨⟨hx, hb, hml, hown, hts⟩, hr, hlk⟩ := id C
  have I := InG.start hpre
  have hl := lv_entry ([.ref (g.2.2.2 6), .int (i32 a1), .int (i32 a2)]) (n := 7) (Nat.le_of_ble_eq_true rfl)
  rw [lg_entry_eq]
  generalize (lg_sl ([.ref (g.2.2.2 6), .int (i32 a1), .int (i32 a2)]) ++ List.replicate (7 - (lg_sl ([.ref (g.2.2.2 6), .int (i32 a1), .int (i32 a2)])).length) Slot.unset).toArray = ls at hl ⊢
  have hl : lv_has ls 7 [(0, .ref (g.2.2.2 6)), (1, .int (i32 a1)), (2, .int (i32 a2))] := hl
  show W p l e rmX6_turnRing s m _ below meth c s.heap [] 0 0 (QVX below _ s g post) _
  refine lv_aload_n hx hb dX6_turnRing_0 rfl (lv_at hl 0 rfl) ?_
  refine lv_iload_n hx hb dX6_turnRing_1 rfl (lv_at hl 1 rfl) ?_
  refine lv_iload_n hx hb dX6_turnRing_2 rfl (lv_at hl 2 rfl) ?_
  refine g_callVi (o := 6) (As := [.int (i32 a1), .int (i32 a2)]) (rest := []) ⟨hx, hb, hml, hown, hts⟩ I (mX6_ringAmount l g a1 a2 ha1 ha2 M _ _ hw) (cwV 2 hts (gd_V wm_X6_108 wi_X6_ringAmount wl_X6_ringAmount wn_X6 wc_X6_ringAmount) rfl rfl rfl wd_X6_ringAmount ⟨Nat.le_of_ble_eq_true rfl, Nat.le_of_ble_eq_true rfl⟩) (by omega) (by omega) obX_6 rfl rfl hl.1 rfl (Nat.le_of_ble_eq_true rfl) dX6_turnRing_3 ⟨Nat.zero_le _, Nat.zero_le _⟩ (fun r3_0 M3_0 H locs hr3_0 hw I => ?_)
  refine lv_istore_n (lv' := [(3, .int (i32 r3_0)), (0, .ref (g.2.2.2 6)), (1, .int (i32 a1)), (2, .int (i32 a2))]) hx hb dX6_turnRing_6 rfl hl (by decide) rfl (fun ls hl => ?_)
  refine lv_iload_n hx hb dX6_turnRing_7 rfl (lv_at hl 2 rfl) ?_
  refine lv_istore (lv' := [(4, .int (i32 a1)), (3, .int (i32 r3_0)), (0, .ref (g.2.2.2 6)), (1, .int (i32 a1)), (2, .int (i32 a2))]) hx hb dX6_turnRing_8 hl (by decide) rfl (fun ls hl => ?_)
  refine lv_aload_n hx hb dX6_turnRing_10 rfl (lv_at hl 2 rfl) ?_
  refine xg_6_2 hx hb hts wu_X6 hown I wf_X6_20 dX6_turnRing_11 ?_
  refine lv_iload_n hx hb dX6_turnRing_14 rfl (lv_at hl 3 rfl) ?_
  obtain ⟨h_2, hw⟩ := hw
  refine x_iald hx hb I 24 lenX_24 h_2 dX6_turnRing_15 ?_
  have h_3 := I.rng 24 a1
  refine li_name (fun v16_3 ev16_3 => ?_)
  replace hw := hw v16_3 ev16_3
  have hv16_3 : inR v16_3 := ev16_3 ▸ h_3
  refine lv_istore (lv' := [(5, .int (i32 v16_3)), (4, .int (i32 a1)), (3, .int (i32 r3_0)), (0, .ref (g.2.2.2 6)), (1, .int (i32 a1)), (2, .int (i32 a2))]) hx hb dX6_turnRing_16 hl (by decide) rfl (fun ls hl => ?_)
  refine li_iconst hx hb dX6_turnRing_18 ?_
  refine lv_istore (lv' := [(6, .int (i32 0)), (5, .int (i32 v16_3)), (4, .int (i32 a1)), (3, .int (i32 r3_0)), (0, .ref (g.2.2.2 6)), (1, .int (i32 a1)), (2, .int (i32 a2))]) hx hb dX6_turnRing_19 hl (by decide) rfl (fun ls hl => ?_)
  obtain ⟨n1, hw⟩ := hw
  exact bX6_turnRing_21 C post n1 a2 r3_0 a1 v16_3 0 ha2 hr3_0 ha1 hv16_3 (by decide) _ _ _ _ hw I (lv_sub hl [4, 6, 3, 2, 1, 0] rfl)
