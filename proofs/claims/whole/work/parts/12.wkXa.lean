abbrev rmX0_keep : Room := { frames := 0, cells := 0, slots := 0, locals := 0 }
abbrev wtX0_keep : List Cond := Cond.code yX0_keep cX0_keep 6 none :: lw_g
set_option maxRecDepth 100000 in
set_option maxHeartbeats 4000000 in
theorem bX0_keep_82 {p : Program} {l : Launch} {e : Env} {s : State} {m : MethodId} {args : Array Value} {below : List Frame} {meth : Method} {c : Code} {g : GP} (C : Cx p m c cX0_keep 6 s args lw_g RX0 meth none) (post : Mem → Prop) : ∀ (M : Mem) (H : Heap) (locs : List Loc) (ls : Array Slot), jbX0_keep_82 post  M → IX g s M H locs → lv_has ls 6 [(0, .ref (g.2.2.2 3))] → W p l e rmX0_keep s m args below meth c H locs 0 0 (QVX below args s g post) (F0 m 82 ls []) := by
  obtain ⟨⟨hx, hb, hml, hown, hts⟩, hr, hlk⟩ := id C
  intro M H locs ls hw I hl
  exact g_vret hx hb hr hlk I hw dX0_keep_82
set_option maxRecDepth 100000 in
set_option maxHeartbeats 4000000 in
theorem mX0_keep (l : Launch) (g : GP) (a1 a2 a3 a4 : Int) (ha1 : inR a1) (ha2 : inR a2) (ha3 : inR a3) (ha4 : inR a4) (M : Mem) (post : Mem → Prop) (sz : Nat) (hw : wpX0_keep a1 a2 a3 a4 M post) : MVX l yX0_keep wtX0_keep rmX0_keep g [.ref (g.2.2.2 3), .int (i32 a1), .int (i32 a2), .int (i32 a3), .int (i32 a4)] M sz post := by
  refine Met.ofW (cc := cX0_keep) (maxL := 6) (ret := none) (by decide) rfl ?_
  intro p e s m args below meth c s₁ B hml hv
  obtain ⟨rfl, hpre⟩ := hv
  have hsz := hpre.1
  subst hsz
  have C : Cx p m c cX0_keep 6 s _ lw_g RX0 meth none := ⟨⟨B.exec, B.bytes, hml, findClass_of_methodNamed B.named, fun w h => atoms_spec (ws := wtX0_keep) B.pre w (List.mem_cons_of_mem _ h)⟩, B.returns, B.notSynchronized⟩
  obtain ⟨⟨hx, hb, hml, hown, hts⟩, hr, hlk⟩ := id C
  have I := InG.start hpre
  have hl := lv_entry ([.ref (g.2.2.2 3), .int (i32 a1), .int (i32 a2), .int (i32 a3), .int (i32 a4)]) (n := 6) (Nat.le_of_ble_eq_true rfl)
  rw [lg_entry_eq]
  generalize (lg_sl ([.ref (g.2.2.2 3), .int (i32 a1), .int (i32 a2), .int (i32 a3), .int (i32 a4)]) ++ List.replicate (6 - (lg_sl ([.ref (g.2.2.2 3), .int (i32 a1), .int (i32 a2), .int (i32 a3), .int (i32 a4)])).length) Slot.unset).toArray = ls at hl ⊢
  have hl : lv_has ls 6 [(0, .ref (g.2.2.2 3)), (1, .int (i32 a1)), (2, .int (i32 a2)), (3, .int (i32 a3)), (4, .int (i32 a4))] := hl
  show W p l e rmX0_keep s m _ below meth c s.heap [] 0 0 (QVX below _ s g post) _
  refine lv_aload_n hx hb dX0_keep_0 rfl (lv_at hl 0 rfl) ?_
  refine xg_3_1 hx hb hts wu_X0 hown I wf_X0_24 dX0_keep_1 ?_
  have h_1 := I.rng 3 1
  refine lv_aload_n hx hb dX0_keep_4 rfl (lv_at hl 0 rfl) ?_
  refine xg_3_0 hx hb hts wu_X0 hown I wf_X0_28 dX0_keep_5 ?_
  have h_2 := I.rng 3 0
  refine li_iadd hx hb dX0_keep_8 ?_
  refine lv_bipush (v := i32 30) hx hb dX0_keep_9 (by decide) ?_
  obtain ⟨h_3, hw⟩ := hw
  obtain ⟨h_4, hw⟩ := hw
  refine li_irem hx hb dX0_keep_11 h_3 h_4 (by decide) (by decide) ?_
  obtain ⟨h_5, hw⟩ := hw
  refine li_name (fun v12_5 ev12_5 => ?_)
  replace hw := hw v12_5 ev12_5
  have hv12_5 : inR v12_5 := ev12_5 ▸ h_5
  refine lv_istore (lv' := [(5, .int (i32 v12_5)), (0, .ref (g.2.2.2 3)), (1, .int (i32 a1)), (2, .int (i32 a2)), (3, .int (i32 a3)), (4, .int (i32 a4))]) hx hb dX0_keep_12 hl (by decide) rfl (fun ls hl => ?_)
  refine lv_aload_n hx hb dX0_keep_14 rfl (lv_at hl 1 rfl) ?_
  refine xg_3_2 hx hb hts wu_X0 hown I wf_X0_9 dX0_keep_15 ?_
  refine lv_iload hx hb dX0_keep_18 (lv_at hl 0 rfl) ?_
  refine lv_iload_n hx hb dX0_keep_20 rfl (lv_at hl 2 rfl) ?_
  obtain ⟨h_7, hw⟩ := hw
  refine x_iast hx hb I 19 lenX_19 h_7 ha1 dX0_keep_21 (fun H locs M21_7 eM21_7 I => ?_)
  replace hw := hw M21_7 eM21_7
  refine lv_aload_n hx hb dX0_keep_22 rfl (lv_at hl 1 rfl) ?_
  refine xg_3_3 hx hb hts wu_X0 hown I wf_X0_15 dX0_keep_23 ?_
  refine lv_iload hx hb dX0_keep_26 (lv_at hl 0 rfl) ?_
  refine lv_iload_n hx hb dX0_keep_28 rfl (lv_at hl 3 rfl) ?_
  obtain ⟨h_9, hw⟩ := hw
  refine x_iast hx hb I 20 lenX_20 h_9 ha2 dX0_keep_29 (fun H locs M29_9 eM29_9 I => ?_)
  replace hw := hw M29_9 eM29_9
  refine lv_aload_n hx hb dX0_keep_30 rfl (lv_at hl 1 rfl) ?_
  refine xg_3_4 hx hb hts wu_X0 hown I wf_X0_18 dX0_keep_31 ?_
  refine lv_iload hx hb dX0_keep_34 (lv_at hl 0 rfl) ?_
  refine lv_iload_n hx hb dX0_keep_36 rfl (lv_at hl 4 rfl) ?_
  obtain ⟨h_11, hw⟩ := hw
  refine x_iast hx hb I 21 lenX_21 h_11 ha3 dX0_keep_37 (fun H locs M37_11 eM37_11 I => ?_)
  replace hw := hw M37_11 eM37_11
  refine lv_aload_n hx hb dX0_keep_38 rfl (lv_at hl 1 rfl) ?_
  refine xg_3_5 hx hb hts wu_X0 hown I wf_X0_21 dX0_keep_39 ?_
  refine lv_iload hx hb dX0_keep_42 (lv_at hl 0 rfl) ?_
  refine lv_iload hx hb dX0_keep_44 (lv_at hl 5 rfl) ?_
  obtain ⟨h_13, hw⟩ := hw
  refine x_iast hx hb I 22 lenX_22 h_13 ha4 dX0_keep_46 (fun H locs M46_13 eM46_13 I => ?_)
  replace hw := hw M46_13 eM46_13
  refine lv_aload_n hx hb dX0_keep_47 rfl (lv_at hl 1 rfl) ?_
  refine xg_3_0 hx hb hts wu_X0 hown I wf_X0_28 dX0_keep_48 ?_
  have h_15 := I.rng 3 0
  refine lv_bipush (v := i32 30) hx hb dX0_keep_51 (by decide) ?_
  refine li_icmp_ge (tgt := 69) hx hb dX0_keep_53 (by decide) h_15 (by decide) (fun c_16 => ?_) (fun c_16 => ?_)
  · replace hw := hw.1 c_16
    refine lv_aload_n hx hb dX0_keep_69 rfl (lv_at hl 1 rfl) ?_
    refine lv_aload_n hx hb dX0_keep_70 rfl (lv_at hl 1 rfl) ?_
    refine xg_3_1 hx hb hts wu_X0 hown I wf_X0_24 dX0_keep_71 ?_
    have h_17 := I.rng 3 1
    refine li_iconst hx hb dX0_keep_74 ?_
    refine li_iadd hx hb dX0_keep_75 ?_
    refine lv_bipush (v := i32 30) hx hb dX0_keep_76 (by decide) ?_
    obtain ⟨h_18, hw⟩ := hw
    obtain ⟨h_19, hw⟩ := hw
    refine li_irem hx hb dX0_keep_78 h_18 h_19 (by decide) (by decide) ?_
    obtain ⟨h_20, hw⟩ := hw
    refine xp_3_1 hx hb hts wu_X0 hown I wf_X0_24 h_20 dX0_keep_79 (fun H locs M79_20 eM79_20 I => ?_)
    replace hw := hw M79_20 eM79_20
    exact bX0_keep_82 C post _ _ _ _ hw I (lv_sub hl [1] rfl)
  · replace hw := hw.2 c_16
    refine lv_aload_n hx hb dX0_keep_56 rfl (lv_at hl 1 rfl) ?_
    refine lv_dup hx hb dX0_keep_57 rfl ?_
    refine xg_3_0 hx hb hts wu_X0 hown I wf_X0_28 dX0_keep_58 ?_
    have h_22 := I.rng 3 0
    refine li_iconst hx hb dX0_keep_61 ?_
    refine li_iadd hx hb dX0_keep_62 ?_
    obtain ⟨h_23, hw⟩ := hw
    refine xp_3_0 hx hb hts wu_X0 hown I wf_X0_28 h_23 dX0_keep_63 (fun H locs M63_23 eM63_23 I => ?_)
    replace hw := hw M63_23 eM63_23
    refine lv_goto (tgt := 82) hx hb dX0_keep_66 (by decide) ?_
    exact bX0_keep_82 C post _ _ _ _ hw I (lv_sub hl [1] rfl)
abbrev rmX0_dropLatest : Room := { frames := 0, cells := 0, slots := 0, locals := 0 }
abbrev wtX0_dropLatest : List Cond := Cond.code yX0_dropLatest cX0_dropLatest 1 (some .int) :: lw_g
set_option maxRecDepth 100000 in
set_option maxHeartbeats 4000000 in
theorem mX0_dropLatest (l : Launch) (g : GP) (M : Mem) (post : Int → Mem → Prop) (sz : Nat) (hw : wpX0_dropLatest M post) : MIX l yX0_dropLatest wtX0_dropLatest rmX0_dropLatest g [.ref (g.2.2.2 3)] M sz post := by
  refine Met.ofW (cc := cX0_dropLatest) (maxL := 1) (ret := (some .int)) (by decide) rfl ?_
  intro p e s m args below meth c s₁ B hml hv
  obtain ⟨rfl, hpre⟩ := hv
  have hsz := hpre.1
  subst hsz
  have C : Cx p m c cX0_dropLatest 1 s _ lw_g RX0 meth (some .int) := ⟨⟨B.exec, B.bytes, hml, findClass_of_methodNamed B.named, fun w h => atoms_spec (ws := wtX0_dropLatest) B.pre w (List.mem_cons_of_mem _ h)⟩, B.returns, B.notSynchronized⟩
  obtain ⟨⟨hx, hb, hml, hown, hts⟩, hr, hlk⟩ := id C
  have I := InG.start hpre
  have hl := lv_entry ([.ref (g.2.2.2 3)]) (n := 1) (Nat.le_of_ble_eq_true rfl)
  rw [lg_entry_eq]
  generalize (lg_sl ([.ref (g.2.2.2 3)]) ++ List.replicate (1 - (lg_sl ([.ref (g.2.2.2 3)])).length) Slot.unset).toArray = ls at hl ⊢
  have hl : lv_has ls 1 [(0, .ref (g.2.2.2 3))] := hl
  show W p l e rmX0_dropLatest s m _ below meth c s.heap [] 0 0 (QIX below _ s g post) _
  refine lv_aload_n hx hb dX0_dropLatest_0 rfl (lv_at hl 0 rfl) ?_
  refine lv_dup hx hb dX0_dropLatest_1 rfl ?_
  refine xg_3_0 hx hb hts wu_X0 hown I wf_X0_28 dX0_dropLatest_2 ?_
  have h_1 := I.rng 3 0
  refine li_iconst hx hb dX0_dropLatest_5 ?_
  refine li_isub hx hb dX0_dropLatest_6 ?_
  obtain ⟨h_2, hw⟩ := hw
  refine xp_3_0 hx hb hts wu_X0 hown I wf_X0_28 h_2 dX0_dropLatest_7 (fun H locs M7_2 eM7_2 I => ?_)
  replace hw := hw M7_2 eM7_2
  refine lv_aload_n hx hb dX0_dropLatest_10 rfl (lv_at hl 0 rfl) ?_
  refine xg_3_1 hx hb hts wu_X0 hown I wf_X0_24 dX0_dropLatest_11 ?_
  have h_4 := I.rng 3 1
  refine lv_aload_n hx hb dX0_dropLatest_14 rfl (lv_at hl 0 rfl) ?_
  refine xg_3_0 hx hb hts wu_X0 hown I wf_X0_28 dX0_dropLatest_15 ?_
  have h_5 := I.rng 3 0
  refine li_iadd hx hb dX0_dropLatest_18 ?_
  refine lv_bipush (v := i32 30) hx hb dX0_dropLatest_19 (by decide) ?_
  obtain ⟨h_6, hw⟩ := hw
  obtain ⟨h_7, hw⟩ := hw
  refine li_irem hx hb dX0_dropLatest_21 h_6 h_7 (by decide) (by decide) ?_
  obtain ⟨h_8, hw⟩ := hw
  exact g_iret hx hb hr hlk I h_8 hw dX0_dropLatest_22
abbrev rmJ7_fill_53178 : Room := { frames := 0, cells := 0, slots := 0, locals := 0 }
abbrev wtJ7_fill_53178 : List Cond := Cond.code yJ7_fill_53178 cJ7_fill_53178 4 none :: lw_g
set_option maxRecDepth 100000 in
set_option maxHeartbeats 4000000 in
theorem bJ7_fill_53178_5 {p : Program} {l : Launch} {e : Env} {s : State} {m : MethodId} {args : Array Value} {below : List Frame} {meth : Method} {c : Code} {g : GP} (r0 : Int) (C : Cx p m c cJ7_fill_53178 4 s args lw_g RJ7 meth none) (post : Mem → Prop) : ∀ (n : Nat), ∀ (x1 x2 x3 : Int), inR x1 → inR x2 → inR x3 → ∀ (M : Mem) (H : Heap) (locs : List Loc) (ls : Array Slot), lpJ7_fill_53178_5 r0 post n x1 x2 x3 M → IX g s M H locs → lv_has ls 4 [(0, .ref (g.2.2.2 r0)), (1, .int (i32 x1)), (2, .int (i32 x2)), (3, .int (i32 x3))] → W p l e rmJ7_fill_53178 s m args below meth c H locs 0 0 (QVX below args s g post) (F0 m 5 ls []) := by
  obtain ⟨⟨hx, hb, hml, hown, hts⟩, hr, hlk⟩ := id C
  intro n
  induction n with
  | zero =>
    intro x1 x2 x3 h1 h2 h3 M H locs ls hw
    exact hw.elim
  | succ n ih =>
    intro x1 x2 x3 h1 h2 h3 M H locs ls hw I hl
    refine lv_iload_n hx hb dJ7_fill_53178_5 rfl (lv_at hl 2 rfl) ?_
    refine lv_iload_n hx hb dJ7_fill_53178_6 rfl (lv_at hl 3 rfl) ?_
    refine li_icmp_ge (tgt := 20) hx hb dJ7_fill_53178_7 (by decide) h2 h3 (fun c_1 => ?_) (fun c_1 => ?_)
    · replace hw := hw.1 c_1
      exact g_vret hx hb hr hlk I hw dJ7_fill_53178_20
    · replace hw := hw.2 c_1
      refine lv_aload_n hx hb dJ7_fill_53178_10 rfl (lv_at hl 0 rfl) ?_
      refine lv_iload_n hx hb dJ7_fill_53178_11 rfl (lv_at hl 2 rfl) ?_
      refine lv_iload_n hx hb dJ7_fill_53178_12 rfl (lv_at hl 1 rfl) ?_
      obtain ⟨h_2, hw⟩ := hw
      refine x_iast hx hb I r0 rfl h_2 h1 dJ7_fill_53178_13 (fun H locs M13_2 eM13_2 I => ?_)
      replace hw := hw M13_2 eM13_2
      refine li_iinc (lv' := [(2, .int (i32 (x2 + 1))), (0, .ref (g.2.2.2 r0)), (1, .int (i32 x1)), (3, .int (i32 x3))]) hx hb dJ7_fill_53178_14 hl (k := 2) rfl (by decide) rfl (fun ls hl => ?_)
      refine lv_goto (tgt := 5) hx hb dJ7_fill_53178_17 (by decide) ?_
      obtain ⟨h_4, hw⟩ := hw
      exact ih x1 (x2 + 1) x3 h1 h_4 h3 _ _ _ _ hw I (lv_sub hl [1, 2, 0, 3] rfl)
set_option maxRecDepth 100000 in
set_option maxHeartbeats 4000000 in
theorem mJ7_fill_53178 (l : Launch) (g : GP) (r0 : Int) (a1 : Int) (ha1 : inR a1) (M : Mem) (post : Mem → Prop) (sz : Nat) (hw : wpJ7_fill_53178 r0 a1 M post) : MVX l yJ7_fill_53178 wtJ7_fill_53178 rmJ7_fill_53178 g [.ref (g.2.2.2 r0), .int (i32 a1)] M sz post := by
  refine Met.ofW (cc := cJ7_fill_53178) (maxL := 4) (ret := none) (by decide) rfl ?_
  intro p e s m args below meth c s₁ B hml hv
  obtain ⟨rfl, hpre⟩ := hv
  have hsz := hpre.1
  subst hsz
  have C : Cx p m c cJ7_fill_53178 4 s _ lw_g RJ7 meth none := ⟨⟨B.exec, B.bytes, hml, findClass_of_methodNamed B.named, fun w h => atoms_spec (ws := wtJ7_fill_53178) B.pre w (List.mem_cons_of_mem _ h)⟩, B.returns, B.notSynchronized⟩
  obtain ⟨⟨hx, hb, hml, hown, hts⟩, hr, hlk⟩ := id C
  have I := InG.start hpre
  have hl := lv_entry ([.ref (g.2.2.2 r0), .int (i32 a1)]) (n := 4) (Nat.le_of_ble_eq_true rfl)
  rw [lg_entry_eq]
  generalize (lg_sl ([.ref (g.2.2.2 r0), .int (i32 a1)]) ++ List.replicate (4 - (lg_sl ([.ref (g.2.2.2 r0), .int (i32 a1)])).length) Slot.unset).toArray = ls at hl ⊢
  have hl : lv_has ls 4 [(0, .ref (g.2.2.2 r0)), (1, .int (i32 a1))] := hl
  show W p l e rmJ7_fill_53178 s m _ below meth c s.heap [] 0 0 (QVX below _ s g post) _
  refine li_iconst hx hb dJ7_fill_53178_0 ?_
  refine lv_istore_n (lv' := [(2, .int (i32 0)), (0, .ref (g.2.2.2 r0)), (1, .int (i32 a1))]) hx hb dJ7_fill_53178_1 rfl hl (by decide) rfl (fun ls hl => ?_)
  refine lv_aload_n hx hb dJ7_fill_53178_2 rfl (lv_at hl 1 rfl) ?_
  obtain ⟨h_1, hw⟩ := hw
  refine x_alen hx hb I r0 h_1 dJ7_fill_53178_3 ?_
  refine li_name (fun v4_1 ev4_1 => ?_)
  replace hw := hw v4_1 ev4_1
  have hv4_1 : inR v4_1 := ev4_1 ▸ (lenX_R r0)
  refine lv_istore_n (lv' := [(3, .int (i32 v4_1)), (2, .int (i32 0)), (0, .ref (g.2.2.2 r0)), (1, .int (i32 a1))]) hx hb dJ7_fill_53178_4 rfl hl (by decide) rfl (fun ls hl => ?_)
  obtain ⟨n1, hw⟩ := hw
  exact bJ7_fill_53178_5 r0 C post n1 a1 0 v4_1 ha1 (by decide) hv4_1 _ _ _ _ hw I (lv_sub hl [2, 3, 1, 0] rfl)
abbrev rmX1_wipe : Room := { frames := 1, cells := 0, slots := 0, locals := 23 }
abbrev wtX1_wipe : List Cond := Cond.code yX1_wipe cX1_wipe 2 none :: lw_g
set_option maxRecDepth 100000 in
set_option maxHeartbeats 4000000 in
theorem bX1_wipe_2 {p : Program} {l : Launch} {e : Env} {s : State} {m : MethodId} {args : Array Value} {below : List Frame} {meth : Method} {c : Code} {g : GP} (C : Cx p m c cX1_wipe 2 s args lw_g RX1 meth none) (post : Mem → Prop) : ∀ (n : Nat), ∀ (x1 : Int), inR x1 → ∀ (M : Mem) (H : Heap) (locs : List Loc) (ls : Array Slot), lpX1_wipe_2 post n x1 M → IX g s M H locs → lv_has ls 2 [(0, .ref (g.2.2.2 4)), (1, .int (i32 x1))] → W p l e rmX1_wipe s m args below meth c H locs 0 0 (QVX below args s g post) (F0 m 2 ls []) := by
  obtain ⟨⟨hx, hb, hml, hown, hts⟩, hr, hlk⟩ := id C
  intro n
  induction n with
  | zero =>
    intro x1 h1 M H locs ls hw
    exact hw.elim
  | succ n ih =>
    intro x1 h1 M H locs ls hw I hl
    refine lv_iload_n hx hb dX1_wipe_2 rfl (lv_at hl 1 rfl) ?_
    refine lv_bipush (v := i32 10) hx hb dX1_wipe_3 (by decide) ?_
    refine li_icmp_ge (tgt := 24) hx hb dX1_wipe_5 (by decide) h1 (by decide) (fun c_1 => ?_) (fun c_1 => ?_)
    · replace hw := hw.1 c_1
      exact g_vret hx hb hr hlk I hw dX1_wipe_24
    · replace hw := hw.2 c_1
      refine lv_aload_n hx hb dX1_wipe_8 rfl (lv_at hl 0 rfl) ?_
      refine xg_4_0 hx hb hts wu_X1 hown I wf_X1_11 dX1_wipe_9 ?_
      refine lv_iload_n hx hb dX1_wipe_12 rfl (lv_at hl 1 rfl) ?_
      obtain ⟨h_2, hw⟩ := hw
      refine x_aald_13 hx hb I h_2 dX1_wipe_13 ?_
      refine li_iconst hx hb dX1_wipe_14 ?_
      refine g_callSv (As := [.ref (g.2.2.2 (60 + x1)), .int (i32 0)]) (rest := []) ⟨hx, hb, hml, hown, hts⟩ I (mJ7_fill_53178 l g (60 + x1) 0 (by decide) M _ _ hw) (va_cwS 2 hts (gd_S wm_X1_16 wa_J7_fill_53178 wn_J7 wc_J7_fill_53178) rfl rfl rfl wd_J7_fill_53178 ⟨Nat.le_of_ble_eq_true rfl, Nat.le_of_ble_eq_true rfl⟩) rfl hl.1 rfl (Nat.le_of_ble_eq_true rfl) dX1_wipe_15 ⟨Nat.zero_le _, Nat.zero_le _⟩ (fun M15_2 H locs hw I => ?_)
      refine li_iinc (lv' := [(1, .int (i32 (x1 + 1))), (0, .ref (g.2.2.2 4))]) hx hb dX1_wipe_18 hl (k := 1) rfl (by decide) rfl (fun ls hl => ?_)
      refine lv_goto (tgt := 2) hx hb dX1_wipe_21 (by decide) ?_
      obtain ⟨h_4, hw⟩ := hw
      exact ih (x1 + 1) h_4 _ _ _ _ hw I (lv_sub hl [1, 0] rfl)
set_option maxRecDepth 100000 in
set_option maxHeartbeats 4000000 in
theorem mX1_wipe (l : Launch) (g : GP) (M : Mem) (post : Mem → Prop) (sz : Nat) (hw : wpX1_wipe M post) : MVX l yX1_wipe wtX1_wipe rmX1_wipe g [.ref (g.2.2.2 4)] M sz post := by
  refine Met.ofW (cc := cX1_wipe) (maxL := 2) (ret := none) (by decide) rfl ?_
  intro p e s m args below meth c s₁ B hml hv
  obtain ⟨rfl, hpre⟩ := hv
  have hsz := hpre.1
  subst hsz
  have C : Cx p m c cX1_wipe 2 s _ lw_g RX1 meth none := ⟨⟨B.exec, B.bytes, hml, findClass_of_methodNamed B.named, fun w h => atoms_spec (ws := wtX1_wipe) B.pre w (List.mem_cons_of_mem _ h)⟩, B.returns, B.notSynchronized⟩
  obtain ⟨⟨hx, hb, hml, hown, hts⟩, hr, hlk⟩ := id C
  have I := InG.start hpre
  have hl := lv_entry ([.ref (g.2.2.2 4)]) (n := 2) (Nat.le_of_ble_eq_true rfl)
  rw [lg_entry_eq]
  generalize (lg_sl ([.ref (g.2.2.2 4)]) ++ List.replicate (2 - (lg_sl ([.ref (g.2.2.2 4)])).length) Slot.unset).toArray = ls at hl ⊢
  have hl : lv_has ls 2 [(0, .ref (g.2.2.2 4))] := hl
  show W p l e rmX1_wipe s m _ below meth c s.heap [] 0 0 (QVX below _ s g post) _
  refine li_iconst hx hb dX1_wipe_0 ?_
  refine lv_istore_n (lv' := [(1, .int (i32 0)), (0, .ref (g.2.2.2 4))]) hx hb dX1_wipe_1 rfl hl (by decide) rfl (fun ls hl => ?_)
  obtain ⟨n1, hw⟩ := hw
  exact bX1_wipe_2 C post n1 0 (by decide) _ _ _ _ hw I (lv_sub hl [1, 0] rfl)
abbrev rmX1_wipePlace : Room := { frames := 0, cells := 0, slots := 0, locals := 0 }
abbrev wtX1_wipePlace : List Cond := Cond.code yX1_wipePlace cX1_wipePlace 3 none :: lw_g
set_option maxRecDepth 100000 in
set_option maxHeartbeats 4000000 in
theorem bX1_wipePlace_2 {p : Program} {l : Launch} {e : Env} {s : State} {m : MethodId} {args : Array Value} {below : List Frame} {meth : Method} {c : Code} {g : GP} (C : Cx p m c cX1_wipePlace 3 s args lw_g RX1 meth none) (post : Mem → Prop) : ∀ (n : Nat), ∀ (x1 x2 : Int), inR x1 → inR x2 → ∀ (M : Mem) (H : Heap) (locs : List Loc) (ls : Array Slot), lpX1_wipePlace_2 post n x1 x2 M → IX g s M H locs → lv_has ls 3 [(0, .ref (g.2.2.2 4)), (1, .int (i32 x1)), (2, .int (i32 x2))] → W p l e rmX1_wipePlace s m args below meth c H locs 0 0 (QVX below args s g post) (F0 m 2 ls []) := by
  obtain ⟨⟨hx, hb, hml, hown, hts⟩, hr, hlk⟩ := id C
  intro n
  induction n with
  | zero =>
    intro x1 x2 h1 h2 M H locs ls hw
    exact hw.elim
  | succ n ih =>
    intro x1 x2 h1 h2 M H locs ls hw I hl
    refine lv_iload_n hx hb dX1_wipePlace_2 rfl (lv_at hl 2 rfl) ?_
    refine lv_bipush (v := i32 10) hx hb dX1_wipePlace_3 (by decide) ?_
    refine li_icmp_ge (tgt := 32) hx hb dX1_wipePlace_5 (by decide) h2 (by decide) (fun c_1 => ?_) (fun c_1 => ?_)
    · replace hw := hw.1 c_1
      exact g_vret hx hb hr hlk I hw dX1_wipePlace_32
    · replace hw := hw.2 c_1
      refine lv_aload_n hx hb dX1_wipePlace_8 rfl (lv_at hl 0 rfl) ?_
      refine xg_4_0 hx hb hts wu_X1 hown I wf_X1_11 dX1_wipePlace_9 ?_
      refine lv_iload_n hx hb dX1_wipePlace_12 rfl (lv_at hl 1 rfl) ?_
      obtain ⟨h_2, hw⟩ := hw
      refine x_aald_13 hx hb I h_2 dX1_wipePlace_13 ?_
      refine lv_iload_n hx hb dX1_wipePlace_14 rfl (lv_at hl 2 rfl) ?_
      refine li_iconst hx hb dX1_wipePlace_15 ?_
      obtain ⟨h_3, hw⟩ := hw
      refine x_iast hx hb I (60 + x1) (lenX_60 h_2) h_3 (by decide) dX1_wipePlace_16 (fun H locs M16_3 eM16_3 I => ?_)
      replace hw := hw M16_3 eM16_3
      refine lv_aload_n hx hb dX1_wipePlace_17 rfl (lv_at hl 0 rfl) ?_
      refine xg_4_0 hx hb hts wu_X1 hown I wf_X1_11 dX1_wipePlace_18 ?_
      refine lv_iload_n hx hb dX1_wipePlace_21 rfl (lv_at hl 2 rfl) ?_
      obtain ⟨h_5, hw⟩ := hw
      refine x_aald_13 hx hb I h_5 dX1_wipePlace_22 ?_
      refine lv_iload_n hx hb dX1_wipePlace_23 rfl (lv_at hl 1 rfl) ?_
      refine li_iconst hx hb dX1_wipePlace_24 ?_
      obtain ⟨h_6, hw⟩ := hw
      refine x_iast hx hb I (60 + x2) (lenX_60 h_5) h_6 (by decide) dX1_wipePlace_25 (fun H locs M25_6 eM25_6 I => ?_)
      replace hw := hw M25_6 eM25_6
      refine li_iinc (lv' := [(2, .int (i32 (x2 + 1))), (0, .ref (g.2.2.2 4)), (1, .int (i32 x1))]) hx hb dX1_wipePlace_26 hl (k := 2) rfl (by decide) rfl (fun ls hl => ?_)
      refine lv_goto (tgt := 2) hx hb dX1_wipePlace_29 (by decide) ?_
      obtain ⟨h_8, hw⟩ := hw
      exact ih x1 (x2 + 1) h1 h_8 _ _ _ _ hw I (lv_sub hl [1, 2, 0] rfl)
set_option maxRecDepth 100000 in
set_option maxHeartbeats 4000000 in
theorem mX1_wipePlace (l : Launch) (g : GP) (a1 : Int) (ha1 : inR a1) (M : Mem) (post : Mem → Prop) (sz : Nat) (hw : wpX1_wipePlace a1 M post) : MVX l yX1_wipePlace wtX1_wipePlace rmX1_wipePlace g [.ref (g.2.2.2 4), .int (i32 a1)] M sz post := by
  refine Met.ofW (cc := cX1_wipePlace) (maxL := 3) (ret := none) (by decide) rfl ?_
  intro p e s m args below meth c s₁ B hml hv
  obtain ⟨rfl, hpre⟩ := hv
  have hsz := hpre.1
  subst hsz
  have C : Cx p m c cX1_wipePlace 3 s _ lw_g RX1 meth none := ⟨⟨B.exec, B.bytes, hml, findClass_of_methodNamed B.named, fun w h => atoms_spec (ws := wtX1_wipePlace) B.pre w (List.mem_cons_of_mem _ h)⟩, B.returns, B.notSynchronized⟩
  obtain ⟨⟨hx, hb, hml, hown, hts⟩, hr, hlk⟩ := id C
  have I := InG.start hpre
  have hl := lv_entry ([.ref (g.2.2.2 4), .int (i32 a1)]) (n := 3) (Nat.le_of_ble_eq_true rfl)
  rw [lg_entry_eq]
  generalize (lg_sl ([.ref (g.2.2.2 4), .int (i32 a1)]) ++ List.replicate (3 - (lg_sl ([.ref (g.2.2.2 4), .int (i32 a1)])).length) Slot.unset).toArray = ls at hl ⊢
  have hl : lv_has ls 3 [(0, .ref (g.2.2.2 4)), (1, .int (i32 a1))] := hl
  show W p l e rmX1_wipePlace s m _ below meth c s.heap [] 0 0 (QVX below _ s g post) _
  refine li_iconst hx hb dX1_wipePlace_0 ?_
  refine lv_istore_n (lv' := [(2, .int (i32 0)), (0, .ref (g.2.2.2 4)), (1, .int (i32 a1))]) hx hb dX1_wipePlace_1 rfl hl (by decide) rfl (fun ls hl => ?_)
  obtain ⟨n1, hw⟩ := hw
  exact bX1_wipePlace_2 C post n1 a1 0 ha1 (by decide) _ _ _ _ hw I (lv_sub hl [1, 2, 0] rfl)
abbrev rmX1_others : Room := { frames := 0, cells := 0, slots := 0, locals := 0 }
abbrev wtX1_others : List Cond := Cond.code yX1_others cX1_others 4 (some .int) :: lw_g
set_option maxRecDepth 100000 in
set_option maxHeartbeats 4000000 in
theorem bX1_others_32 {p : Program} {l : Launch} {e : Env} {s : State} {m : MethodId} {args : Array Value} {below : List Frame} {meth : Method} {c : Code} {g : GP} (C : Cx p m c cX1_others 4 s args lw_g RX1 meth (some .int)) (post : Int → Mem → Prop) (k4 : Int → Int → Mem → Prop) (k12 : Int → Int → Int → Mem → Prop) (hk4 : ∀ (x1 x2 : Int), inR x1 → inR x2 → ∀ (M : Mem) (H : Heap) (locs : List Loc) (ls : Array Slot), k4 x1 x2 M → IX g s M H locs → lv_has ls 4 [(0, .ref (g.2.2.2 4)), (1, .int (i32 x1)), (2, .int (i32 x2))] → W p l e rmX1_others s m args below meth c H locs 0 0 (QIX below args s g post) (F0 m 4 ls [])) (hk12 : ∀ (x1 x2 x3 : Int), inR x1 → inR x2 → inR x3 → ∀ (M : Mem) (H : Heap) (locs : List Loc) (ls : Array Slot), k12 x1 x2 x3 M → IX g s M H locs → lv_has ls 4 [(0, .ref (g.2.2.2 4)), (1, .int (i32 x1)), (2, .int (i32 x2)), (3, .int (i32 x3))] → W p l e rmX1_others s m args below meth c H locs 0 0 (QIX below args s g post) (F0 m 12 ls [])) : ∀ (x1 x2 x3 : Int), inR x1 → inR x2 → inR x3 → ∀ (M : Mem) (H : Heap) (locs : List Loc) (ls : Array Slot), jbX1_others_32 post k4 k12 x1 x2 x3 M → IX g s M H locs → lv_has ls 4 [(0, .ref (g.2.2.2 4)), (1, .int (i32 x1)), (2, .int (i32 x2)), (3, .int (i32 x3))] → W p l e rmX1_others s m args below meth c H locs 0 0 (QIX below args s g post) (F0 m 32 ls []) := by
  obtain ⟨⟨hx, hb, hml, hown, hts⟩, hr, hlk⟩ := id C
  intro x1 x2 x3 h1 h2 h3 M H locs ls hw I hl
  refine li_iinc (lv' := [(3, .int (i32 (x3 + 1))), (0, .ref (g.2.2.2 4)), (1, .int (i32 x1)), (2, .int (i32 x2))]) hx hb dX1_others_32 hl (k := 3) rfl (by decide) rfl (fun ls hl => ?_)
  refine lv_goto (tgt := 12) hx hb dX1_others_35 (by decide) ?_
  obtain ⟨h_1, hw⟩ := hw
  exact hk12 x1 x2 (x3 + 1) h1 h2 h_1 _ _ _ _ hw I (lv_sub hl [1, 2, 3, 0] rfl)
set_option maxRecDepth 100000 in
set_option maxHeartbeats 4000000 in
theorem bX1_others_12 {p : Program} {l : Launch} {e : Env} {s : State} {m : MethodId} {args : Array Value} {below : List Frame} {meth : Method} {c : Code} {g : GP} (C : Cx p m c cX1_others 4 s args lw_g RX1 meth (some .int)) (post : Int → Mem → Prop) (k4 : Int → Int → Mem → Prop) (hk4 : ∀ (x1 x2 : Int), inR x1 → inR x2 → ∀ (M : Mem) (H : Heap) (locs : List Loc) (ls : Array Slot), k4 x1 x2 M → IX g s M H locs → lv_has ls 4 [(0, .ref (g.2.2.2 4)), (1, .int (i32 x1)), (2, .int (i32 x2))] → W p l e rmX1_others s m args below meth c H locs 0 0 (QIX below args s g post) (F0 m 4 ls [])) : ∀ (n : Nat), ∀ (x1 x2 x3 : Int), inR x1 → inR x2 → inR x3 → ∀ (M : Mem) (H : Heap) (locs : List Loc) (ls : Array Slot), lpX1_others_12 post k4 n x1 x2 x3 M → IX g s M H locs → lv_has ls 4 [(0, .ref (g.2.2.2 4)), (1, .int (i32 x1)), (2, .int (i32 x2)), (3, .int (i32 x3))] → W p l e rmX1_others s m args below meth c H locs 0 0 (QIX below args s g post) (F0 m 12 ls []) := by
  obtain ⟨⟨hx, hb, hml, hown, hts⟩, hr, hlk⟩ := id C
  intro n
  induction n with
  | zero =>
    intro x1 x2 x3 h1 h2 h3 M H locs ls hw
    exact hw.elim
  | succ n ih =>
    intro x1 x2 x3 h1 h2 h3 M H locs ls hw I hl
    refine lv_iload_n hx hb dX1_others_12 rfl (lv_at hl 3 rfl) ?_
    refine lv_bipush (v := i32 10) hx hb dX1_others_13 (by decide) ?_
    refine li_icmp_ge (tgt := 38) hx hb dX1_others_15 (by decide) h3 (by decide) (fun c_1 => ?_) (fun c_1 => ?_)
    · replace hw := hw.1 c_1
      refine li_iinc (lv' := [(2, .int (i32 (x2 + 1))), (0, .ref (g.2.2.2 4)), (1, .int (i32 x1)), (3, .int (i32 x3))]) hx hb dX1_others_38 hl (k := 2) rfl (by decide) rfl (fun ls hl => ?_)
      refine lv_goto (tgt := 4) hx hb dX1_others_41 (by decide) ?_
      obtain ⟨h_2, hw⟩ := hw
      exact hk4 x1 (x2 + 1) h1 h_2 _ _ _ _ hw I (lv_sub hl [1, 2, 0] rfl)
    · replace hw := hw.2 c_1
      refine lv_aload_n hx hb dX1_others_18 rfl (lv_at hl 0 rfl) ?_
      refine xg_4_0 hx hb hts wu_X1 hown I wf_X1_11 dX1_others_19 ?_
      refine lv_iload_n hx hb dX1_others_22 rfl (lv_at hl 2 rfl) ?_
      obtain ⟨h_3, hw⟩ := hw
      refine x_aald_13 hx hb I h_3 dX1_others_23 ?_
      refine lv_iload_n hx hb dX1_others_24 rfl (lv_at hl 3 rfl) ?_
      obtain ⟨h_4, hw⟩ := hw
      refine x_iald hx hb I (60 + x2) (lenX_60 h_3) h_4 dX1_others_25 ?_
      have h_5 := I.rng (60 + x2) x3
      refine li_if_eq (tgt := 32) hx hb dX1_others_26 (by decide) h_5 (fun c_6 => ?_) (fun c_6 => ?_)
      · replace hw := hw.1 c_6
        exact bX1_others_32 C post k4 (fun y1 y2 y3 N => lpX1_others_12 post k4 n y1 y2 y3 N) hk4 ih x1 x2 x3 h1 h2 h3 _ _ _ _ hw I (lv_sub hl [0, 1, 2, 3] rfl)
      · replace hw := hw.2 c_6
        refine li_iinc (lv' := [(1, .int (i32 (x1 + 1))), (0, .ref (g.2.2.2 4)), (2, .int (i32 x2)), (3, .int (i32 x3))]) hx hb dX1_others_29 hl (k := 1) rfl (by decide) rfl (fun ls hl => ?_)
        obtain ⟨h_7, hw⟩ := hw
        exact bX1_others_32 C post k4 (fun y1 y2 y3 N => lpX1_others_12 post k4 n y1 y2 y3 N) hk4 ih (x1 + 1) x2 x3 h_7 h2 h3 _ _ _ _ hw I (lv_sub hl [1, 0, 2, 3] rfl)
set_option maxRecDepth 100000 in
set_option maxHeartbeats 4000000 in
theorem bX1_others_4 {p : Program} {l : Launch} {e : Env} {s : State} {m : MethodId} {args : Array Value} {below : List Frame} {meth : Method} {c : Code} {g : GP} (C : Cx p m c cX1_others 4 s args lw_g RX1 meth (some .int)) (post : Int → Mem → Prop) : ∀ (n : Nat), ∀ (x1 x2 : Int), inR x1 → inR x2 → ∀ (M : Mem) (H : Heap) (locs : List Loc) (ls : Array Slot), lpX1_others_4 post n x1 x2 M → IX g s M H locs → lv_has ls 4 [(0, .ref (g.2.2.2 4)), (1, .int (i32 x1)), (2, .int (i32 x2))] → W p l e rmX1_others s m args below meth c H locs 0 0 (QIX below args s g post) (F0 m 4 ls []) := by
  obtain ⟨⟨hx, hb, hml, hown, hts⟩, hr, hlk⟩ := id C
  intro n
  induction n with
  | zero =>
    intro x1 x2 h1 h2 M H locs ls hw
    exact hw.elim
  | succ n ih =>
    intro x1 x2 h1 h2 M H locs ls hw I hl
    refine lv_iload_n hx hb dX1_others_4 rfl (lv_at hl 2 rfl) ?_
    refine lv_bipush (v := i32 10) hx hb dX1_others_5 (by decide) ?_
    refine li_icmp_ge (tgt := 44) hx hb dX1_others_7 (by decide) h2 (by decide) (fun c_1 => ?_) (fun c_1 => ?_)
    · replace hw := hw.1 c_1
      refine lv_iload_n hx hb dX1_others_44 rfl (lv_at hl 1 rfl) ?_
      exact g_iret hx hb hr hlk I h1 hw dX1_others_45
    · replace hw := hw.2 c_1
      refine li_iconst hx hb dX1_others_10 ?_
      refine lv_istore_n (lv' := [(3, .int (i32 0)), (0, .ref (g.2.2.2 4)), (1, .int (i32 x1)), (2, .int (i32 x2))]) hx hb dX1_others_11 rfl hl (by decide) rfl (fun ls hl => ?_)
      obtain ⟨n1, hw⟩ := hw
      exact bX1_others_12 C post (fun y1 y2 N => lpX1_others_4 post n y1 y2 N) ih n1 x1 x2 0 h1 h2 (by decide) _ _ _ _ hw I (lv_sub hl [1, 2, 3, 0] rfl)
set_option maxRecDepth 100000 in
set_option maxHeartbeats 4000000 in
theorem mX1_others (l : Launch) (g : GP) (M : Mem) (post : Int → Mem → Prop) (sz : Nat) (hw : wpX1_others M post) : MIX l yX1_others wtX1_others rmX1_others g [.ref (g.2.2.2 4)] M sz post := by
  refine Met.ofW (cc := cX1_others) (maxL := 4) (ret := (some .int)) (by decide) rfl ?_
  intro p e s m args below meth c s₁ B hml hv
  obtain ⟨rfl, hpre⟩ := hv
  have hsz := hpre.1
  subst hsz
  have C : Cx p m c cX1_others 4 s _ lw_g RX1 meth (some .int) := ⟨⟨B.exec, B.bytes, hml, findClass_of_methodNamed B.named, fun w h => atoms_spec (ws := wtX1_others) B.pre w (List.mem_cons_of_mem _ h)⟩, B.returns, B.notSynchronized⟩
  obtain ⟨⟨hx, hb, hml, hown, hts⟩, hr, hlk⟩ := id C
  have I := InG.start hpre
  have hl := lv_entry ([.ref (g.2.2.2 4)]) (n := 4) (Nat.le_of_ble_eq_true rfl)
  rw [lg_entry_eq]
  generalize (lg_sl ([.ref (g.2.2.2 4)]) ++ List.replicate (4 - (lg_sl ([.ref (g.2.2.2 4)])).length) Slot.unset).toArray = ls at hl ⊢
  have hl : lv_has ls 4 [(0, .ref (g.2.2.2 4))] := hl
  show W p l e rmX1_others s m _ below meth c s.heap [] 0 0 (QIX below _ s g post) _
  refine li_iconst hx hb dX1_others_0 ?_
  refine lv_istore_n (lv' := [(1, .int (i32 0)), (0, .ref (g.2.2.2 4))]) hx hb dX1_others_1 rfl hl (by decide) rfl (fun ls hl => ?_)
  refine li_iconst hx hb dX1_others_2 ?_
  refine lv_istore_n (lv' := [(2, .int (i32 0)), (1, .int (i32 0)), (0, .ref (g.2.2.2 4))]) hx hb dX1_others_3 rfl hl (by decide) rfl (fun ls hl => ?_)
  obtain ⟨n1, hw⟩ := hw
  exact bX1_others_4 C post n1 0 0 (by decide) (by decide) _ _ _ _ hw I (lv_sub hl [2, 1, 0] rfl)
abbrev rmX1_firstWrongFrom : Room := { frames := 0, cells := 0, slots := 0, locals := 0 }
abbrev wtX1_firstWrongFrom : List Cond := Cond.code yX1_firstWrongFrom cX1_firstWrongFrom 6 (some .int) :: lw_g
set_option maxRecDepth 100000 in
set_option maxHeartbeats 4000000 in
theorem bX1_firstWrongFrom_13 {p : Program} {l : Launch} {e : Env} {s : State} {m : MethodId} {args : Array Value} {below : List Frame} {meth : Method} {c : Code} {g : GP} (r2 : Int) (C : Cx p m c cX1_firstWrongFrom 6 s args lw_g RX1 meth (some .int)) (post : Int → Mem → Prop) (k2 : Int → Int → Mem → Prop) (hk2 : ∀ (x1 x3 : Int), inR x1 → inR x3 → ∀ (M : Mem) (H : Heap) (locs : List Loc) (ls : Array Slot), k2 x1 x3 M → IX g s M H locs → lv_has ls 6 [(0, .ref (g.2.2.2 4)), (2, .ref (g.2.2.2 r2)), (1, .int (i32 x1)), (3, .int (i32 x3))] → W p l e rmX1_firstWrongFrom s m args below meth c H locs 0 0 (QIX below args s g post) (F0 m 2 ls [])) : ∀ (n : Nat), ∀ (x1 x3 x4 x5 : Int), inR x1 → inR x3 → inR x4 → inR x5 → ∀ (M : Mem) (H : Heap) (locs : List Loc) (ls : Array Slot), lpX1_firstWrongFrom_13 r2 post k2 n x1 x3 x4 x5 M → IX g s M H locs → lv_has ls 6 [(0, .ref (g.2.2.2 4)), (2, .ref (g.2.2.2 r2)), (1, .int (i32 x1)), (3, .int (i32 x3)), (4, .int (i32 x4)), (5, .int (i32 x5))] → W p l e rmX1_firstWrongFrom s m args below meth c H locs 0 0 (QIX below args s g post) (F0 m 13 ls []) := by
  obtain ⟨⟨hx, hb, hml, hown, hts⟩, hr, hlk⟩ := id C
  intro n
  induction n with
  | zero =>
    intro x1 x3 x4 x5 h1 h3 h4 h5 M H locs ls hw
    exact hw.elim
  | succ n ih =>
    intro x1 x3 x4 x5 h1 h3 h4 h5 M H locs ls hw I hl
    refine lv_iload hx hb dX1_firstWrongFrom_13 (lv_at hl 5 rfl) ?_
    refine lv_iload_n hx hb dX1_firstWrongFrom_15 rfl (lv_at hl 2 rfl) ?_
    refine li_icmp_ge (tgt := 39) hx hb dX1_firstWrongFrom_16 (by decide) h5 h1 (fun c_1 => ?_) (fun c_1 => ?_)
    · replace hw := hw.1 c_1
      refine lv_iload hx hb dX1_firstWrongFrom_39 (lv_at hl 4 rfl) ?_
      refine lv_aload_n hx hb dX1_firstWrongFrom_41 rfl (lv_at hl 1 rfl) ?_
      refine lv_iload_n hx hb dX1_firstWrongFrom_42 rfl (lv_at hl 3 rfl) ?_
      obtain ⟨h_2, hw⟩ := hw
      refine x_iald hx hb I r2 rfl h_2 dX1_firstWrongFrom_43 ?_
      have h_3 := I.rng r2 x3
      refine li_icmp_eq (tgt := 49) hx hb dX1_firstWrongFrom_44 (by decide) h4 h_3 (fun c_4 => ?_) (fun c_4 => ?_)
      · replace hw := hw.1 c_4
        refine li_iinc (lv' := [(3, .int (i32 (x3 + 1))), (0, .ref (g.2.2.2 4)), (2, .ref (g.2.2.2 r2)), (1, .int (i32 x1)), (4, .int (i32 x4)), (5, .int (i32 x5))]) hx hb dX1_firstWrongFrom_49 hl (k := 3) rfl (by decide) rfl (fun ls hl => ?_)
        refine lv_goto (tgt := 2) hx hb dX1_firstWrongFrom_52 (by decide) ?_
        obtain ⟨h_5, hw⟩ := hw
        exact hk2 x1 (x3 + 1) h1 h_5 _ _ _ _ hw I (lv_sub hl [1, 2, 3, 0] rfl)
      · replace hw := hw.2 c_4
        refine lv_iload_n hx hb dX1_firstWrongFrom_47 rfl (lv_at hl 3 rfl) ?_
        exact g_iret hx hb hr hlk I h3 hw dX1_firstWrongFrom_48
    · replace hw := hw.2 c_1
      refine lv_iload hx hb dX1_firstWrongFrom_19 (lv_at hl 4 rfl) ?_
      refine lv_aload_n hx hb dX1_firstWrongFrom_21 rfl (lv_at hl 0 rfl) ?_
      refine xg_4_0 hx hb hts wu_X1 hown I wf_X1_11 dX1_firstWrongFrom_22 ?_
      refine lv_iload_n hx hb dX1_firstWrongFrom_25 rfl (lv_at hl 3 rfl) ?_
      obtain ⟨h_6, hw⟩ := hw
      refine x_aald_13 hx hb I h_6 dX1_firstWrongFrom_26 ?_
      refine lv_iload hx hb dX1_firstWrongFrom_27 (lv_at hl 5 rfl) ?_
      obtain ⟨h_7, hw⟩ := hw
      refine x_iald hx hb I (60 + x3) (lenX_60 h_6) h_7 dX1_firstWrongFrom_29 ?_
      have h_8 := I.rng (60 + x3) x5
      refine li_iadd hx hb dX1_firstWrongFrom_30 ?_
      obtain ⟨h_9, hw⟩ := hw
      refine li_name (fun v31_9 ev31_9 => ?_)
      replace hw := hw v31_9 ev31_9
      have hv31_9 : inR v31_9 := ev31_9 ▸ h_9
      refine lv_istore (lv' := [(4, .int (i32 v31_9)), (0, .ref (g.2.2.2 4)), (2, .ref (g.2.2.2 r2)), (1, .int (i32 x1)), (3, .int (i32 x3)), (5, .int (i32 x5))]) hx hb dX1_firstWrongFrom_31 hl (by decide) rfl (fun ls hl => ?_)
      refine li_iinc (lv' := [(5, .int (i32 (x5 + 1))), (4, .int (i32 v31_9)), (0, .ref (g.2.2.2 4)), (2, .ref (g.2.2.2 r2)), (1, .int (i32 x1)), (3, .int (i32 x3))]) hx hb dX1_firstWrongFrom_33 hl (k := 5) rfl (by decide) rfl (fun ls hl => ?_)
      refine lv_goto (tgt := 13) hx hb dX1_firstWrongFrom_36 (by decide) ?_
      obtain ⟨h_11, hw⟩ := hw
      exact ih x1 x3 v31_9 (x5 + 1) h1 h3 hv31_9 h_11 _ _ _ _ hw I (lv_sub hl [2, 3, 4, 5, 1, 0] rfl)
set_option maxRecDepth 100000 in
set_option maxHeartbeats 4000000 in
theorem bX1_firstWrongFrom_2 {p : Program} {l : Launch} {e : Env} {s : State} {m : MethodId} {args : Array Value} {below : List Frame} {meth : Method} {c : Code} {g : GP} (r2 : Int) (C : Cx p m c cX1_firstWrongFrom 6 s args lw_g RX1 meth (some .int)) (post : Int → Mem → Prop) : ∀ (n : Nat), ∀ (x1 x3 : Int), inR x1 → inR x3 → ∀ (M : Mem) (H : Heap) (locs : List Loc) (ls : Array Slot), lpX1_firstWrongFrom_2 r2 post n x1 x3 M → IX g s M H locs → lv_has ls 6 [(0, .ref (g.2.2.2 4)), (2, .ref (g.2.2.2 r2)), (1, .int (i32 x1)), (3, .int (i32 x3))] → W p l e rmX1_firstWrongFrom s m args below meth c H locs 0 0 (QIX below args s g post) (F0 m 2 ls []) := by
  obtain ⟨⟨hx, hb, hml, hown, hts⟩, hr, hlk⟩ := id C
  intro n
  induction n with
  | zero =>
    intro x1 x3 h1 h3 M H locs ls hw
    exact hw.elim
  | succ n ih =>
    intro x1 x3 h1 h3 M H locs ls hw I hl
    refine lv_iload_n hx hb dX1_firstWrongFrom_2 rfl (lv_at hl 3 rfl) ?_
    refine lv_iload_n hx hb dX1_firstWrongFrom_3 rfl (lv_at hl 2 rfl) ?_
    refine li_icmp_ge (tgt := 55) hx hb dX1_firstWrongFrom_4 (by decide) h3 h1 (fun c_1 => ?_) (fun c_1 => ?_)
    · replace hw := hw.1 c_1
      refine li_iconst hx hb dX1_firstWrongFrom_55 ?_
      exact g_iret hx hb hr hlk I (by decide) hw dX1_firstWrongFrom_56
    · replace hw := hw.2 c_1
      refine li_iconst hx hb dX1_firstWrongFrom_7 ?_
      refine lv_istore (lv' := [(4, .int (i32 0)), (0, .ref (g.2.2.2 4)), (2, .ref (g.2.2.2 r2)), (1, .int (i32 x1)), (3, .int (i32 x3))]) hx hb dX1_firstWrongFrom_8 hl (by decide) rfl (fun ls hl => ?_)
      refine li_iconst hx hb dX1_firstWrongFrom_10 ?_
      refine lv_istore (lv' := [(5, .int (i32 0)), (4, .int (i32 0)), (0, .ref (g.2.2.2 4)), (2, .ref (g.2.2.2 r2)), (1, .int (i32 x1)), (3, .int (i32 x3))]) hx hb dX1_firstWrongFrom_11 hl (by decide) rfl (fun ls hl => ?_)
      obtain ⟨n1, hw⟩ := hw
      exact bX1_firstWrongFrom_13 r2 C post (fun y1 y3 N => lpX1_firstWrongFrom_2 r2 post n y1 y3 N) ih n1 x1 x3 0 0 h1 h3 (by decide) (by decide) _ _ _ _ hw I (lv_sub hl [2, 3, 4, 5, 1, 0] rfl)
set_option maxRecDepth 100000 in
set_option maxHeartbeats 4000000 in
theorem mX1_firstWrongFrom (l : Launch) (g : GP) (r2 : Int) (a1 : Int) (ha1 : inR a1) (M : Mem) (post : Int → Mem → Prop) (sz : Nat) (hw : wpX1_firstWrongFrom r2 a1 M post) : MIX l yX1_firstWrongFrom wtX1_firstWrongFrom rmX1_firstWrongFrom g [.ref (g.2.2.2 4), .int (i32 a1), .ref (g.2.2.2 r2)] M sz post := by
  refine Met.ofW (cc := cX1_firstWrongFrom) (maxL := 6) (ret := (some .int)) (by decide) rfl ?_
  intro p e s m args below meth c s₁ B hml hv
  obtain ⟨rfl, hpre⟩ := hv
  have hsz := hpre.1
  subst hsz
  have C : Cx p m c cX1_firstWrongFrom 6 s _ lw_g RX1 meth (some .int) := ⟨⟨B.exec, B.bytes, hml, findClass_of_methodNamed B.named, fun w h => atoms_spec (ws := wtX1_firstWrongFrom) B.pre w (List.mem_cons_of_mem _ h)⟩, B.returns, B.notSynchronized⟩
  obtain ⟨⟨hx, hb, hml, hown, hts⟩, hr, hlk⟩ := id C
  have I := InG.start hpre
  have hl := lv_entry ([.ref (g.2.2.2 4), .int (i32 a1), .ref (g.2.2.2 r2)]) (n := 6) (Nat.le_of_ble_eq_true rfl)
  rw [lg_entry_eq]
  generalize (lg_sl ([.ref (g.2.2.2 4), .int (i32 a1), .ref (g.2.2.2 r2)]) ++ List.replicate (6 - (lg_sl ([.ref (g.2.2.2 4), .int (i32 a1), .ref (g.2.2.2 r2)])).length) Slot.unset).toArray = ls at hl ⊢
  have hl : lv_has ls 6 [(0, .ref (g.2.2.2 4)), (1, .int (i32 a1)), (2, .ref (g.2.2.2 r2))] := hl
  show W p l e rmX1_firstWrongFrom s m _ below meth c s.heap [] 0 0 (QIX below _ s g post) _
  refine li_iconst hx hb dX1_firstWrongFrom_0 ?_
  refine lv_istore_n (lv' := [(3, .int (i32 0)), (0, .ref (g.2.2.2 4)), (1, .int (i32 a1)), (2, .ref (g.2.2.2 r2))]) hx hb dX1_firstWrongFrom_1 rfl hl (by decide) rfl (fun ls hl => ?_)
  obtain ⟨n1, hw⟩ := hw
  exact bX1_firstWrongFrom_2 r2 C post n1 a1 0 ha1 (by decide) _ _ _ _ hw I (lv_sub hl [1, 3, 2, 0] rfl)
abbrev rmX1_firstWrongTo : Room := { frames := 0, cells := 0, slots := 0, locals := 0 }
abbrev wtX1_firstWrongTo : List Cond := Cond.code yX1_firstWrongTo cX1_firstWrongTo 6 (some .int) :: lw_g
set_option maxRecDepth 100000 in
set_option maxHeartbeats 4000000 in
theorem bX1_firstWrongTo_13 {p : Program} {l : Launch} {e : Env} {s : State} {m : MethodId} {args : Array Value} {below : List Frame} {meth : Method} {c : Code} {g : GP} (r2 : Int) (C : Cx p m c cX1_firstWrongTo 6 s args lw_g RX1 meth (some .int)) (post : Int → Mem → Prop) (k2 : Int → Int → Mem → Prop) (hk2 : ∀ (x1 x3 : Int), inR x1 → inR x3 → ∀ (M : Mem) (H : Heap) (locs : List Loc) (ls : Array Slot), k2 x1 x3 M → IX g s M H locs → lv_has ls 6 [(0, .ref (g.2.2.2 4)), (2, .ref (g.2.2.2 r2)), (1, .int (i32 x1)), (3, .int (i32 x3))] → W p l e rmX1_firstWrongTo s m args below meth c H locs 0 0 (QIX below args s g post) (F0 m 2 ls [])) : ∀ (n : Nat), ∀ (x1 x3 x4 x5 : Int), inR x1 → inR x3 → inR x4 → inR x5 → ∀ (M : Mem) (H : Heap) (locs : List Loc) (ls : Array Slot), lpX1_firstWrongTo_13 r2 post k2 n x1 x3 x4 x5 M → IX g s M H locs → lv_has ls 6 [(0, .ref (g.2.2.2 4)), (2, .ref (g.2.2.2 r2)), (1, .int (i32 x1)), (3, .int (i32 x3)), (4, .int (i32 x4)), (5, .int (i32 x5))] → W p l e rmX1_firstWrongTo s m args below meth c H locs 0 0 (QIX below args s g post) (F0 m 13 ls []) := by
  obtain ⟨⟨hx, hb, hml, hown, hts⟩, hr, hlk⟩ := id C
  intro n
  induction n with
  | zero =>
    intro x1 x3 x4 x5 h1 h3 h4 h5 M H locs ls hw
    exact hw.elim
  | succ n ih =>
    intro x1 x3 x4 x5 h1 h3 h4 h5 M H locs ls hw I hl
    refine lv_iload hx hb dX1_firstWrongTo_13 (lv_at hl 5 rfl) ?_
    refine lv_iload_n hx hb dX1_firstWrongTo_15 rfl (lv_at hl 2 rfl) ?_
    refine li_icmp_ge (tgt := 39) hx hb dX1_firstWrongTo_16 (by decide) h5 h1 (fun c_1 => ?_) (fun c_1 => ?_)
    · replace hw := hw.1 c_1
      refine lv_iload hx hb dX1_firstWrongTo_39 (lv_at hl 4 rfl) ?_
      refine lv_aload_n hx hb dX1_firstWrongTo_41 rfl (lv_at hl 1 rfl) ?_
      refine lv_iload_n hx hb dX1_firstWrongTo_42 rfl (lv_at hl 3 rfl) ?_
      obtain ⟨h_2, hw⟩ := hw
      refine x_iald hx hb I r2 rfl h_2 dX1_firstWrongTo_43 ?_
      have h_3 := I.rng r2 x3
      refine li_icmp_eq (tgt := 49) hx hb dX1_firstWrongTo_44 (by decide) h4 h_3 (fun c_4 => ?_) (fun c_4 => ?_)
      · replace hw := hw.1 c_4
        refine li_iinc (lv' := [(3, .int (i32 (x3 + 1))), (0, .ref (g.2.2.2 4)), (2, .ref (g.2.2.2 r2)), (1, .int (i32 x1)), (4, .int (i32 x4)), (5, .int (i32 x5))]) hx hb dX1_firstWrongTo_49 hl (k := 3) rfl (by decide) rfl (fun ls hl => ?_)
        refine lv_goto (tgt := 2) hx hb dX1_firstWrongTo_52 (by decide) ?_
        obtain ⟨h_5, hw⟩ := hw
        exact hk2 x1 (x3 + 1) h1 h_5 _ _ _ _ hw I (lv_sub hl [1, 2, 3, 0] rfl)
      · replace hw := hw.2 c_4
        refine lv_iload_n hx hb dX1_firstWrongTo_47 rfl (lv_at hl 3 rfl) ?_
        exact g_iret hx hb hr hlk I h3 hw dX1_firstWrongTo_48
    · replace hw := hw.2 c_1
      refine lv_iload hx hb dX1_firstWrongTo_19 (lv_at hl 4 rfl) ?_
      refine lv_aload_n hx hb dX1_firstWrongTo_21 rfl (lv_at hl 0 rfl) ?_
      refine xg_4_0 hx hb hts wu_X1 hown I wf_X1_11 dX1_firstWrongTo_22 ?_
      refine lv_iload hx hb dX1_firstWrongTo_25 (lv_at hl 5 rfl) ?_
      obtain ⟨h_6, hw⟩ := hw
      refine x_aald_13 hx hb I h_6 dX1_firstWrongTo_27 ?_
      refine lv_iload_n hx hb dX1_firstWrongTo_28 rfl (lv_at hl 3 rfl) ?_
      obtain ⟨h_7, hw⟩ := hw
      refine x_iald hx hb I (60 + x5) (lenX_60 h_6) h_7 dX1_firstWrongTo_29 ?_
      have h_8 := I.rng (60 + x5) x3
      refine li_iadd hx hb dX1_firstWrongTo_30 ?_
      obtain ⟨h_9, hw⟩ := hw
      refine li_name (fun v31_9 ev31_9 => ?_)
      replace hw := hw v31_9 ev31_9
      have hv31_9 : inR v31_9 := ev31_9 ▸ h_9
      refine lv_istore (lv' := [(4, .int (i32 v31_9)), (0, .ref (g.2.2.2 4)), (2, .ref (g.2.2.2 r2)), (1, .int (i32 x1)), (3, .int (i32 x3)), (5, .int (i32 x5))]) hx hb dX1_firstWrongTo_31 hl (by decide) rfl (fun ls hl => ?_)
      refine li_iinc (lv' := [(5, .int (i32 (x5 + 1))), (4, .int (i32 v31_9)), (0, .ref (g.2.2.2 4)), (2, .ref (g.2.2.2 r2)), (1, .int (i32 x1)), (3, .int (i32 x3))]) hx hb dX1_firstWrongTo_33 hl (k := 5) rfl (by decide) rfl (fun ls hl => ?_)
      refine lv_goto (tgt := 13) hx hb dX1_firstWrongTo_36 (by decide) ?_
      obtain ⟨h_11, hw⟩ := hw
      exact ih x1 x3 v31_9 (x5 + 1) h1 h3 hv31_9 h_11 _ _ _ _ hw I (lv_sub hl [2, 3, 4, 5, 1, 0] rfl)
set_option maxRecDepth 100000 in
set_option maxHeartbeats 4000000 in
theorem bX1_firstWrongTo_2 {p : Program} {l : Launch} {e : Env} {s : State} {m : MethodId} {args : Array Value} {below : List Frame} {meth : Method} {c : Code} {g : GP} (r2 : Int) (C : Cx p m c cX1_firstWrongTo 6 s args lw_g RX1 meth (some .int)) (post : Int → Mem → Prop) : ∀ (n : Nat), ∀ (x1 x3 : Int), inR x1 → inR x3 → ∀ (M : Mem) (H : Heap) (locs : List Loc) (ls : Array Slot), lpX1_firstWrongTo_2 r2 post n x1 x3 M → IX g s M H locs → lv_has ls 6 [(0, .ref (g.2.2.2 4)), (2, .ref (g.2.2.2 r2)), (1, .int (i32 x1)), (3, .int (i32 x3))] → W p l e rmX1_firstWrongTo s m args below meth c H locs 0 0 (QIX below args s g post) (F0 m 2 ls []) := by
  obtain ⟨⟨hx, hb, hml, hown, hts⟩, hr, hlk⟩ := id C
  intro n
  induction n with
  | zero =>
    intro x1 x3 h1 h3 M H locs ls hw
    exact hw.elim
  | succ n ih =>
    intro x1 x3 h1 h3 M H locs ls hw I hl
    refine lv_iload_n hx hb dX1_firstWrongTo_2 rfl (lv_at hl 3 rfl) ?_
    refine lv_iload_n hx hb dX1_firstWrongTo_3 rfl (lv_at hl 2 rfl) ?_
    refine li_icmp_ge (tgt := 55) hx hb dX1_firstWrongTo_4 (by decide) h3 h1 (fun c_1 => ?_) (fun c_1 => ?_)
    · replace hw := hw.1 c_1
      refine li_iconst hx hb dX1_firstWrongTo_55 ?_
      exact g_iret hx hb hr hlk I (by decide) hw dX1_firstWrongTo_56
    · replace hw := hw.2 c_1
      refine li_iconst hx hb dX1_firstWrongTo_7 ?_
      refine lv_istore (lv' := [(4, .int (i32 0)), (0, .ref (g.2.2.2 4)), (2, .ref (g.2.2.2 r2)), (1, .int (i32 x1)), (3, .int (i32 x3))]) hx hb dX1_firstWrongTo_8 hl (by decide) rfl (fun ls hl => ?_)
      refine li_iconst hx hb dX1_firstWrongTo_10 ?_
      refine lv_istore (lv' := [(5, .int (i32 0)), (4, .int (i32 0)), (0, .ref (g.2.2.2 4)), (2, .ref (g.2.2.2 r2)), (1, .int (i32 x1)), (3, .int (i32 x3))]) hx hb dX1_firstWrongTo_11 hl (by decide) rfl (fun ls hl => ?_)
      obtain ⟨n1, hw⟩ := hw
      exact bX1_firstWrongTo_13 r2 C post (fun y1 y3 N => lpX1_firstWrongTo_2 r2 post n y1 y3 N) ih n1 x1 x3 0 0 h1 h3 (by decide) (by decide) _ _ _ _ hw I (lv_sub hl [2, 3, 4, 5, 1, 0] rfl)
set_option maxRecDepth 100000 in
set_option maxHeartbeats 4000000 in
theorem mX1_firstWrongTo (l : Launch) (g : GP) (r2 : Int) (a1 : Int) (ha1 : inR a1) (M : Mem) (post : Int → Mem → Prop) (sz : Nat) (hw : wpX1_firstWrongTo r2 a1 M post) : MIX l yX1_firstWrongTo wtX1_firstWrongTo rmX1_firstWrongTo g [.ref (g.2.2.2 4), .int (i32 a1), .ref (g.2.2.2 r2)] M sz post := by
  refine Met.ofW (cc := cX1_firstWrongTo) (maxL := 6) (ret := (some .int)) (by decide) rfl ?_
  intro p e s m args below meth c s₁ B hml hv
  obtain ⟨rfl, hpre⟩ := hv
  have hsz := hpre.1
  subst hsz
  have C : Cx p m c cX1_firstWrongTo 6 s _ lw_g RX1 meth (some .int) := ⟨⟨B.exec, B.bytes, hml, findClass_of_methodNamed B.named, fun w h => atoms_spec (ws := wtX1_firstWrongTo) B.pre w (List.mem_cons_of_mem _ h)⟩, B.returns, B.notSynchronized⟩
  obtain ⟨⟨hx, hb, hml, hown, hts⟩, hr, hlk⟩ := id C
  have I := InG.start hpre
  have hl := lv_entry ([.ref (g.2.2.2 4), .int (i32 a1), .ref (g.2.2.2 r2)]) (n := 6) (Nat.le_of_ble_eq_true rfl)
  rw [lg_entry_eq]
  generalize (lg_sl ([.ref (g.2.2.2 4), .int (i32 a1), .ref (g.2.2.2 r2)]) ++ List.replicate (6 - (lg_sl ([.ref (g.2.2.2 4), .int (i32 a1), .ref (g.2.2.2 r2)])).length) Slot.unset).toArray = ls at hl ⊢
  have hl : lv_has ls 6 [(0, .ref (g.2.2.2 4)), (1, .int (i32 a1)), (2, .ref (g.2.2.2 r2))] := hl
  show W p l e rmX1_firstWrongTo s m _ below meth c s.heap [] 0 0 (QIX below _ s g post) _
  refine li_iconst hx hb dX1_firstWrongTo_0 ?_
  refine lv_istore_n (lv' := [(3, .int (i32 0)), (0, .ref (g.2.2.2 4)), (1, .int (i32 a1)), (2, .ref (g.2.2.2 r2))]) hx hb dX1_firstWrongTo_1 rfl hl (by decide) rfl (fun ls hl => ?_)
  obtain ⟨n1, hw⟩ := hw
  exact bX1_firstWrongTo_2 r2 C post n1 a1 0 ha1 (by decide) _ _ _ _ hw I (lv_sub hl [1, 3, 2, 0] rfl)
abbrev rmX1_cost : Room := { frames := 0, cells := 0, slots := 0, locals := 0 }
abbrev wtX1_cost : List Cond := Cond.code yX1_cost cX1_cost 5 (some .int) :: lw_g
set_option maxRecDepth 100000 in
set_option maxHeartbeats 4000000 in
theorem bX1_cost_15 {p : Program} {l : Launch} {e : Env} {s : State} {m : MethodId} {args : Array Value} {below : List Frame} {meth : Method} {c : Code} {g : GP} (C : Cx p m c cX1_cost 5 s args lw_g RX1 meth (some .int)) (post : Int → Mem → Prop) (k4 : Int → Int → Mem → Prop) (hk4 : ∀ (x2 x3 : Int), inR x2 → inR x3 → ∀ (M : Mem) (H : Heap) (locs : List Loc) (ls : Array Slot), k4 x2 x3 M → IX g s M H locs → lv_has ls 5 [(0, .ref (g.2.2.2 4)), (1, .ref (g.2.2.2 1)), (2, .int (i32 x2)), (3, .int (i32 x3))] → W p l e rmX1_cost s m args below meth c H locs 0 0 (QIX below args s g post) (F0 m 4 ls [])) : ∀ (n : Nat), ∀ (x2 x3 x4 : Int), inR x2 → inR x3 → inR x4 → ∀ (M : Mem) (H : Heap) (locs : List Loc) (ls : Array Slot), lpX1_cost_15 post k4 n x2 x3 x4 M → IX g s M H locs → lv_has ls 5 [(0, .ref (g.2.2.2 4)), (1, .ref (g.2.2.2 1)), (2, .int (i32 x2)), (3, .int (i32 x3)), (4, .int (i32 x4))] → W p l e rmX1_cost s m args below meth c H locs 0 0 (QIX below args s g post) (F0 m 15 ls []) := by
  obtain ⟨⟨hx, hb, hml, hown, hts⟩, hr, hlk⟩ := id C
  intro n
  induction n with
  | zero =>
    intro x2 x3 x4 h2 h3 h4 M H locs ls hw
    exact hw.elim
  | succ n ih =>
    intro x2 x3 x4 h2 h3 h4 M H locs ls hw I hl
    refine lv_iload hx hb dX1_cost_15 (lv_at hl 4 rfl) ?_
    refine lv_aload_n hx hb dX1_cost_17 rfl (lv_at hl 1 rfl) ?_
    refine xg_1_0 hx hb hts wu_X3 hown I wf_X1_22 dX1_cost_18 ?_
    have h_1 := I.rng 1 0
    refine li_icmp_ge (tgt := 52) hx hb dX1_cost_21 (by decide) h4 h_1 (fun c_2 => ?_) (fun c_2 => ?_)
    · replace hw := hw.1 c_2
      refine li_iinc (lv' := [(3, .int (i32 (x3 + 1))), (0, .ref (g.2.2.2 4)), (1, .ref (g.2.2.2 1)), (2, .int (i32 x2)), (4, .int (i32 x4))]) hx hb dX1_cost_52 hl (k := 3) rfl (by decide) rfl (fun ls hl => ?_)
      refine lv_goto (tgt := 4) hx hb dX1_cost_55 (by decide) ?_
      obtain ⟨h_3, hw⟩ := hw
      exact hk4 x2 (x3 + 1) h2 h_3 _ _ _ _ hw I (lv_sub hl [1, 2, 3, 0] rfl)
    · replace hw := hw.2 c_2
      refine lv_iload_n hx hb dX1_cost_24 rfl (lv_at hl 2 rfl) ?_
      refine lv_aload_n hx hb dX1_cost_25 rfl (lv_at hl 0 rfl) ?_
      refine xg_4_0 hx hb hts wu_X1 hown I wf_X1_11 dX1_cost_26 ?_
      refine lv_iload_n hx hb dX1_cost_29 rfl (lv_at hl 3 rfl) ?_
      obtain ⟨h_4, hw⟩ := hw
      refine x_aald_13 hx hb I h_4 dX1_cost_30 ?_
      refine lv_iload hx hb dX1_cost_31 (lv_at hl 4 rfl) ?_
      obtain ⟨h_5, hw⟩ := hw
      refine x_iald hx hb I (60 + x3) (lenX_60 h_4) h_5 dX1_cost_33 ?_
      have h_6 := I.rng (60 + x3) x4
      refine lv_aload_n hx hb dX1_cost_34 rfl (lv_at hl 1 rfl) ?_
      refine xg_1_7 hx hb hts wu_X3 hown I wf_X1_28 dX1_cost_35 ?_
      refine lv_iload_n hx hb dX1_cost_38 rfl (lv_at hl 3 rfl) ?_
      obtain ⟨h_7, hw⟩ := hw
      refine x_aald_11 hx hb I h_7 dX1_cost_39 ?_
      refine lv_iload hx hb dX1_cost_40 (lv_at hl 4 rfl) ?_
      obtain ⟨h_8, hw⟩ := hw
      refine x_iald hx hb I (50 + x3) (lenX_50 h_7) h_8 dX1_cost_42 ?_
      have h_9 := I.rng (50 + x3) x4
      refine li_imul hx hb dX1_cost_43 ?_
      refine li_iadd hx hb dX1_cost_44 ?_
      obtain ⟨h_10, hw⟩ := hw
      refine li_name (fun v45_10 ev45_10 => ?_)
      replace hw := hw v45_10 ev45_10
      have hv45_10 : inR v45_10 := ev45_10 ▸ h_10
      refine lv_istore_n (lv' := [(2, .int (i32 v45_10)), (0, .ref (g.2.2.2 4)), (1, .ref (g.2.2.2 1)), (3, .int (i32 x3)), (4, .int (i32 x4))]) hx hb dX1_cost_45 rfl hl (by decide) rfl (fun ls hl => ?_)
      refine li_iinc (lv' := [(4, .int (i32 (x4 + 1))), (2, .int (i32 v45_10)), (0, .ref (g.2.2.2 4)), (1, .ref (g.2.2.2 1)), (3, .int (i32 x3))]) hx hb dX1_cost_46 hl (k := 4) rfl (by decide) rfl (fun ls hl => ?_)
      refine lv_goto (tgt := 15) hx hb dX1_cost_49 (by decide) ?_
      obtain ⟨h_12, hw⟩ := hw
      exact ih v45_10 x3 (x4 + 1) hv45_10 h3 h_12 _ _ _ _ hw I (lv_sub hl [2, 3, 1, 4, 0] rfl)
set_option maxRecDepth 100000 in
set_option maxHeartbeats 4000000 in
theorem bX1_cost_4 {p : Program} {l : Launch} {e : Env} {s : State} {m : MethodId} {args : Array Value} {below : List Frame} {meth : Method} {c : Code} {g : GP} (C : Cx p m c cX1_cost 5 s args lw_g RX1 meth (some .int)) (post : Int → Mem → Prop) : ∀ (n : Nat), ∀ (x2 x3 : Int), inR x2 → inR x3 → ∀ (M : Mem) (H : Heap) (locs : List Loc) (ls : Array Slot), lpX1_cost_4 post n x2 x3 M → IX g s M H locs → lv_has ls 5 [(0, .ref (g.2.2.2 4)), (1, .ref (g.2.2.2 1)), (2, .int (i32 x2)), (3, .int (i32 x3))] → W p l e rmX1_cost s m args below meth c H locs 0 0 (QIX below args s g post) (F0 m 4 ls []) := by
  obtain ⟨⟨hx, hb, hml, hown, hts⟩, hr, hlk⟩ := id C
  intro n
  induction n with
  | zero =>
    intro x2 x3 h2 h3 M H locs ls hw
    exact hw.elim
  | succ n ih =>
    intro x2 x3 h2 h3 M H locs ls hw I hl
    refine lv_iload_n hx hb dX1_cost_4 rfl (lv_at hl 3 rfl) ?_
    refine lv_aload_n hx hb dX1_cost_5 rfl (lv_at hl 1 rfl) ?_
    refine xg_1_0 hx hb hts wu_X3 hown I wf_X1_22 dX1_cost_6 ?_
    have h_1 := I.rng 1 0
    refine li_icmp_ge (tgt := 58) hx hb dX1_cost_9 (by decide) h3 h_1 (fun c_2 => ?_) (fun c_2 => ?_)
    · replace hw := hw.1 c_2
      refine lv_iload_n hx hb dX1_cost_58 rfl (lv_at hl 2 rfl) ?_
      exact g_iret hx hb hr hlk I h2 hw dX1_cost_59
    · replace hw := hw.2 c_2
      refine li_iconst hx hb dX1_cost_12 ?_
      refine lv_istore (lv' := [(4, .int (i32 0)), (0, .ref (g.2.2.2 4)), (1, .ref (g.2.2.2 1)), (2, .int (i32 x2)), (3, .int (i32 x3))]) hx hb dX1_cost_13 hl (by decide) rfl (fun ls hl => ?_)
      obtain ⟨n1, hw⟩ := hw
      exact bX1_cost_15 C post (fun y2 y3 N => lpX1_cost_4 post n y2 y3 N) ih n1 x2 x3 0 h2 h3 (by decide) _ _ _ _ hw I (lv_sub hl [1, 2, 3, 4, 0] rfl)
set_option maxRecDepth 100000 in
set_option maxHeartbeats 4000000 in
theorem mX1_cost (l : Launch) (g : GP) (M : Mem) (post : Int → Mem → Prop) (sz : Nat) (hw : wpX1_cost M post) : MIX l yX1_cost wtX1_cost rmX1_cost g [.ref (g.2.2.2 4), .ref (g.2.2.2 1)] M sz post := by
  refine Met.ofW (cc := cX1_cost) (maxL := 5) (ret := (some .int)) (by decide) rfl ?_
  intro p e s m args below meth c s₁ B hml hv
  obtain ⟨rfl, hpre⟩ := hv
  have hsz := hpre.1
  subst hsz
  have C : Cx p m c cX1_cost 5 s _ lw_g RX1 meth (some .int) := ⟨⟨B.exec, B.bytes, hml, findClass_of_methodNamed B.named, fun w h => atoms_spec (ws := wtX1_cost) B.pre w (List.mem_cons_of_mem _ h)⟩, B.returns, B.notSynchronized⟩
  obtain ⟨⟨hx, hb, hml, hown, hts⟩, hr, hlk⟩ := id C
  have I := InG.start hpre
  have hl := lv_entry ([.ref (g.2.2.2 4), .ref (g.2.2.2 1)]) (n := 5) (Nat.le_of_ble_eq_true rfl)
  rw [lg_entry_eq]
  generalize (lg_sl ([.ref (g.2.2.2 4), .ref (g.2.2.2 1)]) ++ List.replicate (5 - (lg_sl ([.ref (g.2.2.2 4), .ref (g.2.2.2 1)])).length) Slot.unset).toArray = ls at hl ⊢
  have hl : lv_has ls 5 [(0, .ref (g.2.2.2 4)), (1, .ref (g.2.2.2 1))] := hl
  show W p l e rmX1_cost s m _ below meth c s.heap [] 0 0 (QIX below _ s g post) _
  refine li_iconst hx hb dX1_cost_0 ?_
  refine lv_istore_n (lv' := [(2, .int (i32 0)), (0, .ref (g.2.2.2 4)), (1, .ref (g.2.2.2 1))]) hx hb dX1_cost_1 rfl hl (by decide) rfl (fun ls hl => ?_)
  refine li_iconst hx hb dX1_cost_2 ?_
  refine lv_istore_n (lv' := [(3, .int (i32 0)), (2, .int (i32 0)), (0, .ref (g.2.2.2 4)), (1, .ref (g.2.2.2 1))]) hx hb dX1_cost_3 rfl hl (by decide) rfl (fun ls hl => ?_)
  obtain ⟨n1, hw⟩ := hw
  exact bX1_cost_4 C post n1 0 0 (by decide) (by decide) _ _ _ _ hw I (lv_sub hl [2, 3, 1, 0] rfl)
abbrev rmX2_has : Room := { frames := 0, cells := 0, slots := 0, locals := 0 }
abbrev wtX2_has : List Cond := Cond.code yX2_has cX2_has 2 (some .boolean) :: lw_g
set_option maxRecDepth 100000 in
set_option maxHeartbeats 4000000 in
theorem bX2_has_17 {p : Program} {l : Launch} {e : Env} {s : State} {m : MethodId} {args : Array Value} {below : List Frame} {meth : Method} {c : Code} {g : GP} (C : Cx p m c cX2_has 2 s args lw_g RX2 meth (some .boolean)) (post : Int → Mem → Prop) : ∀ (t0 : Int), inR t0 → ∀ (M : Mem) (H : Heap) (locs : List Loc) (ls : Array Slot), jbX2_has_17 post t0 M → IX g s M H locs → lv_has ls 2 [(0, .ref (g.2.2.2 2))] → W p l e rmX2_has s m args below meth c H locs 0 0 (QIX below args s g post) (F0 m 17 ls [.int (i32 t0)]) := by
  obtain ⟨⟨hx, hb, hml, hown, hts⟩, hr, hlk⟩ := id C
  intro t0 ht0 M H locs ls hw I hl
  obtain ⟨h_1, hw⟩ := hw
  exact g_zret hx hb hr hlk I h_1 hw dX2_has_17
set_option maxRecDepth 100000 in
set_option maxHeartbeats 4000000 in
theorem bX2_has_16 {p : Program} {l : Launch} {e : Env} {s : State} {m : MethodId} {args : Array Value} {below : List Frame} {meth : Method} {c : Code} {g : GP} (C : Cx p m c cX2_has 2 s args lw_g RX2 meth (some .boolean)) (post : Int → Mem → Prop) : ∀ (M : Mem) (H : Heap) (locs : List Loc) (ls : Array Slot), jbX2_has_16 post  M → IX g s M H locs → lv_has ls 2 [(0, .ref (g.2.2.2 2))] → W p l e rmX2_has s m args below meth c H locs 0 0 (QIX below args s g post) (F0 m 16 ls []) := by
  obtain ⟨⟨hx, hb, hml, hown, hts⟩, hr, hlk⟩ := id C
  intro M H locs ls hw I hl
  refine li_iconst hx hb dX2_has_16 ?_
  exact bX2_has_17 C post 0 (by decide) _ _ _ _ hw I (lv_sub hl [0] rfl)
set_option maxRecDepth 100000 in
set_option maxHeartbeats 4000000 in
theorem mX2_has (l : Launch) (g : GP) (a1 : Int) (ha1 : inR a1) (M : Mem) (post : Int → Mem → Prop) (sz : Nat) (hw : wpX2_has a1 M post) : MIX l yX2_has wtX2_has rmX2_has g [.ref (g.2.2.2 2), .int (i32 a1)] M sz post := by
  refine Met.ofW (cc := cX2_has) (maxL := 2) (ret := (some .boolean)) (by decide) rfl ?_
  intro p e s m args below meth c s₁ B hml hv
  obtain ⟨rfl, hpre⟩ := hv
  have hsz := hpre.1
  subst hsz
  have C : Cx p m c cX2_has 2 s _ lw_g RX2 meth (some .boolean) := ⟨⟨B.exec, B.bytes, hml, findClass_of_methodNamed B.named, fun w h => atoms_spec (ws := wtX2_has) B.pre w (List.mem_cons_of_mem _ h)⟩, B.returns, B.notSynchronized⟩
  obtain ⟨⟨hx, hb, hml, hown, hts⟩, hr, hlk⟩ := id C
  have I := InG.start hpre
  have hl := lv_entry ([.ref (g.2.2.2 2), .int (i32 a1)]) (n := 2) (Nat.le_of_ble_eq_true rfl)
  rw [lg_entry_eq]
  generalize (lg_sl ([.ref (g.2.2.2 2), .int (i32 a1)]) ++ List.replicate (2 - (lg_sl ([.ref (g.2.2.2 2), .int (i32 a1)])).length) Slot.unset).toArray = ls at hl ⊢
  have hl : lv_has ls 2 [(0, .ref (g.2.2.2 2)), (1, .int (i32 a1))] := hl
  show W p l e rmX2_has s m _ below meth c s.heap [] 0 0 (QIX below _ s g post) _
  refine lv_iload_n hx hb dX2_has_0 rfl (lv_at hl 1 rfl) ?_
  refine li_if_lt (tgt := 16) hx hb dX2_has_1 (by decide) ha1 (fun c_1 => ?_) (fun c_1 => ?_)
  · replace hw := hw.1 c_1
    exact bX2_has_16 C post _ _ _ _ hw I (lv_sub hl [0] rfl)
  · replace hw := hw.2 c_1
    refine lv_iload_n hx hb dX2_has_4 rfl (lv_at hl 1 rfl) ?_
    refine lv_aload_n hx hb dX2_has_5 rfl (lv_at hl 0 rfl) ?_
    refine xg_2_0 hx hb hts wu_X2 hown I wf_X2_16 dX2_has_6 ?_
    have h_2 := I.rng 2 0
    refine li_icmp_ge (tgt := 16) hx hb dX2_has_9 (by decide) ha1 h_2 (fun c_3 => ?_) (fun c_3 => ?_)
    · replace hw := hw.1 c_3
      exact bX2_has_16 C post _ _ _ _ hw I (lv_sub hl [0] rfl)
    · replace hw := hw.2 c_3
      refine li_iconst hx hb dX2_has_12 ?_
      refine lv_goto (tgt := 17) hx hb dX2_has_13 (by decide) ?_
      exact bX2_has_17 C post 1 (by decide) _ _ _ _ hw I (lv_sub hl [0] rfl)
abbrev rmX2_total : Room := { frames := 0, cells := 0, slots := 0, locals := 0 }
abbrev wtX2_total : List Cond := Cond.code yX2_total cX2_total 4 (some .int) :: lw_g
set_option maxRecDepth 100000 in
set_option maxHeartbeats 4000000 in
theorem bX2_total_4 {p : Program} {l : Launch} {e : Env} {s : State} {m : MethodId} {args : Array Value} {below : List Frame} {meth : Method} {c : Code} {g : GP} (C : Cx p m c cX2_total 4 s args lw_g RX2 meth (some .int)) (post : Int → Mem → Prop) : ∀ (n : Nat), ∀ (x1 x2 x3 : Int), inR x1 → inR x2 → inR x3 → ∀ (M : Mem) (H : Heap) (locs : List Loc) (ls : Array Slot), lpX2_total_4 post n x1 x2 x3 M → IX g s M H locs → lv_has ls 4 [(0, .ref (g.2.2.2 2)), (1, .int (i32 x1)), (2, .int (i32 x2)), (3, .int (i32 x3))] → W p l e rmX2_total s m args below meth c H locs 0 0 (QIX below args s g post) (F0 m 4 ls []) := by
  obtain ⟨⟨hx, hb, hml, hown, hts⟩, hr, hlk⟩ := id C
  intro n
  induction n with
  | zero =>
    intro x1 x2 x3 h1 h2 h3 M H locs ls hw
    exact hw.elim
  | succ n ih =>
    intro x1 x2 x3 h1 h2 h3 M H locs ls hw I hl
    refine lv_iload_n hx hb dX2_total_4 rfl (lv_at hl 3 rfl) ?_
    refine lv_bipush (v := i32 10) hx hb dX2_total_5 (by decide) ?_
    refine li_icmp_ge (tgt := 27) hx hb dX2_total_7 (by decide) h3 (by decide) (fun c_1 => ?_) (fun c_1 => ?_)
    · replace hw := hw.1 c_1
      refine lv_iload_n hx hb dX2_total_27 rfl (lv_at hl 2 rfl) ?_
      exact g_iret hx hb hr hlk I h2 hw dX2_total_28
    · replace hw := hw.2 c_1
      refine lv_iload_n hx hb dX2_total_10 rfl (lv_at hl 2 rfl) ?_
      refine lv_aload_n hx hb dX2_total_11 rfl (lv_at hl 0 rfl) ?_
      refine xg_2_1 hx hb hts wu_X2 hown I wf_X2_11 dX2_total_12 ?_
      refine lv_iload_n hx hb dX2_total_15 rfl (lv_at hl 1 rfl) ?_
      obtain ⟨h_2, hw⟩ := hw
      refine x_aald_12 hx hb I h_2 dX2_total_16 ?_
      refine lv_iload_n hx hb dX2_total_17 rfl (lv_at hl 3 rfl) ?_
      obtain ⟨h_3, hw⟩ := hw
      refine x_iald hx hb I (80 + x1) (lenX_80 h_2) h_3 dX2_total_18 ?_
      have h_4 := I.rng (80 + x1) x3
      refine li_iadd hx hb dX2_total_19 ?_
      obtain ⟨h_5, hw⟩ := hw
      refine li_name (fun v20_5 ev20_5 => ?_)
      replace hw := hw v20_5 ev20_5
      have hv20_5 : inR v20_5 := ev20_5 ▸ h_5
      refine lv_istore_n (lv' := [(2, .int (i32 v20_5)), (0, .ref (g.2.2.2 2)), (1, .int (i32 x1)), (3, .int (i32 x3))]) hx hb dX2_total_20 rfl hl (by decide) rfl (fun ls hl => ?_)
      refine li_iinc (lv' := [(3, .int (i32 (x3 + 1))), (2, .int (i32 v20_5)), (0, .ref (g.2.2.2 2)), (1, .int (i32 x1))]) hx hb dX2_total_21 hl (k := 3) rfl (by decide) rfl (fun ls hl => ?_)
      refine lv_goto (tgt := 4) hx hb dX2_total_24 (by decide) ?_
      obtain ⟨h_7, hw⟩ := hw
      exact ih x1 v20_5 (x3 + 1) h1 hv20_5 h_7 _ _ _ _ hw I (lv_sub hl [2, 3, 1, 0] rfl)
set_option maxRecDepth 100000 in
set_option maxHeartbeats 4000000 in
theorem mX2_total (l : Launch) (g : GP) (a1 : Int) (ha1 : inR a1) (M : Mem) (post : Int → Mem → Prop) (sz : Nat) (hw : wpX2_total a1 M post) : MIX l yX2_total wtX2_total rmX2_total g [.ref (g.2.2.2 2), .int (i32 a1)] M sz post := by
  refine Met.ofW (cc := cX2_total) (maxL := 4) (ret := (some .int)) (by decide) rfl ?_
  intro p e s m args below meth c s₁ B hml hv
  obtain ⟨rfl, hpre⟩ := hv
  have hsz := hpre.1
  subst hsz
  have C : Cx p m c cX2_total 4 s _ lw_g RX2 meth (some .int) := ⟨⟨B.exec, B.bytes, hml, findClass_of_methodNamed B.named, fun w h => atoms_spec (ws := wtX2_total) B.pre w (List.mem_cons_of_mem _ h)⟩, B.returns, B.notSynchronized⟩
  obtain ⟨⟨hx, hb, hml, hown, hts⟩, hr, hlk⟩ := id C
  have I := InG.start hpre
  have hl := lv_entry ([.ref (g.2.2.2 2), .int (i32 a1)]) (n := 4) (Nat.le_of_ble_eq_true rfl)
  rw [lg_entry_eq]
  generalize (lg_sl ([.ref (g.2.2.2 2), .int (i32 a1)]) ++ List.replicate (4 - (lg_sl ([.ref (g.2.2.2 2), .int (i32 a1)])).length) Slot.unset).toArray = ls at hl ⊢
  have hl : lv_has ls 4 [(0, .ref (g.2.2.2 2)), (1, .int (i32 a1))] := hl
  show W p l e rmX2_total s m _ below meth c s.heap [] 0 0 (QIX below _ s g post) _
  refine li_iconst hx hb dX2_total_0 ?_
  refine lv_istore_n (lv' := [(2, .int (i32 0)), (0, .ref (g.2.2.2 2)), (1, .int (i32 a1))]) hx hb dX2_total_1 rfl hl (by decide) rfl (fun ls hl => ?_)
  refine li_iconst hx hb dX2_total_2 ?_
  refine lv_istore_n (lv' := [(3, .int (i32 0)), (2, .int (i32 0)), (0, .ref (g.2.2.2 2)), (1, .int (i32 a1))]) hx hb dX2_total_3 rfl hl (by decide) rfl (fun ls hl => ?_)
  obtain ⟨n1, hw⟩ := hw
  exact bX2_total_4 C post n1 a1 0 0 ha1 (by decide) (by decide) _ _ _ _ hw I (lv_sub hl [2, 3, 1, 0] rfl)
abbrev rmX3_has : Room := { frames := 0, cells := 0, slots := 0, locals := 0 }
abbrev wtX3_has : List Cond := Cond.code yX3_has cX3_has 2 (some .boolean) :: lw_g
set_option maxRecDepth 100000 in
set_option maxHeartbeats 4000000 in
theorem bX3_has_17 {p : Program} {l : Launch} {e : Env} {s : State} {m : MethodId} {args : Array Value} {below : List Frame} {meth : Method} {c : Code} {g : GP} (C : Cx p m c cX3_has 2 s args lw_g RX3 meth (some .boolean)) (post : Int → Mem → Prop) : ∀ (t0 : Int), inR t0 → ∀ (M : Mem) (H : Heap) (locs : List Loc) (ls : Array Slot), jbX3_has_17 post t0 M → IX g s M H locs → lv_has ls 2 [(0, .ref (g.2.2.2 1))] → W p l e rmX3_has s m args below meth c H locs 0 0 (QIX below args s g post) (F0 m 17 ls [.int (i32 t0)]) := by
  obtain ⟨⟨hx, hb, hml, hown, hts⟩, hr, hlk⟩ := id C
  intro t0 ht0 M H locs ls hw I hl
  obtain ⟨h_1, hw⟩ := hw
  exact g_zret hx hb hr hlk I h_1 hw dX3_has_17
set_option maxRecDepth 100000 in
set_option maxHeartbeats 4000000 in
theorem bX3_has_16 {p : Program} {l : Launch} {e : Env} {s : State} {m : MethodId} {args : Array Value} {below : List Frame} {meth : Method} {c : Code} {g : GP} (C : Cx p m c cX3_has 2 s args lw_g RX3 meth (some .boolean)) (post : Int → Mem → Prop) : ∀ (M : Mem) (H : Heap) (locs : List Loc) (ls : Array Slot), jbX3_has_16 post  M → IX g s M H locs → lv_has ls 2 [(0, .ref (g.2.2.2 1))] → W p l e rmX3_has s m args below meth c H locs 0 0 (QIX below args s g post) (F0 m 16 ls []) := by
  obtain ⟨⟨hx, hb, hml, hown, hts⟩, hr, hlk⟩ := id C
  intro M H locs ls hw I hl
  refine li_iconst hx hb dX3_has_16 ?_
  exact bX3_has_17 C post 0 (by decide) _ _ _ _ hw I (lv_sub hl [0] rfl)
set_option maxRecDepth 100000 in
set_option maxHeartbeats 4000000 in
theorem mX3_has (l : Launch) (g : GP) (a1 : Int) (ha1 : inR a1) (M : Mem) (post : Int → Mem → Prop) (sz : Nat) (hw : wpX3_has a1 M post) : MIX l yX3_has wtX3_has rmX3_has g [.ref (g.2.2.2 1), .int (i32 a1)] M sz post := by
  refine Met.ofW (cc := cX3_has) (maxL := 2) (ret := (some .boolean)) (by decide) rfl ?_
  intro p e s m args below meth c s₁ B hml hv
  obtain ⟨rfl, hpre⟩ := hv
  have hsz := hpre.1
  subst hsz
  have C : Cx p m c cX3_has 2 s _ lw_g RX3 meth (some .boolean) := ⟨⟨B.exec, B.bytes, hml, findClass_of_methodNamed B.named, fun w h => atoms_spec (ws := wtX3_has) B.pre w (List.mem_cons_of_mem _ h)⟩, B.returns, B.notSynchronized⟩
  obtain ⟨⟨hx, hb, hml, hown, hts⟩, hr, hlk⟩ := id C
  have I := InG.start hpre
  have hl := lv_entry ([.ref (g.2.2.2 1), .int (i32 a1)]) (n := 2) (Nat.le_of_ble_eq_true rfl)
  rw [lg_entry_eq]
  generalize (lg_sl ([.ref (g.2.2.2 1), .int (i32 a1)]) ++ List.replicate (2 - (lg_sl ([.ref (g.2.2.2 1), .int (i32 a1)])).length) Slot.unset).toArray = ls at hl ⊢
  have hl : lv_has ls 2 [(0, .ref (g.2.2.2 1)), (1, .int (i32 a1))] := hl
  show W p l e rmX3_has s m _ below meth c s.heap [] 0 0 (QIX below _ s g post) _
  refine lv_iload_n hx hb dX3_has_0 rfl (lv_at hl 1 rfl) ?_
  refine li_if_lt (tgt := 16) hx hb dX3_has_1 (by decide) ha1 (fun c_1 => ?_) (fun c_1 => ?_)
  · replace hw := hw.1 c_1
    exact bX3_has_16 C post _ _ _ _ hw I (lv_sub hl [0] rfl)
  · replace hw := hw.2 c_1
    refine lv_iload_n hx hb dX3_has_4 rfl (lv_at hl 1 rfl) ?_
    refine lv_aload_n hx hb dX3_has_5 rfl (lv_at hl 0 rfl) ?_
    refine xg_1_0 hx hb hts wu_X3 hown I wf_X3_32 dX3_has_6 ?_
    have h_2 := I.rng 1 0
    refine li_icmp_ge (tgt := 16) hx hb dX3_has_9 (by decide) ha1 h_2 (fun c_3 => ?_) (fun c_3 => ?_)
    · replace hw := hw.1 c_3
      exact bX3_has_16 C post _ _ _ _ hw I (lv_sub hl [0] rfl)
    · replace hw := hw.2 c_3
      refine li_iconst hx hb dX3_has_12 ?_
      refine lv_goto (tgt := 17) hx hb dX3_has_13 (by decide) ?_
      exact bX3_has_17 C post 1 (by decide) _ _ _ _ hw I (lv_sub hl [0] rfl)
abbrev rmX3_measureRoads : Room := { frames := 1, cells := 0, slots := 0, locals := 23 }
abbrev wtX3_measureRoads : List Cond := Cond.code yX3_measureRoads cX3_measureRoads 5 none :: lw_g
set_option maxRecDepth 100000 in
set_option maxHeartbeats 4000000 in
theorem bX3_measureRoads_29 {p : Program} {l : Launch} {e : Env} {s : State} {m : MethodId} {args : Array Value} {below : List Frame} {meth : Method} {c : Code} {g : GP} (C : Cx p m c cX3_measureRoads 5 s args lw_g RX3 meth none) (post : Mem → Prop) : ∀ (n : Nat), ∀ (x1 : Int), inR x1 → ∀ (M : Mem) (H : Heap) (locs : List Loc) (ls : Array Slot), lpX3_measureRoads_29 post n x1 M → IX g s M H locs → lv_has ls 5 [(0, .ref (g.2.2.2 1)), (1, .int (i32 x1))] → W p l e rmX3_measureRoads s m args below meth c H locs 0 0 (QVX below args s g post) (F0 m 29 ls []) := by
  obtain ⟨⟨hx, hb, hml, hown, hts⟩, hr, hlk⟩ := id C
  intro n
  induction n with
  | zero =>
    intro x1 h1 M H locs ls hw
    exact hw.elim
  | succ n ih =>
    intro x1 h1 M H locs ls hw I hl
    refine lv_iload_n hx hb dX3_measureRoads_29 rfl (lv_at hl 1 rfl) ?_
    refine lv_aload_n hx hb dX3_measureRoads_30 rfl (lv_at hl 0 rfl) ?_
    refine xg_1_1 hx hb hts wu_X3 hown I wf_X3_39 dX3_measureRoads_31 ?_
    have h_1 := I.rng 1 1
    refine li_icmp_ge (tgt := 96) hx hb dX3_measureRoads_34 (by decide) h1 h_1 (fun c_2 => ?_) (fun c_2 => ?_)
    · replace hw := hw.1 c_2
      exact g_vret hx hb hr hlk I hw dX3_measureRoads_96
    · replace hw := hw.2 c_2
      refine lv_aload_n hx hb dX3_measureRoads_37 rfl (lv_at hl 0 rfl) ?_
      refine xg_1_2 hx hb hts wu_X3 hown I wf_X3_9 dX3_measureRoads_38 ?_
      refine lv_iload_n hx hb dX3_measureRoads_41 rfl (lv_at hl 1 rfl) ?_
      obtain ⟨h_3, hw⟩ := hw
      refine x_iald hx hb I 15 lenX_15 h_3 dX3_measureRoads_42 ?_
      have h_4 := I.rng 15 x1
      refine li_name (fun v43_4 ev43_4 => ?_)
      replace hw := hw v43_4 ev43_4
      have hv43_4 : inR v43_4 := ev43_4 ▸ h_4
      refine lv_istore_n (lv' := [(2, .int (i32 v43_4)), (0, .ref (g.2.2.2 1)), (1, .int (i32 x1))]) hx hb dX3_measureRoads_43 rfl hl (by decide) rfl (fun ls hl => ?_)
      refine lv_aload_n hx hb dX3_measureRoads_44 rfl (lv_at hl 1 rfl) ?_
      refine xg_1_3 hx hb hts wu_X3 hown I wf_X3_15 dX3_measureRoads_45 ?_
      refine lv_iload_n hx hb dX3_measureRoads_48 rfl (lv_at hl 2 rfl) ?_
      obtain ⟨h_6, hw⟩ := hw
      refine x_iald hx hb I 16 lenX_16 h_6 dX3_measureRoads_49 ?_
      have h_7 := I.rng 16 x1
      refine li_name (fun v50_7 ev50_7 => ?_)
      replace hw := hw v50_7 ev50_7
      have hv50_7 : inR v50_7 := ev50_7 ▸ h_7
      refine lv_istore_n (lv' := [(3, .int (i32 v50_7)), (2, .int (i32 v43_4)), (0, .ref (g.2.2.2 1)), (1, .int (i32 x1))]) hx hb dX3_measureRoads_50 rfl hl (by decide) rfl (fun ls hl => ?_)
      refine lv_aload_n hx hb dX3_measureRoads_51 rfl (lv_at hl 2 rfl) ?_
      refine xg_1_6 hx hb hts wu_X3 hown I wf_X3_26 dX3_measureRoads_52 ?_
      refine lv_iload_n hx hb dX3_measureRoads_55 rfl (lv_at hl 1 rfl) ?_
      obtain ⟨h_9, hw⟩ := hw
      refine x_aald_10 hx hb I h_9 dX3_measureRoads_56 ?_
      refine lv_iload_n hx hb dX3_measureRoads_57 rfl (lv_at hl 0 rfl) ?_
      obtain ⟨h_10, hw⟩ := hw
      refine x_iald hx hb I (40 + v43_4) (lenX_40 h_9) h_10 dX3_measureRoads_58 ?_
      have h_11 := I.rng (40 + v43_4) v50_7
      refine lv_aload_n hx hb dX3_measureRoads_59 rfl (lv_at hl 2 rfl) ?_
      refine xg_1_4 hx hb hts wu_X3 hown I wf_X3_18 dX3_measureRoads_60 ?_
      refine lv_iload_n hx hb dX3_measureRoads_63 rfl (lv_at hl 3 rfl) ?_
      obtain ⟨h_12, hw⟩ := hw
      refine x_iald hx hb I 17 lenX_17 h_12 dX3_measureRoads_64 ?_
      have h_13 := I.rng 17 x1
      refine g_mmin hx hb (hml.trans hl.1.symm) hts hown wm_X3_62 wa_min wn_J9 wc_min (Nat.le_of_ble_eq_true rfl) (Nat.le_of_ble_eq_true rfl) (Nat.zero_le _) (Nat.zero_le _) h_11 h_13 dX3_measureRoads_65 ?_
      refine li_name (fun v68_13 ev68_13 => ?_)
      replace hw := hw v68_13 ev68_13
      have hv68_13 : inR v68_13 := ev68_13 ▸ (inR_min h_11 h_13)
      refine lv_istore (lv' := [(4, .int (i32 v68_13)), (3, .int (i32 v50_7)), (2, .int (i32 v43_4)), (0, .ref (g.2.2.2 1)), (1, .int (i32 x1))]) hx hb dX3_measureRoads_68 hl (by decide) rfl (fun ls hl => ?_)
      refine lv_aload_n hx hb dX3_measureRoads_70 rfl (lv_at hl 3 rfl) ?_
      refine xg_1_6 hx hb hts wu_X3 hown I wf_X3_26 dX3_measureRoads_71 ?_
      refine lv_iload_n hx hb dX3_measureRoads_74 rfl (lv_at hl 2 rfl) ?_
      obtain ⟨h_15, hw⟩ := hw
      refine x_aald_10 hx hb I h_15 dX3_measureRoads_75 ?_
      refine lv_iload_n hx hb dX3_measureRoads_76 rfl (lv_at hl 1 rfl) ?_
      refine lv_iload hx hb dX3_measureRoads_77 (lv_at hl 0 rfl) ?_
      obtain ⟨h_16, hw⟩ := hw
      refine x_iast hx hb I (40 + v43_4) (lenX_40 h_15) h_16 hv68_13 dX3_measureRoads_79 (fun H locs M79_16 eM79_16 I => ?_)
      replace hw := hw M79_16 eM79_16
      refine lv_aload_n hx hb dX3_measureRoads_80 rfl (lv_at hl 3 rfl) ?_
      refine xg_1_6 hx hb hts wu_X3 hown I wf_X3_26 dX3_measureRoads_81 ?_
      refine lv_iload_n hx hb dX3_measureRoads_84 rfl (lv_at hl 1 rfl) ?_
      obtain ⟨h_18, hw⟩ := hw
      refine x_aald_10 hx hb I h_18 dX3_measureRoads_85 ?_
      refine lv_iload_n hx hb dX3_measureRoads_86 rfl (lv_at hl 2 rfl) ?_
      refine lv_iload hx hb dX3_measureRoads_87 (lv_at hl 0 rfl) ?_
      obtain ⟨h_19, hw⟩ := hw
      refine x_iast hx hb I (40 + v50_7) (lenX_40 h_18) h_19 hv68_13 dX3_measureRoads_89 (fun H locs M89_19 eM89_19 I => ?_)
      replace hw := hw M89_19 eM89_19
      refine li_iinc (lv' := [(1, .int (i32 (x1 + 1))), (4, .int (i32 v68_13)), (3, .int (i32 v50_7)), (2, .int (i32 v43_4)), (0, .ref (g.2.2.2 1))]) hx hb dX3_measureRoads_90 hl (k := 4) rfl (by decide) rfl (fun ls hl => ?_)
      refine lv_goto (tgt := 29) hx hb dX3_measureRoads_93 (by decide) ?_
      obtain ⟨h_21, hw⟩ := hw
      exact ih (x1 + 1) h_21 _ _ _ _ hw I (lv_sub hl [4, 0] rfl)
set_option maxRecDepth 100000 in
set_option maxHeartbeats 4000000 in
theorem bX3_measureRoads_2 {p : Program} {l : Launch} {e : Env} {s : State} {m : MethodId} {args : Array Value} {below : List Frame} {meth : Method} {c : Code} {g : GP} (C : Cx p m c cX3_measureRoads 5 s args lw_g RX3 meth none) (post : Mem → Prop) : ∀ (n : Nat), ∀ (x1 : Int), inR x1 → ∀ (M : Mem) (H : Heap) (locs : List Loc) (ls : Array Slot), lpX3_measureRoads_2 post n x1 M → IX g s M H locs → lv_has ls 5 [(0, .ref (g.2.2.2 1)), (1, .int (i32 x1))] → W p l e rmX3_measureRoads s m args below meth c H locs 0 0 (QVX below args s g post) (F0 m 2 ls []) := by
  obtain ⟨⟨hx, hb, hml, hown, hts⟩, hr, hlk⟩ := id C
  intro n
  induction n with
  | zero =>
    intro x1 h1 M H locs ls hw
    exact hw.elim
  | succ n ih =>
    intro x1 h1 M H locs ls hw I hl
    refine lv_iload_n hx hb dX3_measureRoads_2 rfl (lv_at hl 1 rfl) ?_
    refine lv_aload_n hx hb dX3_measureRoads_3 rfl (lv_at hl 0 rfl) ?_
    refine xg_1_0 hx hb hts wu_X3 hown I wf_X3_32 dX3_measureRoads_4 ?_
    have h_1 := I.rng 1 0
    refine li_icmp_ge (tgt := 27) hx hb dX3_measureRoads_7 (by decide) h1 h_1 (fun c_2 => ?_) (fun c_2 => ?_)
    · replace hw := hw.1 c_2
      refine li_iconst hx hb dX3_measureRoads_27 ?_
      refine lv_istore_n (lv' := [(1, .int (i32 0)), (0, .ref (g.2.2.2 1))]) hx hb dX3_measureRoads_28 rfl hl (by decide) rfl (fun ls hl => ?_)
      obtain ⟨n1, hw⟩ := hw
      exact bX3_measureRoads_29 C post n1 0 (by decide) _ _ _ _ hw I (lv_sub hl [1, 0] rfl)
    · replace hw := hw.2 c_2
      refine lv_aload_n hx hb dX3_measureRoads_10 rfl (lv_at hl 0 rfl) ?_
      refine xg_1_6 hx hb hts wu_X3 hown I wf_X3_26 dX3_measureRoads_11 ?_
      refine lv_iload_n hx hb dX3_measureRoads_14 rfl (lv_at hl 1 rfl) ?_
      obtain ⟨h_3, hw⟩ := hw
      refine x_aald_10 hx hb I h_3 dX3_measureRoads_15 ?_
      refine lv_ldc (v := i32 1000000) hx hb hown (hts _ wk_X3_42) dX3_measureRoads_16 ?_
      refine g_callSv (As := [.ref (g.2.2.2 (40 + x1)), .int (i32 1000000)]) (rest := []) ⟨hx, hb, hml, hown, hts⟩ I (mJ7_fill_53178 l g (40 + x1) 1000000 (by decide) M _ _ hw) (va_cwS 2 hts (gd_S wm_X3_56 wa_J7_fill_53178 wn_J7 wc_J7_fill_53178) rfl rfl rfl wd_J7_fill_53178 ⟨Nat.le_of_ble_eq_true rfl, Nat.le_of_ble_eq_true rfl⟩) rfl hl.1 rfl (Nat.le_of_ble_eq_true rfl) dX3_measureRoads_18 ⟨Nat.zero_le _, Nat.zero_le _⟩ (fun M18_3 H locs hw I => ?_)
      refine li_iinc (lv' := [(1, .int (i32 (x1 + 1))), (0, .ref (g.2.2.2 1))]) hx hb dX3_measureRoads_21 hl (k := 1) rfl (by decide) rfl (fun ls hl => ?_)
      refine lv_goto (tgt := 2) hx hb dX3_measureRoads_24 (by decide) ?_
      obtain ⟨h_5, hw⟩ := hw
      exact ih (x1 + 1) h_5 _ _ _ _ hw I (lv_sub hl [1, 0] rfl)
set_option maxRecDepth 100000 in
set_option maxHeartbeats 4000000 in
theorem mX3_measureRoads (l : Launch) (g : GP) (M : Mem) (post : Mem → Prop) (sz : Nat) (hw : wpX3_measureRoads M post) : MVX l yX3_measureRoads wtX3_measureRoads rmX3_measureRoads g [.ref (g.2.2.2 1)] M sz post := by
  refine Met.ofW (cc := cX3_measureRoads) (maxL := 5) (ret := none) (by decide) rfl ?_
  intro p e s m args below meth c s₁ B hml hv
  obtain ⟨rfl, hpre⟩ := hv
  have hsz := hpre.1
  subst hsz
  have C : Cx p m c cX3_measureRoads 5 s _ lw_g RX3 meth none := ⟨⟨B.exec, B.bytes, hml, findClass_of_methodNamed B.named, fun w h => atoms_spec (ws := wtX3_measureRoads) B.pre w (List.mem_cons_of_mem _ h)⟩, B.returns, B.notSynchronized⟩
  obtain ⟨⟨hx, hb, hml, hown, hts⟩, hr, hlk⟩ := id C
  have I := InG.start hpre
  have hl := lv_entry ([.ref (g.2.2.2 1)]) (n := 5) (Nat.le_of_ble_eq_true rfl)
  rw [lg_entry_eq]
  generalize (lg_sl ([.ref (g.2.2.2 1)]) ++ List.replicate (5 - (lg_sl ([.ref (g.2.2.2 1)])).length) Slot.unset).toArray = ls at hl ⊢
  have hl : lv_has ls 5 [(0, .ref (g.2.2.2 1))] := hl
  show W p l e rmX3_measureRoads s m _ below meth c s.heap [] 0 0 (QVX below _ s g post) _
  refine li_iconst hx hb dX3_measureRoads_0 ?_
  refine lv_istore_n (lv' := [(1, .int (i32 0)), (0, .ref (g.2.2.2 1))]) hx hb dX3_measureRoads_1 rfl hl (by decide) rfl (fun ls hl => ?_)
  obtain ⟨n1, hw⟩ := hw
  exact bX3_measureRoads_2 C post n1 0 (by decide) _ _ _ _ hw I (lv_sub hl [1, 0] rfl)
abbrev rmX3_shortenBy : Room := { frames := 0, cells := 0, slots := 0, locals := 0 }
abbrev wtX3_shortenBy : List Cond := Cond.code yX3_shortenBy cX3_shortenBy 6 none :: lw_g
set_option maxRecDepth 100000 in
set_option maxHeartbeats 4000000 in
theorem bX3_shortenBy_66 {p : Program} {l : Launch} {e : Env} {s : State} {m : MethodId} {args : Array Value} {below : List Frame} {meth : Method} {c : Code} {g : GP} (C : Cx p m c cX3_shortenBy 6 s args lw_g RX3 meth none) (post : Mem → Prop) (k19 : Int → Int → Int → Int → Mem → Prop) (hk19 : ∀ (x1 x2 x3 x4 : Int), inR x1 → inR x2 → inR x3 → inR x4 → ∀ (M : Mem) (H : Heap) (locs : List Loc) (ls : Array Slot), k19 x1 x2 x3 x4 M → IX g s M H locs → lv_has ls 6 [(0, .ref (g.2.2.2 1)), (1, .int (i32 x1)), (2, .int (i32 x2)), (3, .int (i32 x3)), (4, .int (i32 x4))] → W p l e rmX3_shortenBy s m args below meth c H locs 0 0 (QVX below args s g post) (F0 m 19 ls [])) : ∀ (x1 x2 x3 x4 : Int), inR x1 → inR x2 → inR x3 → inR x4 → ∀ (M : Mem) (H : Heap) (locs : List Loc) (ls : Array Slot), jbX3_shortenBy_66 post k19 x1 x2 x3 x4 M → IX g s M H locs → lv_has ls 6 [(0, .ref (g.2.2.2 1)), (1, .int (i32 x1)), (2, .int (i32 x2)), (3, .int (i32 x3)), (4, .int (i32 x4))] → W p l e rmX3_shortenBy s m args below meth c H locs 0 0 (QVX below args s g post) (F0 m 66 ls []) := by
  obtain ⟨⟨hx, hb, hml, hown, hts⟩, hr, hlk⟩ := id C
  intro x1 x2 x3 x4 h1 h2 h3 h4 M H locs ls hw I hl
  refine li_iinc (lv' := [(4, .int (i32 (x4 + 1))), (0, .ref (g.2.2.2 1)), (1, .int (i32 x1)), (2, .int (i32 x2)), (3, .int (i32 x3))]) hx hb dX3_shortenBy_66 hl (k := 4) rfl (by decide) rfl (fun ls hl => ?_)
  refine lv_goto (tgt := 19) hx hb dX3_shortenBy_69 (by decide) ?_
  obtain ⟨h_1, hw⟩ := hw
  exact hk19 x1 x2 x3 (x4 + 1) h1 h2 h3 h_1 _ _ _ _ hw I (lv_sub hl [1, 2, 3, 4, 0] rfl)
set_option maxRecDepth 100000 in
set_option maxHeartbeats 4000000 in
theorem bX3_shortenBy_19 {p : Program} {l : Launch} {e : Env} {s : State} {m : MethodId} {args : Array Value} {below : List Frame} {meth : Method} {c : Code} {g : GP} (C : Cx p m c cX3_shortenBy 6 s args lw_g RX3 meth none) (post : Mem → Prop) : ∀ (n : Nat), ∀ (x1 x2 x3 x4 : Int), inR x1 → inR x2 → inR x3 → inR x4 → ∀ (M : Mem) (H : Heap) (locs : List Loc) (ls : Array Slot), lpX3_shortenBy_19 post n x1 x2 x3 x4 M → IX g s M H locs → lv_has ls 6 [(0, .ref (g.2.2.2 1)), (1, .int (i32 x1)), (2, .int (i32 x2)), (3, .int (i32 x3)), (4, .int (i32 x4))] → W p l e rmX3_shortenBy s m args below meth c H locs 0 0 (QVX below args s g post) (F0 m 19 ls []) := by
  obtain ⟨⟨hx, hb, hml, hown, hts⟩, hr, hlk⟩ := id C
  intro n
  induction n with
  | zero =>
    intro x1 x2 x3 x4 h1 h2 h3 h4 M H locs ls hw
    exact hw.elim
  | succ n ih =>
    intro x1 x2 x3 x4 h1 h2 h3 h4 M H locs ls hw I hl
    refine lv_iload hx hb dX3_shortenBy_19 (lv_at hl 4 rfl) ?_
    refine lv_aload_n hx hb dX3_shortenBy_21 rfl (lv_at hl 0 rfl) ?_
    refine xg_1_0 hx hb hts wu_X3 hown I wf_X3_32 dX3_shortenBy_22 ?_
    have h_1 := I.rng 1 0
    refine li_icmp_ge (tgt := 72) hx hb dX3_shortenBy_25 (by decide) h4 h_1 (fun c_2 => ?_) (fun c_2 => ?_)
    · replace hw := hw.1 c_2
      exact g_vret hx hb hr hlk I hw dX3_shortenBy_72
    · replace hw := hw.2 c_2
      refine lv_iload_n hx hb dX3_shortenBy_28 rfl (lv_at hl 3 rfl) ?_
      refine lv_aload_n hx hb dX3_shortenBy_29 rfl (lv_at hl 0 rfl) ?_
      refine xg_1_7 hx hb hts wu_X3 hown I wf_X3_29 dX3_shortenBy_30 ?_
      refine lv_iload_n hx hb dX3_shortenBy_33 rfl (lv_at hl 2 rfl) ?_
      obtain ⟨h_3, hw⟩ := hw
      refine x_aald_11 hx hb I h_3 dX3_shortenBy_34 ?_
      refine lv_iload hx hb dX3_shortenBy_35 (lv_at hl 4 rfl) ?_
      obtain ⟨h_4, hw⟩ := hw
      refine x_iald hx hb I (50 + x2) (lenX_50 h_3) h_4 dX3_shortenBy_37 ?_
      have h_5 := I.rng (50 + x2) x4
      refine li_iadd hx hb dX3_shortenBy_38 ?_
      obtain ⟨h_6, hw⟩ := hw
      refine li_name (fun v39_6 ev39_6 => ?_)
      replace hw := hw v39_6 ev39_6
      have hv39_6 : inR v39_6 := ev39_6 ▸ h_6
      refine lv_istore (lv' := [(5, .int (i32 v39_6)), (0, .ref (g.2.2.2 1)), (1, .int (i32 x1)), (2, .int (i32 x2)), (3, .int (i32 x3)), (4, .int (i32 x4))]) hx hb dX3_shortenBy_39 hl (by decide) rfl (fun ls hl => ?_)
      refine lv_iload hx hb dX3_shortenBy_41 (lv_at hl 0 rfl) ?_
      refine lv_aload_n hx hb dX3_shortenBy_43 rfl (lv_at hl 1 rfl) ?_
      refine xg_1_7 hx hb hts wu_X3 hown I wf_X3_29 dX3_shortenBy_44 ?_
      refine lv_iload_n hx hb dX3_shortenBy_47 rfl (lv_at hl 2 rfl) ?_
      obtain ⟨h_8, hw⟩ := hw
      refine x_aald_11 hx hb I h_8 dX3_shortenBy_48 ?_
      refine lv_iload hx hb dX3_shortenBy_49 (lv_at hl 5 rfl) ?_
      obtain ⟨h_9, hw⟩ := hw
      refine x_iald hx hb I (50 + x1) (lenX_50 h_8) h_9 dX3_shortenBy_51 ?_
      have h_10 := I.rng (50 + x1) x4
      refine li_icmp_ge (tgt := 66) hx hb dX3_shortenBy_52 (by decide) hv39_6 h_10 (fun c_11 => ?_) (fun c_11 => ?_)
      · replace hw := hw.1 c_11
        exact bX3_shortenBy_66 C post (fun y1 y2 y3 y4 N => lpX3_shortenBy_19 post n y1 y2 y3 y4 N) ih x1 x2 x3 x4 h1 h2 h3 h4 _ _ _ _ hw I (lv_sub hl [1, 2, 3, 4, 5] rfl)
      · replace hw := hw.2 c_11
        refine lv_aload_n hx hb dX3_shortenBy_55 rfl (lv_at hl 1 rfl) ?_
        refine xg_1_7 hx hb hts wu_X3 hown I wf_X3_29 dX3_shortenBy_56 ?_
        refine lv_iload_n hx hb dX3_shortenBy_59 rfl (lv_at hl 2 rfl) ?_
        obtain ⟨h_12, hw⟩ := hw
        refine x_aald_11 hx hb I h_12 dX3_shortenBy_60 ?_
        refine lv_iload hx hb dX3_shortenBy_61 (lv_at hl 5 rfl) ?_
        refine lv_iload hx hb dX3_shortenBy_63 (lv_at hl 0 rfl) ?_
        obtain ⟨h_13, hw⟩ := hw
        refine x_iast hx hb I (50 + x1) (lenX_50 h_12) h_13 hv39_6 dX3_shortenBy_65 (fun H locs M65_13 eM65_13 I => ?_)
        replace hw := hw M65_13 eM65_13
        exact bX3_shortenBy_66 C post (fun y1 y2 y3 y4 N => lpX3_shortenBy_19 post n y1 y2 y3 y4 N) ih x1 x2 x3 x4 h1 h2 h3 h4 _ _ _ _ hw I (lv_sub hl [1, 2, 3, 4, 5] rfl)
set_option maxRecDepth 100000 in
set_option maxHeartbeats 4000000 in
theorem mX3_shortenBy (l : Launch) (g : GP) (a1 a2 : Int) (ha1 : inR a1) (ha2 : inR a2) (M : Mem) (post : Mem → Prop) (sz : Nat) (hw : wpX3_shortenBy a1 a2 M post) : MVX l yX3_shortenBy wtX3_shortenBy rmX3_shortenBy g [.ref (g.2.2.2 1), .int (i32 a1), .int (i32 a2)] M sz post := by
  refine Met.ofW (cc := cX3_shortenBy) (maxL := 6) (ret := none) (by decide) rfl ?_
  intro p e s m args below meth c s₁ B hml hv
  obtain ⟨rfl, hpre⟩ := hv
  have hsz := hpre.1
  subst hsz
  have C : Cx p m c cX3_shortenBy 6 s _ lw_g RX3 meth none := ⟨⟨B.exec, B.bytes, hml, findClass_of_methodNamed B.named, fun w h => atoms_spec (ws := wtX3_shortenBy) B.pre w (List.mem_cons_of_mem _ h)⟩, B.returns, B.notSynchronized⟩
  obtain ⟨⟨hx, hb, hml, hown, hts⟩, hr, hlk⟩ := id C
  have I := InG.start hpre
  have hl := lv_entry ([.ref (g.2.2.2 1), .int (i32 a1), .int (i32 a2)]) (n := 6) (Nat.le_of_ble_eq_true rfl)
  rw [lg_entry_eq]
  generalize (lg_sl ([.ref (g.2.2.2 1), .int (i32 a1), .int (i32 a2)]) ++ List.replicate (6 - (lg_sl ([.ref (g.2.2.2 1), .int (i32 a1), .int (i32 a2)])).length) Slot.unset).toArray = ls at hl ⊢
  have hl : lv_has ls 6 [(0, .ref (g.2.2.2 1)), (1, .int (i32 a1)), (2, .int (i32 a2))] := hl
  show W p l e rmX3_shortenBy s m _ below meth c s.heap [] 0 0 (QVX below _ s g post) _
  refine lv_aload_n hx hb dX3_shortenBy_0 rfl (lv_at hl 0 rfl) ?_
  refine xg_1_7 hx hb hts wu_X3 hown I wf_X3_29 dX3_shortenBy_1 ?_
  refine lv_iload_n hx hb dX3_shortenBy_4 rfl (lv_at hl 1 rfl) ?_
  obtain ⟨h_1, hw⟩ := hw
  refine x_aald_11 hx hb I h_1 dX3_shortenBy_5 ?_
  refine lv_iload_n hx hb dX3_shortenBy_6 rfl (lv_at hl 2 rfl) ?_
  obtain ⟨h_2, hw⟩ := hw
  refine x_iald hx hb I (50 + a1) (lenX_50 h_1) h_2 dX3_shortenBy_7 ?_
  have h_3 := I.rng (50 + a1) a2
  refine li_name (fun v8_3 ev8_3 => ?_)
  replace hw := hw v8_3 ev8_3
  have hv8_3 : inR v8_3 := ev8_3 ▸ h_3
  refine lv_istore_n (lv' := [(3, .int (i32 v8_3)), (0, .ref (g.2.2.2 1)), (1, .int (i32 a1)), (2, .int (i32 a2))]) hx hb dX3_shortenBy_8 rfl hl (by decide) rfl (fun ls hl => ?_)
  refine lv_iload_n hx hb dX3_shortenBy_9 rfl (lv_at hl 0 rfl) ?_
  refine lv_ldc (v := i32 1000000) hx hb hown (hts _ wk_X3_42) dX3_shortenBy_10 ?_
  refine li_icmp_ne (tgt := 16) hx hb dX3_shortenBy_12 (by decide) hv8_3 (by decide) (fun c_5 => ?_) (fun c_5 => ?_)
  · replace hw := hw.1 c_5
    refine li_iconst hx hb dX3_shortenBy_16 ?_
    refine lv_istore (lv' := [(4, .int (i32 0)), (3, .int (i32 v8_3)), (0, .ref (g.2.2.2 1)), (1, .int (i32 a1)), (2, .int (i32 a2))]) hx hb dX3_shortenBy_17 hl (by decide) rfl (fun ls hl => ?_)
    obtain ⟨n1, hw⟩ := hw
    exact bX3_shortenBy_19 C post n1 a1 a2 v8_3 0 ha1 ha2 hv8_3 (by decide) _ _ _ _ hw I (lv_sub hl [2, 3, 4, 1, 0] rfl)
  · replace hw := hw.2 c_5
    exact g_vret hx hb hr hlk I hw dX3_shortenBy_15
abbrev rmX3_measure : Room := { frames := 2, cells := 0, slots := 0, locals := 47 }
abbrev wtX3_measure : List Cond := Cond.code yX3_measure cX3_measure 3 none :: lw_g
set_option maxRecDepth 100000 in
set_option maxHeartbeats 4000000 in
theorem bX3_measure_62 {p : Program} {l : Launch} {e : Env} {s : State} {m : MethodId} {args : Array Value} {below : List Frame} {meth : Method} {c : Code} {g : GP} (C : Cx p m c cX3_measure 3 s args lw_g RX3 meth none) (post : Mem → Prop) (k52 : Int → Mem → Prop) (hk52 : ∀ (x1 : Int), inR x1 → ∀ (M : Mem) (H : Heap) (locs : List Loc) (ls : Array Slot), k52 x1 M → IX g s M H locs → lv_has ls 3 [(0, .ref (g.2.2.2 1)), (1, .int (i32 x1))] → W p l e rmX3_measure s m args below meth c H locs 0 0 (QVX below args s g post) (F0 m 52 ls [])) : ∀ (n : Nat), ∀ (x1 x2 : Int), inR x1 → inR x2 → ∀ (M : Mem) (H : Heap) (locs : List Loc) (ls : Array Slot), lpX3_measure_62 post k52 n x1 x2 M → IX g s M H locs → lv_has ls 3 [(0, .ref (g.2.2.2 1)), (1, .int (i32 x1)), (2, .int (i32 x2))] → W p l e rmX3_measure s m args below meth c H locs 0 0 (QVX below args s g post) (F0 m 62 ls []) := by
  obtain ⟨⟨hx, hb, hml, hown, hts⟩, hr, hlk⟩ := id C
  intro n
  induction n with
  | zero =>
    intro x1 x2 h1 h2 M H locs ls hw
    exact hw.elim
  | succ n ih =>
    intro x1 x2 h1 h2 M H locs ls hw I hl
    refine lv_iload_n hx hb dX3_measure_62 rfl (lv_at hl 2 rfl) ?_
    refine lv_aload_n hx hb dX3_measure_63 rfl (lv_at hl 0 rfl) ?_
    refine xg_1_0 hx hb hts wu_X3 hown I wf_X3_32 dX3_measure_64 ?_
    have h_1 := I.rng 1 0
    refine li_icmp_ge (tgt := 82) hx hb dX3_measure_67 (by decide) h2 h_1 (fun c_2 => ?_) (fun c_2 => ?_)
    · replace hw := hw.1 c_2
      refine li_iinc (lv' := [(1, .int (i32 (x1 + 1))), (0, .ref (g.2.2.2 1)), (2, .int (i32 x2))]) hx hb dX3_measure_82 hl (k := 1) rfl (by decide) rfl (fun ls hl => ?_)
      refine lv_goto (tgt := 52) hx hb dX3_measure_85 (by decide) ?_
      obtain ⟨h_3, hw⟩ := hw
      exact hk52 (x1 + 1) h_3 _ _ _ _ hw I (lv_sub hl [1, 0] rfl)
    · replace hw := hw.2 c_2
      refine lv_aload_n hx hb dX3_measure_70 rfl (lv_at hl 0 rfl) ?_
      refine lv_iload_n hx hb dX3_measure_71 rfl (lv_at hl 2 rfl) ?_
      refine lv_iload_n hx hb dX3_measure_72 rfl (lv_at hl 1 rfl) ?_
      refine g_callVv (o := 1) (As := [.int (i32 x2), .int (i32 x1)]) (rest := []) ⟨hx, hb, hml, hown, hts⟩ I (mX3_shortenBy l g x2 x1 h2 h1 M _ _ hw) (cwV 2 hts (gd_V wm_X3_52 wi_X3_shortenBy wl_X3_shortenBy wn_X3 wc_X3_shortenBy) rfl rfl rfl wd_X3_shortenBy ⟨Nat.le_of_ble_eq_true rfl, Nat.le_of_ble_eq_true rfl⟩) (by omega) (by omega) obX_1 rfl rfl hl.1 rfl (Nat.le_of_ble_eq_true rfl) dX3_measure_73 ⟨Nat.zero_le _, Nat.zero_le _⟩ (fun M73_3 H locs hw I => ?_)
      refine li_iinc (lv' := [(2, .int (i32 (x2 + 1))), (0, .ref (g.2.2.2 1)), (1, .int (i32 x1))]) hx hb dX3_measure_76 hl (k := 2) rfl (by decide) rfl (fun ls hl => ?_)
      refine lv_goto (tgt := 62) hx hb dX3_measure_79 (by decide) ?_
      obtain ⟨h_5, hw⟩ := hw
      exact ih x1 (x2 + 1) h1 h_5 _ _ _ _ hw I (lv_sub hl [1, 2, 0] rfl)
set_option maxRecDepth 100000 in
set_option maxHeartbeats 4000000 in
theorem bX3_measure_52 {p : Program} {l : Launch} {e : Env} {s : State} {m : MethodId} {args : Array Value} {below : List Frame} {meth : Method} {c : Code} {g : GP} (C : Cx p m c cX3_measure 3 s args lw_g RX3 meth none) (post : Mem → Prop) : ∀ (n : Nat), ∀ (x1 : Int), inR x1 → ∀ (M : Mem) (H : Heap) (locs : List Loc) (ls : Array Slot), lpX3_measure_52 post n x1 M → IX g s M H locs → lv_has ls 3 [(0, .ref (g.2.2.2 1)), (1, .int (i32 x1))] → W p l e rmX3_measure s m args below meth c H locs 0 0 (QVX below args s g post) (F0 m 52 ls []) := by
  obtain ⟨⟨hx, hb, hml, hown, hts⟩, hr, hlk⟩ := id C
  intro n
  induction n with
  | zero =>
    intro x1 h1 M H locs ls hw
    exact hw.elim
  | succ n ih =>
    intro x1 h1 M H locs ls hw I hl
    refine lv_iload_n hx hb dX3_measure_52 rfl (lv_at hl 1 rfl) ?_
    refine lv_aload_n hx hb dX3_measure_53 rfl (lv_at hl 0 rfl) ?_
    refine xg_1_0 hx hb hts wu_X3 hown I wf_X3_32 dX3_measure_54 ?_
    have h_1 := I.rng 1 0
    refine li_icmp_ge (tgt := 88) hx hb dX3_measure_57 (by decide) h1 h_1 (fun c_2 => ?_) (fun c_2 => ?_)
    · replace hw := hw.1 c_2
      exact g_vret hx hb hr hlk I hw dX3_measure_88
    · replace hw := hw.2 c_2
      refine li_iconst hx hb dX3_measure_60 ?_
      refine lv_istore_n (lv' := [(2, .int (i32 0)), (0, .ref (g.2.2.2 1)), (1, .int (i32 x1))]) hx hb dX3_measure_61 rfl hl (by decide) rfl (fun ls hl => ?_)
      obtain ⟨n1, hw⟩ := hw
      exact bX3_measure_62 C post (fun y1 N => lpX3_measure_52 post n y1 N) ih n1 x1 0 h1 (by decide) _ _ _ _ hw I (lv_sub hl [1, 2, 0] rfl)
set_option maxRecDepth 100000 in
set_option maxHeartbeats 4000000 in
theorem bX3_measure_6 {p : Program} {l : Launch} {e : Env} {s : State} {m : MethodId} {args : Array Value} {below : List Frame} {meth : Method} {c : Code} {g : GP} (C : Cx p m c cX3_measure 3 s args lw_g RX3 meth none) (post : Mem → Prop) : ∀ (n : Nat), ∀ (x1 : Int), inR x1 → ∀ (M : Mem) (H : Heap) (locs : List Loc) (ls : Array Slot), lpX3_measure_6 post n x1 M → IX g s M H locs → lv_has ls 3 [(0, .ref (g.2.2.2 1)), (1, .int (i32 x1))] → W p l e rmX3_measure s m args below meth c H locs 0 0 (QVX below args s g post) (F0 m 6 ls []) := by
  obtain ⟨⟨hx, hb, hml, hown, hts⟩, hr, hlk⟩ := id C
  intro n
  induction n with
  | zero =>
    intro x1 h1 M H locs ls hw
    exact hw.elim
  | succ n ih =>
    intro x1 h1 M H locs ls hw I hl
    refine lv_iload_n hx hb dX3_measure_6 rfl (lv_at hl 1 rfl) ?_
    refine lv_aload_n hx hb dX3_measure_7 rfl (lv_at hl 0 rfl) ?_
    refine xg_1_0 hx hb hts wu_X3 hown I wf_X3_32 dX3_measure_8 ?_
    have h_1 := I.rng 1 0
    refine li_icmp_ge (tgt := 50) hx hb dX3_measure_11 (by decide) h1 h_1 (fun c_2 => ?_) (fun c_2 => ?_)
    · replace hw := hw.1 c_2
      refine li_iconst hx hb dX3_measure_50 ?_
      refine lv_istore_n (lv' := [(1, .int (i32 0)), (0, .ref (g.2.2.2 1))]) hx hb dX3_measure_51 rfl hl (by decide) rfl (fun ls hl => ?_)
      obtain ⟨n1, hw⟩ := hw
      exact bX3_measure_52 C post n1 0 (by decide) _ _ _ _ hw I (lv_sub hl [1, 0] rfl)
    · replace hw := hw.2 c_2
      refine lv_aload_n hx hb dX3_measure_14 rfl (lv_at hl 0 rfl) ?_
      refine xg_1_6 hx hb hts wu_X3 hown I wf_X3_26 dX3_measure_15 ?_
      refine lv_iload_n hx hb dX3_measure_18 rfl (lv_at hl 1 rfl) ?_
      obtain ⟨h_3, hw⟩ := hw
      refine x_aald_10 hx hb I h_3 dX3_measure_19 ?_
      refine li_iconst hx hb dX3_measure_20 ?_
      refine lv_aload_n hx hb dX3_measure_21 rfl (lv_at hl 0 rfl) ?_
      refine xg_1_7 hx hb hts wu_X3 hown I wf_X3_29 dX3_measure_22 ?_
      refine lv_iload_n hx hb dX3_measure_25 rfl (lv_at hl 1 rfl) ?_
      obtain ⟨h_4, hw⟩ := hw
      refine x_aald_11 hx hb I h_4 dX3_measure_26 ?_
      refine li_iconst hx hb dX3_measure_27 ?_
      refine lv_aload_n hx hb dX3_measure_28 rfl (lv_at hl 0 rfl) ?_
      refine xg_1_0 hx hb hts wu_X3 hown I wf_X3_32 dX3_measure_29 ?_
      have h_5 := I.rng 1 0
      obtain ⟨h_6, hw⟩ := hw
      refine x_copy hx hb (hml.trans hl.1.symm) hts hown wm_X3_46 wv_acopy wa_acopy wn_J10 I (40 + x1) (50 + x1) (lenX_40 h_3) (lenX_50 h_4) h_6 (Nat.le_of_ble_eq_true rfl) (Nat.le_of_ble_eq_true rfl) dX3_measure_32 (fun H locs M32_6 eM32_6 I => ?_)
      replace hw := hw M32_6 eM32_6
      refine lv_aload_n hx hb dX3_measure_35 rfl (lv_at hl 0 rfl) ?_
      refine xg_1_7 hx hb hts wu_X3 hown I wf_X3_29 dX3_measure_36 ?_
      refine lv_iload_n hx hb dX3_measure_39 rfl (lv_at hl 1 rfl) ?_
      obtain ⟨h_8, hw⟩ := hw
      refine x_aald_11 hx hb I h_8 dX3_measure_40 ?_
      refine lv_iload_n hx hb dX3_measure_41 rfl (lv_at hl 1 rfl) ?_
      refine li_iconst hx hb dX3_measure_42 ?_
      obtain ⟨h_9, hw⟩ := hw
      refine x_iast hx hb I (50 + x1) (lenX_50 h_8) h_9 (by decide) dX3_measure_43 (fun H locs M43_9 eM43_9 I => ?_)
      replace hw := hw M43_9 eM43_9
      refine li_iinc (lv' := [(1, .int (i32 (x1 + 1))), (0, .ref (g.2.2.2 1))]) hx hb dX3_measure_44 hl (k := 1) rfl (by decide) rfl (fun ls hl => ?_)
      refine lv_goto (tgt := 6) hx hb dX3_measure_47 (by decide) ?_
      obtain ⟨h_11, hw⟩ := hw
      exact ih (x1 + 1) h_11 _ _ _ _ hw I (lv_sub hl [1, 0] rfl)
set_option maxRecDepth 100000 in
set_option maxHeartbeats 4000000 in
theorem mX3_measure (l : Launch) (g : GP) (M : Mem) (post : Mem → Prop) (sz : Nat) (hw : wpX3_measure M post) : MVX l yX3_measure wtX3_measure rmX3_measure g [.ref (g.2.2.2 1)] M sz post := by
  refine Met.ofW (cc := cX3_measure) (maxL := 3) (ret := none) (by decide) rfl ?_
  intro p e s m args below meth c s₁ B hml hv
  obtain ⟨rfl, hpre⟩ := hv
  have hsz := hpre.1
  subst hsz
  have C : Cx p m c cX3_measure 3 s _ lw_g RX3 meth none := ⟨⟨B.exec, B.bytes, hml, findClass_of_methodNamed B.named, fun w h => atoms_spec (ws := wtX3_measure) B.pre w (List.mem_cons_of_mem _ h)⟩, B.returns, B.notSynchronized⟩
  obtain ⟨⟨hx, hb, hml, hown, hts⟩, hr, hlk⟩ := id C
  have I := InG.start hpre
  have hl := lv_entry ([.ref (g.2.2.2 1)]) (n := 3) (Nat.le_of_ble_eq_true rfl)
  rw [lg_entry_eq]
  generalize (lg_sl ([.ref (g.2.2.2 1)]) ++ List.replicate (3 - (lg_sl ([.ref (g.2.2.2 1)])).length) Slot.unset).toArray = ls at hl ⊢
  have hl : lv_has ls 3 [(0, .ref (g.2.2.2 1))] := hl
  show W p l e rmX3_measure s m _ below meth c s.heap [] 0 0 (QVX below _ s g post) _
  refine lv_aload_n hx hb dX3_measure_0 rfl (lv_at hl 0 rfl) ?_
  refine g_callVv (o := 1) (As := []) (rest := []) ⟨hx, hb, hml, hown, hts⟩ I (mX3_measureRoads l g M _ _ hw) (cwV 0 hts (gd_V wm_X3_43 wi_X3_measureRoads wl_X3_measureRoads wn_X3 wc_X3_measureRoads) rfl rfl rfl wd_X3_measureRoads ⟨Nat.le_of_ble_eq_true rfl, Nat.le_of_ble_eq_true rfl⟩) (by omega) (by omega) obX_1 rfl rfl hl.1 rfl (Nat.le_of_ble_eq_true rfl) dX3_measure_1 ⟨Nat.zero_le _, Nat.zero_le _⟩ (fun M1_0 H locs hw I => ?_)
  refine li_iconst hx hb dX3_measure_4 ?_
  refine lv_istore_n (lv' := [(1, .int (i32 0)), (0, .ref (g.2.2.2 1))]) hx hb dX3_measure_5 rfl hl (by decide) rfl (fun ls hl => ?_)
  obtain ⟨n1, hw⟩ := hw
  exact bX3_measure_6 C post n1 0 (by decide) _ _ _ _ hw I (lv_sub hl [1, 0] rfl)
abbrev rmX3_addPlace : Room := { frames := 3, cells := 0, slots := 0, locals := 69 }
abbrev wtX3_addPlace : List Cond := Cond.code yX3_addPlace cX3_addPlace 2 (some .int) :: lw_g
set_option maxRecDepth 100000 in
set_option maxHeartbeats 4000000 in
theorem mX3_addPlace (l : Launch) (g : GP) (M : Mem) (post : Int → Mem → Prop) (sz : Nat) (hw : wpX3_addPlace M post) : MIX l yX3_addPlace wtX3_addPlace rmX3_addPlace g [.ref (g.2.2.2 1)] M sz post := by
  refine Met.ofW (cc := cX3_addPlace) (maxL := 2) (ret := (some .int)) (by decide) rfl ?_
  intro p e s m args below meth c s₁ B hml hv
  obtain ⟨rfl, hpre⟩ := hv
  have hsz := hpre.1
  subst hsz
  have C : Cx p m c cX3_addPlace 2 s _ lw_g RX3 meth (some .int) := ⟨⟨B.exec, B.bytes, hml, findClass_of_methodNamed B.named, fun w h => atoms_spec (ws := wtX3_addPlace) B.pre w (List.mem_cons_of_mem _ h)⟩, B.returns, B.notSynchronized⟩
  obtain ⟨⟨hx, hb, hml, hown, hts⟩, hr, hlk⟩ := id C
  have I := InG.start hpre
  have hl := lv_entry ([.ref (g.2.2.2 1)]) (n := 2) (Nat.le_of_ble_eq_true rfl)
  rw [lg_entry_eq]
  generalize (lg_sl ([.ref (g.2.2.2 1)]) ++ List.replicate (2 - (lg_sl ([.ref (g.2.2.2 1)])).length) Slot.unset).toArray = ls at hl ⊢
  have hl : lv_has ls 2 [(0, .ref (g.2.2.2 1))] := hl
  show W p l e rmX3_addPlace s m _ below meth c s.heap [] 0 0 (QIX below _ s g post) _
  refine lv_aload_n hx hb dX3_addPlace_0 rfl (lv_at hl 0 rfl) ?_
  refine xg_1_0 hx hb hts wu_X3 hown I wf_X3_32 dX3_addPlace_1 ?_
  have h_1 := I.rng 1 0
  refine li_name (fun v4_1 ev4_1 => ?_)
  replace hw := hw v4_1 ev4_1
  have hv4_1 : inR v4_1 := ev4_1 ▸ h_1
  refine lv_istore_n (lv' := [(1, .int (i32 v4_1)), (0, .ref (g.2.2.2 1))]) hx hb dX3_addPlace_4 rfl hl (by decide) rfl (fun ls hl => ?_)
  refine lv_aload_n hx hb dX3_addPlace_5 rfl (lv_at hl 1 rfl) ?_
  refine lv_dup hx hb dX3_addPlace_6 rfl ?_
  refine xg_1_0 hx hb hts wu_X3 hown I wf_X3_32 dX3_addPlace_7 ?_
  have h_3 := I.rng 1 0
  refine li_iconst hx hb dX3_addPlace_10 ?_
  refine li_iadd hx hb dX3_addPlace_11 ?_
  obtain ⟨h_4, hw⟩ := hw
  refine xp_1_0 hx hb hts wu_X3 hown I wf_X3_32 h_4 dX3_addPlace_12 (fun H locs M12_4 eM12_4 I => ?_)
  replace hw := hw M12_4 eM12_4
  refine lv_aload_n hx hb dX3_addPlace_15 rfl (lv_at hl 1 rfl) ?_
  refine g_callVv (o := 1) (As := []) (rest := []) ⟨hx, hb, hml, hown, hts⟩ I (mX3_measure l g M12_4 _ _ hw) (cwV 0 hts (gd_V wm_X3_36 wi_X3_measure wl_X3_measure wn_X3 wc_X3_measure) rfl rfl rfl wd_X3_measure ⟨Nat.le_of_ble_eq_true rfl, Nat.le_of_ble_eq_true rfl⟩) (by omega) (by omega) obX_1 rfl rfl hl.1 rfl (Nat.le_of_ble_eq_true rfl) dX3_addPlace_16 ⟨Nat.zero_le _, Nat.zero_le _⟩ (fun M16_5 H locs hw I => ?_)
  refine lv_iload_n hx hb dX3_addPlace_19 rfl (lv_at hl 0 rfl) ?_
  exact g_iret hx hb hr hlk I hv4_1 hw dX3_addPlace_20
abbrev rmX3_dropPlace : Room := { frames := 0, cells := 0, slots := 0, locals := 0 }
abbrev wtX3_dropPlace : List Cond := Cond.code yX3_dropPlace cX3_dropPlace 1 none :: lw_g
set_option maxRecDepth 100000 in
set_option maxHeartbeats 4000000 in
theorem mX3_dropPlace (l : Launch) (g : GP) (M : Mem) (post : Mem → Prop) (sz : Nat) (hw : wpX3_dropPlace M post) : MVX l yX3_dropPlace wtX3_dropPlace rmX3_dropPlace g [.ref (g.2.2.2 1)] M sz post := by
  refine Met.ofW (cc := cX3_dropPlace) (maxL := 1) (ret := none) (by decide) rfl ?_
  intro p e s m args below meth c s₁ B hml hv
  obtain ⟨rfl, hpre⟩ := hv
  have hsz := hpre.1
  subst hsz
  have C : Cx p m c cX3_dropPlace 1 s _ lw_g RX3 meth none := ⟨⟨B.exec, B.bytes, hml, findClass_of_methodNamed B.named, fun w h => atoms_spec (ws := wtX3_dropPlace) B.pre w (List.mem_cons_of_mem _ h)⟩, B.returns, B.notSynchronized⟩
  obtain ⟨⟨hx, hb, hml, hown, hts⟩, hr, hlk⟩ := id C
  have I := InG.start hpre
  have hl := lv_entry ([.ref (g.2.2.2 1)]) (n := 1) (Nat.le_of_ble_eq_true rfl)
  rw [lg_entry_eq]
  generalize (lg_sl ([.ref (g.2.2.2 1)]) ++ List.replicate (1 - (lg_sl ([.ref (g.2.2.2 1)])).length) Slot.unset).toArray = ls at hl ⊢
  have hl : lv_has ls 1 [(0, .ref (g.2.2.2 1))] := hl
  show W p l e rmX3_dropPlace s m _ below meth c s.heap [] 0 0 (QVX below _ s g post) _
  refine lv_aload_n hx hb dX3_dropPlace_0 rfl (lv_at hl 0 rfl) ?_
  refine lv_dup hx hb dX3_dropPlace_1 rfl ?_
  refine xg_1_0 hx hb hts wu_X3 hown I wf_X3_32 dX3_dropPlace_2 ?_
  have h_1 := I.rng 1 0
  refine li_iconst hx hb dX3_dropPlace_5 ?_
  refine li_isub hx hb dX3_dropPlace_6 ?_
  obtain ⟨h_2, hw⟩ := hw
  refine xp_1_0 hx hb hts wu_X3 hown I wf_X3_32 h_2 dX3_dropPlace_7 (fun H locs M7_2 eM7_2 I => ?_)
  replace hw := hw M7_2 eM7_2
  exact g_vret hx hb hr hlk I hw dX3_dropPlace_10
abbrev rmX3_addRoad : Room := { frames := 3, cells := 0, slots := 0, locals := 69 }
abbrev wtX3_addRoad : List Cond := Cond.code yX3_addRoad cX3_addRoad 5 (some .int) :: lw_g
set_option maxRecDepth 100000 in
set_option maxHeartbeats 4000000 in
theorem mX3_addRoad (l : Launch) (g : GP) (a1 a2 a3 : Int) (ha1 : inR a1) (ha2 : inR a2) (ha3 : inR a3) (M : Mem) (post : Int → Mem → Prop) (sz : Nat) (hw : wpX3_addRoad a1 a2 a3 M post) : MIX l yX3_addRoad wtX3_addRoad rmX3_addRoad g [.ref (g.2.2.2 1), .int (i32 a1), .int (i32 a2), .int (i32 a3)] M sz post := by
  refine Met.ofW (cc := cX3_addRoad) (maxL := 5) (ret := (some .int)) (by decide) rfl ?_
  intro p e s m args below meth c s₁ B hml hv
  obtain ⟨rfl, hpre⟩ := hv
  have hsz := hpre.1
  subst hsz
  have C : Cx p m c cX3_addRoad 5 s _ lw_g RX3 meth (some .int) := ⟨⟨B.exec, B.bytes, hml, findClass_of_methodNamed B.named, fun w h => atoms_spec (ws := wtX3_addRoad) B.pre w (List.mem_cons_of_mem _ h)⟩, B.returns, B.notSynchronized⟩
  obtain ⟨⟨hx, hb, hml, hown, hts⟩, hr, hlk⟩ := id C
  have I := InG.start hpre
  have hl := lv_entry ([.ref (g.2.2.2 1), .int (i32 a1), .int (i32 a2), .int (i32 a3)]) (n := 5) (Nat.le_of_ble_eq_true rfl)
  rw [lg_entry_eq]
  generalize (lg_sl ([.ref (g.2.2.2 1), .int (i32 a1), .int (i32 a2), .int (i32 a3)]) ++ List.replicate (5 - (lg_sl ([.ref (g.2.2.2 1), .int (i32 a1), .int (i32 a2), .int (i32 a3)])).length) Slot.unset).toArray = ls at hl ⊢
  have hl : lv_has ls 5 [(0, .ref (g.2.2.2 1)), (1, .int (i32 a1)), (2, .int (i32 a2)), (3, .int (i32 a3))] := hl
  show W p l e rmX3_addRoad s m _ below meth c s.heap [] 0 0 (QIX below _ s g post) _
  refine lv_aload_n hx hb dX3_addRoad_0 rfl (lv_at hl 0 rfl) ?_
  refine xg_1_1 hx hb hts wu_X3 hown I wf_X3_39 dX3_addRoad_1 ?_
  have h_1 := I.rng 1 1
  refine li_name (fun v4_1 ev4_1 => ?_)
  replace hw := hw v4_1 ev4_1
  have hv4_1 : inR v4_1 := ev4_1 ▸ h_1
  refine lv_istore (lv' := [(4, .int (i32 v4_1)), (0, .ref (g.2.2.2 1)), (1, .int (i32 a1)), (2, .int (i32 a2)), (3, .int (i32 a3))]) hx hb dX3_addRoad_4 hl (by decide) rfl (fun ls hl => ?_)
  refine lv_aload_n hx hb dX3_addRoad_6 rfl (lv_at hl 1 rfl) ?_
  refine xg_1_2 hx hb hts wu_X3 hown I wf_X3_9 dX3_addRoad_7 ?_
  refine lv_iload hx hb dX3_addRoad_10 (lv_at hl 0 rfl) ?_
  refine lv_iload_n hx hb dX3_addRoad_12 rfl (lv_at hl 2 rfl) ?_
  obtain ⟨h_3, hw⟩ := hw
  refine x_iast hx hb I 15 lenX_15 h_3 ha1 dX3_addRoad_13 (fun H locs M13_3 eM13_3 I => ?_)
  replace hw := hw M13_3 eM13_3
  refine lv_aload_n hx hb dX3_addRoad_14 rfl (lv_at hl 1 rfl) ?_
  refine xg_1_3 hx hb hts wu_X3 hown I wf_X3_15 dX3_addRoad_15 ?_
  refine lv_iload hx hb dX3_addRoad_18 (lv_at hl 0 rfl) ?_
  refine lv_iload_n hx hb dX3_addRoad_20 rfl (lv_at hl 3 rfl) ?_
  obtain ⟨h_5, hw⟩ := hw
  refine x_iast hx hb I 16 lenX_16 h_5 ha2 dX3_addRoad_21 (fun H locs M21_5 eM21_5 I => ?_)
  replace hw := hw M21_5 eM21_5
  refine lv_aload_n hx hb dX3_addRoad_22 rfl (lv_at hl 1 rfl) ?_
  refine xg_1_4 hx hb hts wu_X3 hown I wf_X3_18 dX3_addRoad_23 ?_
  refine lv_iload hx hb dX3_addRoad_26 (lv_at hl 0 rfl) ?_
  refine lv_iload_n hx hb dX3_addRoad_28 rfl (lv_at hl 4 rfl) ?_
  obtain ⟨h_7, hw⟩ := hw
  refine x_iast hx hb I 17 lenX_17 h_7 ha3 dX3_addRoad_29 (fun H locs M29_7 eM29_7 I => ?_)
  replace hw := hw M29_7 eM29_7
  refine lv_aload_n hx hb dX3_addRoad_30 rfl (lv_at hl 1 rfl) ?_
  refine lv_dup hx hb dX3_addRoad_31 rfl ?_
  refine xg_1_1 hx hb hts wu_X3 hown I wf_X3_39 dX3_addRoad_32 ?_
  have h_9 := I.rng 1 1
  refine li_iconst hx hb dX3_addRoad_35 ?_
  refine li_iadd hx hb dX3_addRoad_36 ?_
  obtain ⟨h_10, hw⟩ := hw
  refine xp_1_1 hx hb hts wu_X3 hown I wf_X3_39 h_10 dX3_addRoad_37 (fun H locs M37_10 eM37_10 I => ?_)
  replace hw := hw M37_10 eM37_10
  refine lv_aload_n hx hb dX3_addRoad_40 rfl (lv_at hl 1 rfl) ?_
  refine g_callVv (o := 1) (As := []) (rest := []) ⟨hx, hb, hml, hown, hts⟩ I (mX3_measure l g M37_10 _ _ hw) (cwV 0 hts (gd_V wm_X3_36 wi_X3_measure wl_X3_measure wn_X3 wc_X3_measure) rfl rfl rfl wd_X3_measure ⟨Nat.le_of_ble_eq_true rfl, Nat.le_of_ble_eq_true rfl⟩) (by omega) (by omega) obX_1 rfl rfl hl.1 rfl (Nat.le_of_ble_eq_true rfl) dX3_addRoad_41 ⟨Nat.zero_le _, Nat.zero_le _⟩ (fun M41_11 H locs hw I => ?_)
  refine lv_iload hx hb dX3_addRoad_44 (lv_at hl 0 rfl) ?_
  exact g_iret hx hb hr hlk I hv4_1 hw dX3_addRoad_46
abbrev rmX3_dropRoad : Room := { frames := 3, cells := 0, slots := 0, locals := 69 }
abbrev wtX3_dropRoad : List Cond := Cond.code yX3_dropRoad cX3_dropRoad 1 none :: lw_g
set_option maxRecDepth 100000 in
set_option maxHeartbeats 4000000 in
theorem mX3_dropRoad (l : Launch) (g : GP) (M : Mem) (post : Mem → Prop) (sz : Nat) (hw : wpX3_dropRoad M post) : MVX l yX3_dropRoad wtX3_dropRoad rmX3_dropRoad g [.ref (g.2.2.2 1)] M sz post := by
  refine Met.ofW (cc := cX3_dropRoad) (maxL := 1) (ret := none) (by decide) rfl ?_
  intro p e s m args below meth c s₁ B hml hv
  obtain ⟨rfl, hpre⟩ := hv
  have hsz := hpre.1
  subst hsz
  have C : Cx p m c cX3_dropRoad 1 s _ lw_g RX3 meth none := ⟨⟨B.exec, B.bytes, hml, findClass_of_methodNamed B.named, fun w h => atoms_spec (ws := wtX3_dropRoad) B.pre w (List.mem_cons_of_mem _ h)⟩, B.returns, B.notSynchronized⟩
  obtain ⟨⟨hx, hb, hml, hown, hts⟩, hr, hlk⟩ := id C
  have I := InG.start hpre
  have hl := lv_entry ([.ref (g.2.2.2 1)]) (n := 1) (Nat.le_of_ble_eq_true rfl)
  rw [lg_entry_eq]
  generalize (lg_sl ([.ref (g.2.2.2 1)]) ++ List.replicate (1 - (lg_sl ([.ref (g.2.2.2 1)])).length) Slot.unset).toArray = ls at hl ⊢
  have hl : lv_has ls 1 [(0, .ref (g.2.2.2 1))] := hl
  show W p l e rmX3_dropRoad s m _ below meth c s.heap [] 0 0 (QVX below _ s g post) _
  refine lv_aload_n hx hb dX3_dropRoad_0 rfl (lv_at hl 0 rfl) ?_
  refine lv_dup hx hb dX3_dropRoad_1 rfl ?_
  refine xg_1_1 hx hb hts wu_X3 hown I wf_X3_39 dX3_dropRoad_2 ?_
  have h_1 := I.rng 1 1
  refine li_iconst hx hb dX3_dropRoad_5 ?_
  refine li_isub hx hb dX3_dropRoad_6 ?_
  obtain ⟨h_2, hw⟩ := hw
  refine xp_1_1 hx hb hts wu_X3 hown I wf_X3_39 h_2 dX3_dropRoad_7 (fun H locs M7_2 eM7_2 I => ?_)
  replace hw := hw M7_2 eM7_2
  refine lv_aload_n hx hb dX3_dropRoad_10 rfl (lv_at hl 0 rfl) ?_
  refine g_callVv (o := 1) (As := []) (rest := []) ⟨hx, hb, hml, hown, hts⟩ I (mX3_measure l g M7_2 _ _ hw) (cwV 0 hts (gd_V wm_X3_36 wi_X3_measure wl_X3_measure wn_X3 wc_X3_measure) rfl rfl rfl wd_X3_measure ⟨Nat.le_of_ble_eq_true rfl, Nat.le_of_ble_eq_true rfl⟩) (by omega) (by omega) obX_1 rfl rfl hl.1 rfl (Nat.le_of_ble_eq_true rfl) dX3_dropRoad_11 ⟨Nat.zero_le _, Nat.zero_le _⟩ (fun M11_3 H locs hw I => ?_)
  exact g_vret hx hb hr hlk I hw dX3_dropRoad_14
abbrev rmX3_gates : Room := { frames := 0, cells := 0, slots := 0, locals := 0 }
abbrev wtX3_gates : List Cond := Cond.code yX3_gates cX3_gates 3 (some .int) :: lw_g
set_option maxRecDepth 100000 in
set_option maxHeartbeats 4000000 in
theorem bX3_gates_25 {p : Program} {l : Launch} {e : Env} {s : State} {m : MethodId} {args : Array Value} {below : List Frame} {meth : Method} {c : Code} {g : GP} (C : Cx p m c cX3_gates 3 s args lw_g RX3 meth (some .int)) (post : Int → Mem → Prop) (k4 : Int → Int → Mem → Prop) (hk4 : ∀ (x1 x2 : Int), inR x1 → inR x2 → ∀ (M : Mem) (H : Heap) (locs : List Loc) (ls : Array Slot), k4 x1 x2 M → IX g s M H locs → lv_has ls 3 [(0, .ref (g.2.2.2 1)), (1, .int (i32 x1)), (2, .int (i32 x2))] → W p l e rmX3_gates s m args below meth c H locs 0 0 (QIX below args s g post) (F0 m 4 ls [])) : ∀ (x1 x2 : Int), inR x1 → inR x2 → ∀ (M : Mem) (H : Heap) (locs : List Loc) (ls : Array Slot), jbX3_gates_25 post k4 x1 x2 M → IX g s M H locs → lv_has ls 3 [(0, .ref (g.2.2.2 1)), (1, .int (i32 x1)), (2, .int (i32 x2))] → W p l e rmX3_gates s m args below meth c H locs 0 0 (QIX below args s g post) (F0 m 25 ls []) := by
  obtain ⟨⟨hx, hb, hml, hown, hts⟩, hr, hlk⟩ := id C
  intro x1 x2 h1 h2 M H locs ls hw I hl
  refine li_iinc (lv' := [(2, .int (i32 (x2 + 1))), (0, .ref (g.2.2.2 1)), (1, .int (i32 x1))]) hx hb dX3_gates_25 hl (k := 2) rfl (by decide) rfl (fun ls hl => ?_)
  refine lv_goto (tgt := 4) hx hb dX3_gates_28 (by decide) ?_
  obtain ⟨h_1, hw⟩ := hw
  exact hk4 x1 (x2 + 1) h1 h_1 _ _ _ _ hw I (lv_sub hl [1, 2, 0] rfl)
set_option maxRecDepth 100000 in
set_option maxHeartbeats 4000000 in
theorem bX3_gates_4 {p : Program} {l : Launch} {e : Env} {s : State} {m : MethodId} {args : Array Value} {below : List Frame} {meth : Method} {c : Code} {g : GP} (C : Cx p m c cX3_gates 3 s args lw_g RX3 meth (some .int)) (post : Int → Mem → Prop) : ∀ (n : Nat), ∀ (x1 x2 : Int), inR x1 → inR x2 → ∀ (M : Mem) (H : Heap) (locs : List Loc) (ls : Array Slot), lpX3_gates_4 post n x1 x2 M → IX g s M H locs → lv_has ls 3 [(0, .ref (g.2.2.2 1)), (1, .int (i32 x1)), (2, .int (i32 x2))] → W p l e rmX3_gates s m args below meth c H locs 0 0 (QIX below args s g post) (F0 m 4 ls []) := by
  obtain ⟨⟨hx, hb, hml, hown, hts⟩, hr, hlk⟩ := id C
  intro n
  induction n with
  | zero =>
    intro x1 x2 h1 h2 M H locs ls hw
    exact hw.elim
  | succ n ih =>
    intro x1 x2 h1 h2 M H locs ls hw I hl
    refine lv_iload_n hx hb dX3_gates_4 rfl (lv_at hl 2 rfl) ?_
    refine lv_aload_n hx hb dX3_gates_5 rfl (lv_at hl 0 rfl) ?_
    refine xg_1_0 hx hb hts wu_X3 hown I wf_X3_32 dX3_gates_6 ?_
    have h_1 := I.rng 1 0
    refine li_icmp_ge (tgt := 31) hx hb dX3_gates_9 (by decide) h2 h_1 (fun c_2 => ?_) (fun c_2 => ?_)
    · replace hw := hw.1 c_2
      refine lv_iload_n hx hb dX3_gates_31 rfl (lv_at hl 1 rfl) ?_
      exact g_iret hx hb hr hlk I h1 hw dX3_gates_32
    · replace hw := hw.2 c_2
      refine lv_aload_n hx hb dX3_gates_12 rfl (lv_at hl 0 rfl) ?_
      refine xg_1_5 hx hb hts wu_X3 hown I wf_X3_21 dX3_gates_13 ?_
      refine lv_iload_n hx hb dX3_gates_16 rfl (lv_at hl 2 rfl) ?_
      obtain ⟨h_3, hw⟩ := hw
      refine x_iald hx hb I 18 lenX_18 h_3 dX3_gates_17 ?_
      have h_4 := I.rng 18 x2
      refine li_iconst hx hb dX3_gates_18 ?_
      refine li_icmp_eq (tgt := 25) hx hb dX3_gates_19 (by decide) h_4 (by decide) (fun c_5 => ?_) (fun c_5 => ?_)
      · replace hw := hw.1 c_5
        exact bX3_gates_25 C post (fun y1 y2 N => lpX3_gates_4 post n y1 y2 N) ih x1 x2 h1 h2 _ _ _ _ hw I (lv_sub hl [0, 1, 2] rfl)
      · replace hw := hw.2 c_5
        refine li_iinc (lv' := [(1, .int (i32 (x1 + 1))), (0, .ref (g.2.2.2 1)), (2, .int (i32 x2))]) hx hb dX3_gates_22 hl (k := 1) rfl (by decide) rfl (fun ls hl => ?_)
        obtain ⟨h_6, hw⟩ := hw
        exact bX3_gates_25 C post (fun y1 y2 N => lpX3_gates_4 post n y1 y2 N) ih (x1 + 1) x2 h_6 h2 _ _ _ _ hw I (lv_sub hl [1, 0, 2] rfl)
set_option maxRecDepth 100000 in
set_option maxHeartbeats 4000000 in
theorem mX3_gates (l : Launch) (g : GP) (M : Mem) (post : Int → Mem → Prop) (sz : Nat) (hw : wpX3_gates M post) : MIX l yX3_gates wtX3_gates rmX3_gates g [.ref (g.2.2.2 1)] M sz post := by
  refine Met.ofW (cc := cX3_gates) (maxL := 3) (ret := (some .int)) (by decide) rfl ?_
  intro p e s m args below meth c s₁ B hml hv
  obtain ⟨rfl, hpre⟩ := hv
  have hsz := hpre.1
  subst hsz
  have C : Cx p m c cX3_gates 3 s _ lw_g RX3 meth (some .int) := ⟨⟨B.exec, B.bytes, hml, findClass_of_methodNamed B.named, fun w h => atoms_spec (ws := wtX3_gates) B.pre w (List.mem_cons_of_mem _ h)⟩, B.returns, B.notSynchronized⟩
  obtain ⟨⟨hx, hb, hml, hown, hts⟩, hr, hlk⟩ := id C
  have I := InG.start hpre
  have hl := lv_entry ([.ref (g.2.2.2 1)]) (n := 3) (Nat.le_of_ble_eq_true rfl)
  rw [lg_entry_eq]
  generalize (lg_sl ([.ref (g.2.2.2 1)]) ++ List.replicate (3 - (lg_sl ([.ref (g.2.2.2 1)])).length) Slot.unset).toArray = ls at hl ⊢
  have hl : lv_has ls 3 [(0, .ref (g.2.2.2 1))] := hl
  show W p l e rmX3_gates s m _ below meth c s.heap [] 0 0 (QIX below _ s g post) _
  refine li_iconst hx hb dX3_gates_0 ?_
  refine lv_istore_n (lv' := [(1, .int (i32 0)), (0, .ref (g.2.2.2 1))]) hx hb dX3_gates_1 rfl hl (by decide) rfl (fun ls hl => ?_)
  refine li_iconst hx hb dX3_gates_2 ?_
  refine lv_istore_n (lv' := [(2, .int (i32 0)), (1, .int (i32 0)), (0, .ref (g.2.2.2 1))]) hx hb dX3_gates_3 rfl hl (by decide) rfl (fun ls hl => ?_)
  obtain ⟨n1, hw⟩ := hw
  exact bX3_gates_4 C post n1 0 0 (by decide) (by decide) _ _ _ _ hw I (lv_sub hl [2, 1, 0] rfl)
