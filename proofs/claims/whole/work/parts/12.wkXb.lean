abbrev rmX3_isJoined : Room := { frames := 0, cells := 0, slots := 0, locals := 0 }
abbrev wtX3_isJoined : List Cond := Cond.code yX3_isJoined cX3_isJoined 2 (some .boolean) :: lw_g
set_option maxRecDepth 100000 in
set_option maxHeartbeats 4000000 in
theorem bX3_isJoined_2 {p : Program} {l : Launch} {e : Env} {s : State} {m : MethodId} {args : Array Value} {below : List Frame} {meth : Method} {c : Code} {g : GP} (C : Cx p m c cX3_isJoined 2 s args lw_g RX3 meth (some .boolean)) (post : Int → Mem → Prop) : ∀ (n : Nat), ∀ (x1 : Int), inR x1 → ∀ (M : Mem) (H : Heap) (locs : List Loc) (ls : Array Slot), lpX3_isJoined_2 post n x1 M → IX g s M H locs → lv_has ls 2 [(0, .ref (g.2.2.2 1)), (1, .int (i32 x1))] → W p l e rmX3_isJoined s m args below meth c H locs 0 0 (QIX below args s g post) (F0 m 2 ls []) := by
  obtain ⟨⟨hx, hb, hml, hown, hts⟩, hr, hlk⟩ := id C
  intro n
  induction n with
  | zero =>
    intro x1 h1 M H locs ls hw
    exact hw.elim
  | succ n ih =>
    intro x1 h1 M H locs ls hw I hl
    refine lv_iload_n hx hb dX3_isJoined_2 rfl (lv_at hl 1 rfl) ?_
    refine lv_aload_n hx hb dX3_isJoined_3 rfl (lv_at hl 0 rfl) ?_
    refine xg_1_0 hx hb hts wu_X3 hown I wf_X3_32 dX3_isJoined_4 ?_
    have h_1 := I.rng 1 0
    refine li_icmp_ge (tgt := 31) hx hb dX3_isJoined_7 (by decide) h1 h_1 (fun c_2 => ?_) (fun c_2 => ?_)
    · replace hw := hw.1 c_2
      refine li_iconst hx hb dX3_isJoined_31 ?_
      exact g_zret hx hb hr hlk I (Or.inr rfl) hw dX3_isJoined_32
    · replace hw := hw.2 c_2
      refine lv_aload_n hx hb dX3_isJoined_10 rfl (lv_at hl 0 rfl) ?_
      refine xg_1_7 hx hb hts wu_X3 hown I wf_X3_29 dX3_isJoined_11 ?_
      refine li_iconst hx hb dX3_isJoined_14 ?_
      refine x_aald_11 hx hb I (by decide) dX3_isJoined_15 ?_
      refine lv_iload_n hx hb dX3_isJoined_16 rfl (lv_at hl 1 rfl) ?_
      obtain ⟨h_3, hw⟩ := hw
      refine x_iald hx hb I (50 + 0) (lenX_50 (by decide)) h_3 dX3_isJoined_17 ?_
      have h_4 := I.rng (50 + 0) x1
      refine lv_ldc (v := i32 1000000) hx hb hown (hts _ wk_X3_42) dX3_isJoined_18 ?_
      refine li_icmp_ne (tgt := 25) hx hb dX3_isJoined_20 (by decide) h_4 (by decide) (fun c_5 => ?_) (fun c_5 => ?_)
      · replace hw := hw.1 c_5
        refine li_iinc (lv' := [(1, .int (i32 (x1 + 1))), (0, .ref (g.2.2.2 1))]) hx hb dX3_isJoined_25 hl (k := 1) rfl (by decide) rfl (fun ls hl => ?_)
        refine lv_goto (tgt := 2) hx hb dX3_isJoined_28 (by decide) ?_
        obtain ⟨h_6, hw⟩ := hw
        exact ih (x1 + 1) h_6 _ _ _ _ hw I (lv_sub hl [1, 0] rfl)
      · replace hw := hw.2 c_5
        refine li_iconst hx hb dX3_isJoined_23 ?_
        exact g_zret hx hb hr hlk I (Or.inl rfl) hw dX3_isJoined_24
set_option maxRecDepth 100000 in
set_option maxHeartbeats 4000000 in
theorem mX3_isJoined (l : Launch) (g : GP) (M : Mem) (post : Int → Mem → Prop) (sz : Nat) (hw : wpX3_isJoined M post) : MIX l yX3_isJoined wtX3_isJoined rmX3_isJoined g [.ref (g.2.2.2 1)] M sz post := by
  refine Met.ofW (cc := cX3_isJoined) (maxL := 2) (ret := (some .boolean)) (by decide) rfl ?_
  intro p e s m args below meth c s₁ B hml hv
  obtain ⟨rfl, hpre⟩ := hv
  have hsz := hpre.1
  subst hsz
  have C : Cx p m c cX3_isJoined 2 s _ lw_g RX3 meth (some .boolean) := ⟨⟨B.exec, B.bytes, hml, findClass_of_methodNamed B.named, fun w h => atoms_spec (ws := wtX3_isJoined) B.pre w (List.mem_cons_of_mem _ h)⟩, B.returns, B.notSynchronized⟩
  obtain ⟨⟨hx, hb, hml, hown, hts⟩, hr, hlk⟩ := id C
  have I := InG.start hpre
  have hl := lv_entry ([.ref (g.2.2.2 1)]) (n := 2) (Nat.le_of_ble_eq_true rfl)
  rw [lg_entry_eq]
  generalize (lg_sl ([.ref (g.2.2.2 1)]) ++ List.replicate (2 - (lg_sl ([.ref (g.2.2.2 1)])).length) Slot.unset).toArray = ls at hl ⊢
  have hl : lv_has ls 2 [(0, .ref (g.2.2.2 1))] := hl
  show W p l e rmX3_isJoined s m _ below meth c s.heap [] 0 0 (QIX below _ s g post) _
  refine li_iconst hx hb dX3_isJoined_0 ?_
  refine lv_istore_n (lv' := [(1, .int (i32 0)), (0, .ref (g.2.2.2 1))]) hx hb dX3_isJoined_1 rfl hl (by decide) rfl (fun ls hl => ?_)
  obtain ⟨n1, hw⟩ := hw
  exact bX3_isJoined_2 C post n1 0 (by decide) _ _ _ _ hw I (lv_sub hl [1, 0] rfl)
abbrev rmX3_placeBehind : Room := { frames := 0, cells := 0, slots := 0, locals := 0 }
abbrev wtX3_placeBehind : List Cond := Cond.code yX3_placeBehind cX3_placeBehind 4 (some .int) :: lw_g
set_option maxRecDepth 100000 in
set_option maxHeartbeats 4000000 in
theorem bX3_placeBehind_18 {p : Program} {l : Launch} {e : Env} {s : State} {m : MethodId} {args : Array Value} {below : List Frame} {meth : Method} {c : Code} {g : GP} (C : Cx p m c cX3_placeBehind 4 s args lw_g RX3 meth (some .int)) (post : Int → Mem → Prop) : ∀ (M : Mem) (H : Heap) (locs : List Loc) (ls : Array Slot), jbX3_placeBehind_18 post  M → IX g s M H locs → lv_has ls 4 [(0, .ref (g.2.2.2 1))] → W p l e rmX3_placeBehind s m args below meth c H locs 0 0 (QIX below args s g post) (F0 m 18 ls []) := by
  obtain ⟨⟨hx, hb, hml, hown, hts⟩, hr, hlk⟩ := id C
  intro M H locs ls hw I hl
  refine li_iconst hx hb dX3_placeBehind_18 ?_
  exact g_iret hx hb hr hlk I (by decide) hw dX3_placeBehind_19
set_option maxRecDepth 100000 in
set_option maxHeartbeats 4000000 in
theorem bX3_placeBehind_22 {p : Program} {l : Launch} {e : Env} {s : State} {m : MethodId} {args : Array Value} {below : List Frame} {meth : Method} {c : Code} {g : GP} (C : Cx p m c cX3_placeBehind 4 s args lw_g RX3 meth (some .int)) (post : Int → Mem → Prop) : ∀ (n : Nat), ∀ (x1 x2 x3 : Int), inR x1 → inR x2 → inR x3 → ∀ (M : Mem) (H : Heap) (locs : List Loc) (ls : Array Slot), lpX3_placeBehind_22 post n x1 x2 x3 M → IX g s M H locs → lv_has ls 4 [(0, .ref (g.2.2.2 1)), (1, .int (i32 x1)), (2, .int (i32 x2)), (3, .int (i32 x3))] → W p l e rmX3_placeBehind s m args below meth c H locs 0 0 (QIX below args s g post) (F0 m 22 ls []) := by
  obtain ⟨⟨hx, hb, hml, hown, hts⟩, hr, hlk⟩ := id C
  intro n
  induction n with
  | zero =>
    intro x1 x2 x3 h1 h2 h3 M H locs ls hw
    exact hw.elim
  | succ n ih =>
    intro x1 x2 x3 h1 h2 h3 M H locs ls hw I hl
    refine lv_iload_n hx hb dX3_placeBehind_22 rfl (lv_at hl 3 rfl) ?_
    refine lv_aload_n hx hb dX3_placeBehind_23 rfl (lv_at hl 0 rfl) ?_
    refine xg_1_0 hx hb hts wu_X3 hown I wf_X3_32 dX3_placeBehind_24 ?_
    have h_1 := I.rng 1 0
    refine li_icmp_ge (tgt := 66) hx hb dX3_placeBehind_27 (by decide) h3 h_1 (fun c_2 => ?_) (fun c_2 => ?_)
    · replace hw := hw.1 c_2
      refine li_iconst hx hb dX3_placeBehind_66 ?_
      exact g_iret hx hb hr hlk I (by decide) hw dX3_placeBehind_67
    · replace hw := hw.2 c_2
      refine lv_aload_n hx hb dX3_placeBehind_30 rfl (lv_at hl 0 rfl) ?_
      refine xg_1_6 hx hb hts wu_X3 hown I wf_X3_26 dX3_placeBehind_31 ?_
      refine lv_iload_n hx hb dX3_placeBehind_34 rfl (lv_at hl 1 rfl) ?_
      obtain ⟨h_3, hw⟩ := hw
      refine x_aald_10 hx hb I h_3 dX3_placeBehind_35 ?_
      refine lv_iload_n hx hb dX3_placeBehind_36 rfl (lv_at hl 3 rfl) ?_
      obtain ⟨h_4, hw⟩ := hw
      refine x_iald hx hb I (40 + x1) (lenX_40 h_3) h_4 dX3_placeBehind_37 ?_
      have h_5 := I.rng (40 + x1) x3
      refine lv_aload_n hx hb dX3_placeBehind_38 rfl (lv_at hl 0 rfl) ?_
      refine xg_1_7 hx hb hts wu_X3 hown I wf_X3_29 dX3_placeBehind_39 ?_
      refine lv_iload_n hx hb dX3_placeBehind_42 rfl (lv_at hl 3 rfl) ?_
      obtain ⟨h_6, hw⟩ := hw
      refine x_aald_11 hx hb I h_6 dX3_placeBehind_43 ?_
      refine lv_iload_n hx hb dX3_placeBehind_44 rfl (lv_at hl 2 rfl) ?_
      obtain ⟨h_7, hw⟩ := hw
      refine x_iald hx hb I (50 + x3) (lenX_50 h_6) h_7 dX3_placeBehind_45 ?_
      have h_8 := I.rng (50 + x3) x2
      refine li_iadd hx hb dX3_placeBehind_46 ?_
      refine lv_aload_n hx hb dX3_placeBehind_47 rfl (lv_at hl 0 rfl) ?_
      refine xg_1_7 hx hb hts wu_X3 hown I wf_X3_29 dX3_placeBehind_48 ?_
      refine lv_iload_n hx hb dX3_placeBehind_51 rfl (lv_at hl 1 rfl) ?_
      obtain ⟨h_9, hw⟩ := hw
      refine x_aald_11 hx hb I h_9 dX3_placeBehind_52 ?_
      refine lv_iload_n hx hb dX3_placeBehind_53 rfl (lv_at hl 2 rfl) ?_
      obtain ⟨h_10, hw⟩ := hw
      refine x_iald hx hb I (50 + x1) (lenX_50 h_9) h_10 dX3_placeBehind_54 ?_
      have h_11 := I.rng (50 + x1) x2
      obtain ⟨h_13, hw⟩ := hw
      refine li_icmp_ne (tgt := 60) hx hb dX3_placeBehind_55 (by decide) h_13 h_11 (fun c_12 => ?_) (fun c_12 => ?_)
      · replace hw := hw.1 c_12
        refine li_iinc (lv' := [(3, .int (i32 (x3 + 1))), (0, .ref (g.2.2.2 1)), (1, .int (i32 x1)), (2, .int (i32 x2))]) hx hb dX3_placeBehind_60 hl (k := 3) rfl (by decide) rfl (fun ls hl => ?_)
        refine lv_goto (tgt := 22) hx hb dX3_placeBehind_63 (by decide) ?_
        obtain ⟨h_14, hw⟩ := hw
        exact ih x1 x2 (x3 + 1) h1 h2 h_14 _ _ _ _ hw I (lv_sub hl [1, 2, 3, 0] rfl)
      · replace hw := hw.2 c_12
        refine lv_iload_n hx hb dX3_placeBehind_58 rfl (lv_at hl 3 rfl) ?_
        exact g_iret hx hb hr hlk I h3 hw dX3_placeBehind_59
set_option maxRecDepth 100000 in
set_option maxHeartbeats 4000000 in
theorem mX3_placeBehind (l : Launch) (g : GP) (a1 a2 : Int) (ha1 : inR a1) (ha2 : inR a2) (M : Mem) (post : Int → Mem → Prop) (sz : Nat) (hw : wpX3_placeBehind a1 a2 M post) : MIX l yX3_placeBehind wtX3_placeBehind rmX3_placeBehind g [.ref (g.2.2.2 1), .int (i32 a1), .int (i32 a2)] M sz post := by
  refine Met.ofW (cc := cX3_placeBehind) (maxL := 4) (ret := (some .int)) (by decide) rfl ?_
  intro p e s m args below meth c s₁ B hml hv
  obtain ⟨rfl, hpre⟩ := hv
  have hsz := hpre.1
  subst hsz
  have C : Cx p m c cX3_placeBehind 4 s _ lw_g RX3 meth (some .int) := ⟨⟨B.exec, B.bytes, hml, findClass_of_methodNamed B.named, fun w h => atoms_spec (ws := wtX3_placeBehind) B.pre w (List.mem_cons_of_mem _ h)⟩, B.returns, B.notSynchronized⟩
  obtain ⟨⟨hx, hb, hml, hown, hts⟩, hr, hlk⟩ := id C
  have I := InG.start hpre
  have hl := lv_entry ([.ref (g.2.2.2 1), .int (i32 a1), .int (i32 a2)]) (n := 4) (Nat.le_of_ble_eq_true rfl)
  rw [lg_entry_eq]
  generalize (lg_sl ([.ref (g.2.2.2 1), .int (i32 a1), .int (i32 a2)]) ++ List.replicate (4 - (lg_sl ([.ref (g.2.2.2 1), .int (i32 a1), .int (i32 a2)])).length) Slot.unset).toArray = ls at hl ⊢
  have hl : lv_has ls 4 [(0, .ref (g.2.2.2 1)), (1, .int (i32 a1)), (2, .int (i32 a2))] := hl
  show W p l e rmX3_placeBehind s m _ below meth c s.heap [] 0 0 (QIX below _ s g post) _
  refine lv_iload_n hx hb dX3_placeBehind_0 rfl (lv_at hl 1 rfl) ?_
  refine lv_iload_n hx hb dX3_placeBehind_1 rfl (lv_at hl 2 rfl) ?_
  refine li_icmp_eq (tgt := 18) hx hb dX3_placeBehind_2 (by decide) ha1 ha2 (fun c_1 => ?_) (fun c_1 => ?_)
  · replace hw := hw.1 c_1
    exact bX3_placeBehind_18 C post _ _ _ _ hw I (lv_sub hl [0] rfl)
  · replace hw := hw.2 c_1
    refine lv_aload_n hx hb dX3_placeBehind_5 rfl (lv_at hl 0 rfl) ?_
    refine xg_1_7 hx hb hts wu_X3 hown I wf_X3_29 dX3_placeBehind_6 ?_
    refine lv_iload_n hx hb dX3_placeBehind_9 rfl (lv_at hl 1 rfl) ?_
    obtain ⟨h_2, hw⟩ := hw
    refine x_aald_11 hx hb I h_2 dX3_placeBehind_10 ?_
    refine lv_iload_n hx hb dX3_placeBehind_11 rfl (lv_at hl 2 rfl) ?_
    obtain ⟨h_3, hw⟩ := hw
    refine x_iald hx hb I (50 + a1) (lenX_50 h_2) h_3 dX3_placeBehind_12 ?_
    have h_4 := I.rng (50 + a1) a2
    refine lv_ldc (v := i32 1000000) hx hb hown (hts _ wk_X3_42) dX3_placeBehind_13 ?_
    refine li_icmp_ne (tgt := 20) hx hb dX3_placeBehind_15 (by decide) h_4 (by decide) (fun c_5 => ?_) (fun c_5 => ?_)
    · replace hw := hw.1 c_5
      refine li_iconst hx hb dX3_placeBehind_20 ?_
      refine lv_istore_n (lv' := [(3, .int (i32 0)), (0, .ref (g.2.2.2 1)), (1, .int (i32 a1)), (2, .int (i32 a2))]) hx hb dX3_placeBehind_21 rfl hl (by decide) rfl (fun ls hl => ?_)
      obtain ⟨n1, hw⟩ := hw
      exact bX3_placeBehind_22 C post n1 a1 a2 0 ha1 ha2 (by decide) _ _ _ _ hw I (lv_sub hl [1, 2, 3, 0] rfl)
    · replace hw := hw.2 c_5
      exact bX3_placeBehind_18 C post _ _ _ _ hw I (lv_sub hl [0] rfl)
abbrev rmX5_empty : Room := { frames := 0, cells := 0, slots := 0, locals := 0 }
abbrev wtX5_empty : List Cond := Cond.code yX5_empty cX5_empty 1 none :: lw_g
set_option maxRecDepth 100000 in
set_option maxHeartbeats 4000000 in
theorem mX5_empty (l : Launch) (g : GP) (z : Int) (hz : z = 0 ∨ z = 1) (M : Mem) (post : Mem → Prop) (sz : Nat) (hw : wpX5_empty z M post) : MVX l yX5_empty wtX5_empty rmX5_empty g [.ref (g.2.2.2 (8 + z))] M sz post := by
  refine Met.ofW (cc := cX5_empty) (maxL := 1) (ret := none) (by decide) rfl ?_
  intro p e s m args below meth c s₁ B hml hv
  obtain ⟨rfl, hpre⟩ := hv
  have hsz := hpre.1
  subst hsz
  have C : Cx p m c cX5_empty 1 s _ lw_g RX5 meth none := ⟨⟨B.exec, B.bytes, hml, findClass_of_methodNamed B.named, fun w h => atoms_spec (ws := wtX5_empty) B.pre w (List.mem_cons_of_mem _ h)⟩, B.returns, B.notSynchronized⟩
  obtain ⟨⟨hx, hb, hml, hown, hts⟩, hr, hlk⟩ := id C
  have I := InG.start hpre
  have hl := lv_entry ([.ref (g.2.2.2 (8 + z))]) (n := 1) (Nat.le_of_ble_eq_true rfl)
  rw [lg_entry_eq]
  generalize (lg_sl ([.ref (g.2.2.2 (8 + z))]) ++ List.replicate (1 - (lg_sl ([.ref (g.2.2.2 (8 + z))])).length) Slot.unset).toArray = ls at hl ⊢
  have hl : lv_has ls 1 [(0, .ref (g.2.2.2 (8 + z)))] := hl
  show W p l e rmX5_empty s m _ below meth c s.heap [] 0 0 (QVX below _ s g post) _
  refine lv_aload_n hx hb dX5_empty_0 rfl (lv_at hl 0 rfl) ?_
  refine li_iconst hx hb dX5_empty_1 ?_
  refine xp_N_0 (z := z) hz hx hb hts wu_X5 hown I wf_X5_30 (by decide) dX5_empty_2 (fun H locs M2_0 eM2_0 I => ?_)
  replace hw := hw M2_0 eM2_0
  refine lv_aload_n hx hb dX5_empty_5 rfl (lv_at hl 0 rfl) ?_
  refine li_iconst hx hb dX5_empty_6 ?_
  refine xp_N_1 (z := z) hz hx hb hts wu_X5 hown I wf_X5_34 (by decide) dX5_empty_7 (fun H locs M7_1 eM7_1 I => ?_)
  replace hw := hw M7_1 eM7_1
  refine lv_aload_n hx hb dX5_empty_10 rfl (lv_at hl 0 rfl) ?_
  refine li_iconst hx hb dX5_empty_11 ?_
  refine xp_N_2 (z := z) hz hx hb hts wu_X5 hown I wf_X5_37 (by decide) dX5_empty_12 (fun H locs M12_2 eM12_2 I => ?_)
  replace hw := hw M12_2 eM12_2
  exact g_vret hx hb hr hlk I hw dX5_empty_15
abbrev rmX5_addArc : Room := { frames := 0, cells := 0, slots := 0, locals := 0 }
abbrev wtX5_addArc : List Cond := Cond.code yX5_addArc cX5_addArc 5 none :: lw_g
set_option maxRecDepth 100000 in
set_option maxHeartbeats 4000000 in
theorem mX5_addArc (l : Launch) (g : GP) (z : Int) (hz : z = 0 ∨ z = 1) (a1 a2 a3 a4 : Int) (ha1 : inR a1) (ha2 : inR a2) (ha3 : inR a3) (ha4 : inR a4) (M : Mem) (post : Mem → Prop) (sz : Nat) (hw : wpX5_addArc z a1 a2 a3 a4 M post) : MVX l yX5_addArc wtX5_addArc rmX5_addArc g [.ref (g.2.2.2 (8 + z)), .int (i32 a1), .int (i32 a2), .int (i32 a3), .int (i32 a4)] M sz post := by
  refine Met.ofW (cc := cX5_addArc) (maxL := 5) (ret := none) (by decide) rfl ?_
  intro p e s m args below meth c s₁ B hml hv
  obtain ⟨rfl, hpre⟩ := hv
  have hsz := hpre.1
  subst hsz
  have C : Cx p m c cX5_addArc 5 s _ lw_g RX5 meth none := ⟨⟨B.exec, B.bytes, hml, findClass_of_methodNamed B.named, fun w h => atoms_spec (ws := wtX5_addArc) B.pre w (List.mem_cons_of_mem _ h)⟩, B.returns, B.notSynchronized⟩
  obtain ⟨⟨hx, hb, hml, hown, hts⟩, hr, hlk⟩ := id C
  have I := InG.start hpre
  have hl := lv_entry ([.ref (g.2.2.2 (8 + z)), .int (i32 a1), .int (i32 a2), .int (i32 a3), .int (i32 a4)]) (n := 5) (Nat.le_of_ble_eq_true rfl)
  rw [lg_entry_eq]
  generalize (lg_sl ([.ref (g.2.2.2 (8 + z)), .int (i32 a1), .int (i32 a2), .int (i32 a3), .int (i32 a4)]) ++ List.replicate (5 - (lg_sl ([.ref (g.2.2.2 (8 + z)), .int (i32 a1), .int (i32 a2), .int (i32 a3), .int (i32 a4)])).length) Slot.unset).toArray = ls at hl ⊢
  have hl : lv_has ls 5 [(0, .ref (g.2.2.2 (8 + z))), (1, .int (i32 a1)), (2, .int (i32 a2)), (3, .int (i32 a3)), (4, .int (i32 a4))] := hl
  show W p l e rmX5_addArc s m _ below meth c s.heap [] 0 0 (QVX below _ s g post) _
  refine lv_aload_n hx hb dX5_addArc_0 rfl (lv_at hl 0 rfl) ?_
  refine xg_N_3 (z := z) hz hx hb hts wu_X5 hown I wf_X5_9 dX5_addArc_1 ?_
  refine lv_aload_n hx hb dX5_addArc_4 rfl (lv_at hl 0 rfl) ?_
  refine xg_N_0 (z := z) hz hx hb hts wu_X5 hown I wf_X5_30 dX5_addArc_5 ?_
  have h_1 := I.rng (8 + z) 0
  refine lv_iload_n hx hb dX5_addArc_8 rfl (lv_at hl 1 rfl) ?_
  obtain ⟨h_2, hw⟩ := hw
  refine x_iast hx hb I (28 + z) (lenX_28 hz) h_2 ha1 dX5_addArc_9 (fun H locs M9_2 eM9_2 I => ?_)
  replace hw := hw M9_2 eM9_2
  refine lv_aload_n hx hb dX5_addArc_10 rfl (lv_at hl 0 rfl) ?_
  refine xg_N_4 (z := z) hz hx hb hts wu_X5 hown I wf_X5_15 dX5_addArc_11 ?_
  refine lv_aload_n hx hb dX5_addArc_14 rfl (lv_at hl 0 rfl) ?_
  refine xg_N_0 (z := z) hz hx hb hts wu_X5 hown I wf_X5_30 dX5_addArc_15 ?_
  have h_4 := I.rng (8 + z) 0
  refine lv_iload_n hx hb dX5_addArc_18 rfl (lv_at hl 2 rfl) ?_
  obtain ⟨h_5, hw⟩ := hw
  refine x_iast hx hb I (30 + z) (lenX_30 hz) h_5 ha2 dX5_addArc_19 (fun H locs M19_5 eM19_5 I => ?_)
  replace hw := hw M19_5 eM19_5
  refine lv_aload_n hx hb dX5_addArc_20 rfl (lv_at hl 0 rfl) ?_
  refine xg_N_5 (z := z) hz hx hb hts wu_X5 hown I wf_X5_18 dX5_addArc_21 ?_
  refine lv_aload_n hx hb dX5_addArc_24 rfl (lv_at hl 0 rfl) ?_
  refine xg_N_0 (z := z) hz hx hb hts wu_X5 hown I wf_X5_30 dX5_addArc_25 ?_
  have h_7 := I.rng (8 + z) 0
  refine lv_iload_n hx hb dX5_addArc_28 rfl (lv_at hl 3 rfl) ?_
  obtain ⟨h_8, hw⟩ := hw
  refine x_iast hx hb I (32 + z) (lenX_32 hz) h_8 ha3 dX5_addArc_29 (fun H locs M29_8 eM29_8 I => ?_)
  replace hw := hw M29_8 eM29_8
  refine lv_aload_n hx hb dX5_addArc_30 rfl (lv_at hl 0 rfl) ?_
  refine xg_N_6 (z := z) hz hx hb hts wu_X5 hown I wf_X5_21 dX5_addArc_31 ?_
  refine lv_aload_n hx hb dX5_addArc_34 rfl (lv_at hl 0 rfl) ?_
  refine xg_N_0 (z := z) hz hx hb hts wu_X5 hown I wf_X5_30 dX5_addArc_35 ?_
  have h_10 := I.rng (8 + z) 0
  refine lv_iload hx hb dX5_addArc_38 (lv_at hl 4 rfl) ?_
  obtain ⟨h_11, hw⟩ := hw
  refine x_iast hx hb I (34 + z) (lenX_34 hz) h_11 ha4 dX5_addArc_40 (fun H locs M40_11 eM40_11 I => ?_)
  replace hw := hw M40_11 eM40_11
  refine lv_aload_n hx hb dX5_addArc_41 rfl (lv_at hl 0 rfl) ?_
  refine lv_dup hx hb dX5_addArc_42 rfl ?_
  refine xg_N_0 (z := z) hz hx hb hts wu_X5 hown I wf_X5_30 dX5_addArc_43 ?_
  have h_13 := I.rng (8 + z) 0
  refine li_iconst hx hb dX5_addArc_46 ?_
  refine li_iadd hx hb dX5_addArc_47 ?_
  obtain ⟨h_14, hw⟩ := hw
  refine xp_N_0 (z := z) hz hx hb hts wu_X5 hown I wf_X5_30 h_14 dX5_addArc_48 (fun H locs M48_14 eM48_14 I => ?_)
  replace hw := hw M48_14 eM48_14
  exact g_vret hx hb hr hlk I hw dX5_addArc_51
abbrev rmX5_join : Room := { frames := 1, cells := 0, slots := 0, locals := 24 }
abbrev wtX5_join : List Cond := Cond.code yX5_join cX5_join 5 none :: lw_g
set_option maxRecDepth 100000 in
set_option maxHeartbeats 4000000 in
theorem mX5_join (l : Launch) (g : GP) (z : Int) (hz : z = 0 ∨ z = 1) (a1 a2 a3 a4 : Int) (ha1 : inR a1) (ha2 : inR a2) (ha3 : inR a3) (ha4 : inR a4) (M : Mem) (post : Mem → Prop) (sz : Nat) (hw : wpX5_join z a1 a2 a3 a4 M post) : MVX l yX5_join wtX5_join rmX5_join g [.ref (g.2.2.2 (8 + z)), .int (i32 a1), .int (i32 a2), .int (i32 a3), .int (i32 a4)] M sz post := by
  refine Met.ofW (cc := cX5_join) (maxL := 5) (ret := none) (by decide) rfl ?_
  intro p e s m args below meth c s₁ B hml hv
  obtain ⟨rfl, hpre⟩ := hv
  have hsz := hpre.1
  subst hsz
  have C : Cx p m c cX5_join 5 s _ lw_g RX5 meth none := ⟨⟨B.exec, B.bytes, hml, findClass_of_methodNamed B.named, fun w h => atoms_spec (ws := wtX5_join) B.pre w (List.mem_cons_of_mem _ h)⟩, B.returns, B.notSynchronized⟩
  obtain ⟨⟨hx, hb, hml, hown, hts⟩, hr, hlk⟩ := id C
  have I := InG.start hpre
  have hl := lv_entry ([.ref (g.2.2.2 (8 + z)), .int (i32 a1), .int (i32 a2), .int (i32 a3), .int (i32 a4)]) (n := 5) (Nat.le_of_ble_eq_true rfl)
  rw [lg_entry_eq]
  generalize (lg_sl ([.ref (g.2.2.2 (8 + z)), .int (i32 a1), .int (i32 a2), .int (i32 a3), .int (i32 a4)]) ++ List.replicate (5 - (lg_sl ([.ref (g.2.2.2 (8 + z)), .int (i32 a1), .int (i32 a2), .int (i32 a3), .int (i32 a4)])).length) Slot.unset).toArray = ls at hl ⊢
  have hl : lv_has ls 5 [(0, .ref (g.2.2.2 (8 + z))), (1, .int (i32 a1)), (2, .int (i32 a2)), (3, .int (i32 a3)), (4, .int (i32 a4))] := hl
  show W p l e rmX5_join s m _ below meth c s.heap [] 0 0 (QVX below _ s g post) _
  refine lv_aload_n hx hb dX5_join_0 rfl (lv_at hl 0 rfl) ?_
  refine xg_N_0 (z := z) hz hx hb hts wu_X5 hown I wf_X5_30 dX5_join_1 ?_
  have h_1 := I.rng (8 + z) 0
  refine li_iconst hx hb dX5_join_4 ?_
  refine li_iadd hx hb dX5_join_5 ?_
  refine lv_sipush (v := i32 240) hx hb dX5_join_6 (by decide) ?_
  obtain ⟨h_3, hw⟩ := hw
  refine li_icmp_le (tgt := 13) hx hb dX5_join_9 (by decide) h_3 (by decide) (fun c_2 => ?_) (fun c_2 => ?_)
  · replace hw := hw.1 c_2
    refine lv_aload_n hx hb dX5_join_13 rfl (lv_at hl 0 rfl) ?_
    refine lv_iload_n hx hb dX5_join_14 rfl (lv_at hl 1 rfl) ?_
    refine lv_iload_n hx hb dX5_join_15 rfl (lv_at hl 2 rfl) ?_
    refine lv_iload_n hx hb dX5_join_16 rfl (lv_at hl 3 rfl) ?_
    refine lv_iload hx hb dX5_join_17 (lv_at hl 4 rfl) ?_
    refine g_callVv (o := (8 + z)) (As := [.int (i32 a1), .int (i32 a2), .int (i32 a3), .int (i32 a4)]) (rest := []) ⟨hx, hb, hml, hown, hts⟩ I (mX5_addArc l g z hz a1 a2 a3 a4 ha1 ha2 ha3 ha4 M _ _ hw) (cwV 4 hts (gd_V wm_X5_40 wi_X5_addArc wl_X5_addArc wn_X5 wc_X5_addArc) rfl rfl rfl wd_X5_addArc ⟨Nat.le_of_ble_eq_true rfl, Nat.le_of_ble_eq_true rfl⟩) (by omega) (by omega) (obX_N hz) rfl rfl hl.1 rfl (Nat.le_of_ble_eq_true rfl) dX5_join_19 ⟨Nat.zero_le _, Nat.zero_le _⟩ (fun M19_3 H locs hw I => ?_)
    refine lv_aload_n hx hb dX5_join_22 rfl (lv_at hl 0 rfl) ?_
    refine lv_iload_n hx hb dX5_join_23 rfl (lv_at hl 2 rfl) ?_
    refine lv_iload_n hx hb dX5_join_24 rfl (lv_at hl 1 rfl) ?_
    refine li_iconst hx hb dX5_join_25 ?_
    refine lv_iload hx hb dX5_join_26 (lv_at hl 4 rfl) ?_
    refine li_ineg hx hb dX5_join_28 ?_
    obtain ⟨h_5, hw⟩ := hw
    refine g_callVv (o := (8 + z)) (As := [.int (i32 a2), .int (i32 a1), .int (i32 0), .int (i32 (-a4))]) (rest := []) ⟨hx, hb, hml, hown, hts⟩ I (mX5_addArc l g z hz a2 a1 0 (-a4) ha2 ha1 (by decide) h_5 M19_3 _ _ hw) (cwV 4 hts (gd_V wm_X5_40 wi_X5_addArc wl_X5_addArc wn_X5 wc_X5_addArc) rfl rfl rfl wd_X5_addArc ⟨Nat.le_of_ble_eq_true rfl, Nat.le_of_ble_eq_true rfl⟩) (by omega) (by omega) (obX_N hz) rfl rfl hl.1 rfl (Nat.le_of_ble_eq_true rfl) dX5_join_29 ⟨Nat.zero_le _, Nat.zero_le _⟩ (fun M29_5 H locs hw I => ?_)
    exact g_vret hx hb hr hlk I hw dX5_join_32
  · replace hw := hw.2 c_2
    exact g_vret hx hb hr hlk I hw dX5_join_12
abbrev rmX4_joinSource : Room := { frames := 2, cells := 0, slots := 0, locals := 48 }
abbrev wtX4_joinSource : List Cond := Cond.code yX4_joinSource cX4_joinSource 6 (some .int) :: lw_g
set_option maxRecDepth 100000 in
set_option maxHeartbeats 4000000 in
theorem bX4_joinSource_58 {p : Program} {l : Launch} {e : Env} {s : State} {m : MethodId} {args : Array Value} {below : List Frame} {meth : Method} {c : Code} {g : GP} (r2 : Int) (r3 : Int) (C : Cx p m c cX4_joinSource 6 s args lw_g RX4 meth (some .int)) (post : Int → Mem → Prop) (k6 : Int → Int → Int → Mem → Prop) (hk6 : ∀ (x1 x4 x5 : Int), inR x1 → inR x4 → inR x5 → ∀ (M : Mem) (H : Heap) (locs : List Loc) (ls : Array Slot), k6 x1 x4 x5 M → IX g s M H locs → lv_has ls 6 [(0, .ref (g.2.2.2 5)), (2, .ref (g.2.2.2 r2)), (3, .ref (g.2.2.2 r3)), (1, .int (i32 x1)), (4, .int (i32 x4)), (5, .int (i32 x5))] → W p l e rmX4_joinSource s m args below meth c H locs 0 0 (QIX below args s g post) (F0 m 6 ls [])) : ∀ (x1 x4 x5 : Int), inR x1 → inR x4 → inR x5 → ∀ (M : Mem) (H : Heap) (locs : List Loc) (ls : Array Slot), jbX4_joinSource_58 r2 r3 post k6 x1 x4 x5 M → IX g s M H locs → lv_has ls 6 [(0, .ref (g.2.2.2 5)), (2, .ref (g.2.2.2 r2)), (3, .ref (g.2.2.2 r3)), (1, .int (i32 x1)), (4, .int (i32 x4)), (5, .int (i32 x5))] → W p l e rmX4_joinSource s m args below meth c H locs 0 0 (QIX below args s g post) (F0 m 58 ls []) := by
  obtain ⟨⟨hx, hb, hml, hown, hts⟩, hr, hlk⟩ := id C
  intro x1 x4 x5 h1 h4 h5 M H locs ls hw I hl
  refine li_iinc (lv' := [(5, .int (i32 (x5 + 1))), (0, .ref (g.2.2.2 5)), (2, .ref (g.2.2.2 r2)), (3, .ref (g.2.2.2 r3)), (1, .int (i32 x1)), (4, .int (i32 x4))]) hx hb dX4_joinSource_58 hl (k := 5) rfl (by decide) rfl (fun ls hl => ?_)
  refine lv_goto (tgt := 6) hx hb dX4_joinSource_61 (by decide) ?_
  obtain ⟨h_1, hw⟩ := hw
  exact hk6 x1 x4 (x5 + 1) h1 h4 h_1 _ _ _ _ hw I (lv_sub hl [1, 2, 3, 4, 5, 0] rfl)
set_option maxRecDepth 100000 in
set_option maxHeartbeats 4000000 in
theorem bX4_joinSource_6 {p : Program} {l : Launch} {e : Env} {s : State} {m : MethodId} {args : Array Value} {below : List Frame} {meth : Method} {c : Code} {g : GP} (r2 : Int) (r3 : Int) (C : Cx p m c cX4_joinSource 6 s args lw_g RX4 meth (some .int)) (post : Int → Mem → Prop) : ∀ (n : Nat), ∀ (x1 x4 x5 : Int), inR x1 → inR x4 → inR x5 → ∀ (M : Mem) (H : Heap) (locs : List Loc) (ls : Array Slot), lpX4_joinSource_6 r2 r3 post n x1 x4 x5 M → IX g s M H locs → lv_has ls 6 [(0, .ref (g.2.2.2 5)), (2, .ref (g.2.2.2 r2)), (3, .ref (g.2.2.2 r3)), (1, .int (i32 x1)), (4, .int (i32 x4)), (5, .int (i32 x5))] → W p l e rmX4_joinSource s m args below meth c H locs 0 0 (QIX below args s g post) (F0 m 6 ls []) := by
  obtain ⟨⟨hx, hb, hml, hown, hts⟩, hr, hlk⟩ := id C
  intro n
  induction n with
  | zero =>
    intro x1 x4 x5 h1 h4 h5 M H locs ls hw
    exact hw.elim
  | succ n ih =>
    intro x1 x4 x5 h1 h4 h5 M H locs ls hw I hl
    refine lv_iload hx hb dX4_joinSource_6 (lv_at hl 5 rfl) ?_
    refine lv_iload_n hx hb dX4_joinSource_8 rfl (lv_at hl 3 rfl) ?_
    refine li_icmp_ge (tgt := 64) hx hb dX4_joinSource_9 (by decide) h5 h1 (fun c_1 => ?_) (fun c_1 => ?_)
    · replace hw := hw.1 c_1
      refine lv_iload hx hb dX4_joinSource_64 (lv_at hl 4 rfl) ?_
      exact g_iret hx hb hr hlk I h4 hw dX4_joinSource_66
    · replace hw := hw.2 c_1
      refine lv_aload_n hx hb dX4_joinSource_12 rfl (lv_at hl 1 rfl) ?_
      refine lv_iload hx hb dX4_joinSource_13 (lv_at hl 5 rfl) ?_
      obtain ⟨h_2, hw⟩ := hw
      refine x_iald hx hb I r2 rfl h_2 dX4_joinSource_15 ?_
      have h_3 := I.rng r2 x5
      refine lv_aload_n hx hb dX4_joinSource_16 rfl (lv_at hl 2 rfl) ?_
      refine lv_iload hx hb dX4_joinSource_17 (lv_at hl 5 rfl) ?_
      obtain ⟨h_4, hw⟩ := hw
      refine x_iald hx hb I r3 rfl h_4 dX4_joinSource_19 ?_
      have h_5 := I.rng r3 x5
      refine li_icmp_le (tgt := 58) hx hb dX4_joinSource_20 (by decide) h_3 h_5 (fun c_6 => ?_) (fun c_6 => ?_)
      · replace hw := hw.1 c_6
        exact bX4_joinSource_58 r2 r3 C post (fun y1 y4 y5 N => lpX4_joinSource_6 r2 r3 post n y1 y4 y5 N) ih x1 x4 x5 h1 h4 h5 _ _ _ _ hw I (lv_sub hl [0, 1, 2, 3, 4, 5] rfl)
      · replace hw := hw.2 c_6
        refine lv_aload_n hx hb dX4_joinSource_23 rfl (lv_at hl 0 rfl) ?_
        refine xg_5_0 hx hb hts wu_X4 hown I wf_X4_12 dX4_joinSource_24 ?_
        refine lv_bipush (v := i32 20) hx hb dX4_joinSource_27 (by decide) ?_
        refine lv_iload hx hb dX4_joinSource_29 (lv_at hl 5 rfl) ?_
        refine lv_aload_n hx hb dX4_joinSource_31 rfl (lv_at hl 1 rfl) ?_
        refine lv_iload hx hb dX4_joinSource_32 (lv_at hl 5 rfl) ?_
        obtain ⟨h_7, hw⟩ := hw
        refine x_iald hx hb I r2 rfl h_7 dX4_joinSource_34 ?_
        have h_8 := I.rng r2 x5
        refine lv_aload_n hx hb dX4_joinSource_35 rfl (lv_at hl 2 rfl) ?_
        refine lv_iload hx hb dX4_joinSource_36 (lv_at hl 5 rfl) ?_
        obtain ⟨h_9, hw⟩ := hw
        refine x_iald hx hb I r3 rfl h_9 dX4_joinSource_38 ?_
        have h_10 := I.rng r3 x5
        refine li_isub hx hb dX4_joinSource_39 ?_
        refine li_iconst hx hb dX4_joinSource_40 ?_
        obtain ⟨h_11, hw⟩ := hw
        refine g_callVv (o := (8 + 0)) (As := [.int (i32 20), .int (i32 x5), .int (i32 ((M r2 x5) - (M r3 x5))), .int (i32 0)]) (rest := []) ⟨hx, hb, hml, hown, hts⟩ I (mX5_join l g 0 (Or.inl rfl) 20 x5 ((M r2 x5) - (M r3 x5)) 0 (by decide) h5 h_11 (by decide) M _ _ hw) (cwV 4 hts (gd_V wm_X4_36 wi_X5_join wl_X5_join wn_X5 wc_X5_join) rfl rfl rfl wd_X5_join ⟨Nat.le_of_ble_eq_true rfl, Nat.le_of_ble_eq_true rfl⟩) (by omega) (by omega) (obX_N (Or.inl rfl)) rfl rfl hl.1 rfl (Nat.le_of_ble_eq_true rfl) dX4_joinSource_41 ⟨Nat.zero_le _, Nat.zero_le _⟩ (fun M41_11 H locs hw I => ?_)
        refine lv_iload hx hb dX4_joinSource_44 (lv_at hl 4 rfl) ?_
        refine lv_aload_n hx hb dX4_joinSource_46 rfl (lv_at hl 1 rfl) ?_
        refine lv_iload hx hb dX4_joinSource_47 (lv_at hl 5 rfl) ?_
        obtain ⟨h_13, hw⟩ := hw
        refine x_iald hx hb I r2 rfl h_13 dX4_joinSource_49 ?_
        have h_14 := I.rng r2 x5
        refine lv_aload_n hx hb dX4_joinSource_50 rfl (lv_at hl 2 rfl) ?_
        refine lv_iload hx hb dX4_joinSource_51 (lv_at hl 5 rfl) ?_
        obtain ⟨h_15, hw⟩ := hw
        refine x_iald hx hb I r3 rfl h_15 dX4_joinSource_53 ?_
        have h_16 := I.rng r3 x5
        refine li_isub hx hb dX4_joinSource_54 ?_
        refine li_iadd hx hb dX4_joinSource_55 ?_
        obtain ⟨h_17, hw⟩ := hw
        refine li_name (fun v56_17 ev56_17 => ?_)
        replace hw := hw v56_17 ev56_17
        have hv56_17 : inR v56_17 := ev56_17 ▸ h_17
        refine lv_istore (lv' := [(4, .int (i32 v56_17)), (0, .ref (g.2.2.2 5)), (2, .ref (g.2.2.2 r2)), (3, .ref (g.2.2.2 r3)), (1, .int (i32 x1)), (5, .int (i32 x5))]) hx hb dX4_joinSource_56 hl (by decide) rfl (fun ls hl => ?_)
        exact bX4_joinSource_58 r2 r3 C post (fun y1 y4 y5 N => lpX4_joinSource_6 r2 r3 post n y1 y4 y5 N) ih x1 v56_17 x5 h1 hv56_17 h5 _ _ _ _ hw I (lv_sub hl [1, 2, 3, 4, 0, 5] rfl)
set_option maxRecDepth 100000 in
set_option maxHeartbeats 4000000 in
theorem mX4_joinSource (l : Launch) (g : GP) (r2 : Int) (r3 : Int) (a1 : Int) (ha1 : inR a1) (M : Mem) (post : Int → Mem → Prop) (sz : Nat) (hw : wpX4_joinSource r2 r3 a1 M post) : MIX l yX4_joinSource wtX4_joinSource rmX4_joinSource g [.ref (g.2.2.2 5), .int (i32 a1), .ref (g.2.2.2 r2), .ref (g.2.2.2 r3)] M sz post := by
  refine Met.ofW (cc := cX4_joinSource) (maxL := 6) (ret := (some .int)) (by decide) rfl ?_
  intro p e s m args below meth c s₁ B hml hv
  obtain ⟨rfl, hpre⟩ := hv
  have hsz := hpre.1
  subst hsz
  have C : Cx p m c cX4_joinSource 6 s _ lw_g RX4 meth (some .int) := ⟨⟨B.exec, B.bytes, hml, findClass_of_methodNamed B.named, fun w h => atoms_spec (ws := wtX4_joinSource) B.pre w (List.mem_cons_of_mem _ h)⟩, B.returns, B.notSynchronized⟩
  obtain ⟨⟨hx, hb, hml, hown, hts⟩, hr, hlk⟩ := id C
  have I := InG.start hpre
  have hl := lv_entry ([.ref (g.2.2.2 5), .int (i32 a1), .ref (g.2.2.2 r2), .ref (g.2.2.2 r3)]) (n := 6) (Nat.le_of_ble_eq_true rfl)
  rw [lg_entry_eq]
  generalize (lg_sl ([.ref (g.2.2.2 5), .int (i32 a1), .ref (g.2.2.2 r2), .ref (g.2.2.2 r3)]) ++ List.replicate (6 - (lg_sl ([.ref (g.2.2.2 5), .int (i32 a1), .ref (g.2.2.2 r2), .ref (g.2.2.2 r3)])).length) Slot.unset).toArray = ls at hl ⊢
  have hl : lv_has ls 6 [(0, .ref (g.2.2.2 5)), (1, .int (i32 a1)), (2, .ref (g.2.2.2 r2)), (3, .ref (g.2.2.2 r3))] := hl
  show W p l e rmX4_joinSource s m _ below meth c s.heap [] 0 0 (QIX below _ s g post) _
  refine li_iconst hx hb dX4_joinSource_0 ?_
  refine lv_istore (lv' := [(4, .int (i32 0)), (0, .ref (g.2.2.2 5)), (1, .int (i32 a1)), (2, .ref (g.2.2.2 r2)), (3, .ref (g.2.2.2 r3))]) hx hb dX4_joinSource_1 hl (by decide) rfl (fun ls hl => ?_)
  refine li_iconst hx hb dX4_joinSource_3 ?_
  refine lv_istore (lv' := [(5, .int (i32 0)), (4, .int (i32 0)), (0, .ref (g.2.2.2 5)), (1, .int (i32 a1)), (2, .ref (g.2.2.2 r2)), (3, .ref (g.2.2.2 r3))]) hx hb dX4_joinSource_4 hl (by decide) rfl (fun ls hl => ?_)
  obtain ⟨n1, hw⟩ := hw
  exact bX4_joinSource_6 r2 r3 C post n1 a1 0 0 ha1 (by decide) (by decide) _ _ _ _ hw I (lv_sub hl [2, 4, 5, 3, 1, 0] rfl)
abbrev rmX4_joinSink : Room := { frames := 2, cells := 0, slots := 0, locals := 48 }
abbrev wtX4_joinSink : List Cond := Cond.code yX4_joinSink cX4_joinSink 5 none :: lw_g
set_option maxRecDepth 100000 in
set_option maxHeartbeats 4000000 in
theorem bX4_joinSink_41 {p : Program} {l : Launch} {e : Env} {s : State} {m : MethodId} {args : Array Value} {below : List Frame} {meth : Method} {c : Code} {g : GP} (r2 : Int) (r3 : Int) (C : Cx p m c cX4_joinSink 5 s args lw_g RX4 meth none) (post : Mem → Prop) (k3 : Int → Int → Mem → Prop) (hk3 : ∀ (x1 x4 : Int), inR x1 → inR x4 → ∀ (M : Mem) (H : Heap) (locs : List Loc) (ls : Array Slot), k3 x1 x4 M → IX g s M H locs → lv_has ls 5 [(0, .ref (g.2.2.2 5)), (2, .ref (g.2.2.2 r2)), (3, .ref (g.2.2.2 r3)), (1, .int (i32 x1)), (4, .int (i32 x4))] → W p l e rmX4_joinSink s m args below meth c H locs 0 0 (QVX below args s g post) (F0 m 3 ls [])) : ∀ (x1 x4 : Int), inR x1 → inR x4 → ∀ (M : Mem) (H : Heap) (locs : List Loc) (ls : Array Slot), jbX4_joinSink_41 r2 r3 post k3 x1 x4 M → IX g s M H locs → lv_has ls 5 [(0, .ref (g.2.2.2 5)), (2, .ref (g.2.2.2 r2)), (3, .ref (g.2.2.2 r3)), (1, .int (i32 x1)), (4, .int (i32 x4))] → W p l e rmX4_joinSink s m args below meth c H locs 0 0 (QVX below args s g post) (F0 m 41 ls []) := by
  obtain ⟨⟨hx, hb, hml, hown, hts⟩, hr, hlk⟩ := id C
  intro x1 x4 h1 h4 M H locs ls hw I hl
  refine li_iinc (lv' := [(4, .int (i32 (x4 + 1))), (0, .ref (g.2.2.2 5)), (2, .ref (g.2.2.2 r2)), (3, .ref (g.2.2.2 r3)), (1, .int (i32 x1))]) hx hb dX4_joinSink_41 hl (k := 4) rfl (by decide) rfl (fun ls hl => ?_)
  refine lv_goto (tgt := 3) hx hb dX4_joinSink_44 (by decide) ?_
  obtain ⟨h_1, hw⟩ := hw
  exact hk3 x1 (x4 + 1) h1 h_1 _ _ _ _ hw I (lv_sub hl [1, 2, 3, 4, 0] rfl)
set_option maxRecDepth 100000 in
set_option maxHeartbeats 4000000 in
theorem bX4_joinSink_3 {p : Program} {l : Launch} {e : Env} {s : State} {m : MethodId} {args : Array Value} {below : List Frame} {meth : Method} {c : Code} {g : GP} (r2 : Int) (r3 : Int) (C : Cx p m c cX4_joinSink 5 s args lw_g RX4 meth none) (post : Mem → Prop) : ∀ (n : Nat), ∀ (x1 x4 : Int), inR x1 → inR x4 → ∀ (M : Mem) (H : Heap) (locs : List Loc) (ls : Array Slot), lpX4_joinSink_3 r2 r3 post n x1 x4 M → IX g s M H locs → lv_has ls 5 [(0, .ref (g.2.2.2 5)), (2, .ref (g.2.2.2 r2)), (3, .ref (g.2.2.2 r3)), (1, .int (i32 x1)), (4, .int (i32 x4))] → W p l e rmX4_joinSink s m args below meth c H locs 0 0 (QVX below args s g post) (F0 m 3 ls []) := by
  obtain ⟨⟨hx, hb, hml, hown, hts⟩, hr, hlk⟩ := id C
  intro n
  induction n with
  | zero =>
    intro x1 x4 h1 h4 M H locs ls hw
    exact hw.elim
  | succ n ih =>
    intro x1 x4 h1 h4 M H locs ls hw I hl
    refine lv_iload hx hb dX4_joinSink_3 (lv_at hl 4 rfl) ?_
    refine lv_iload_n hx hb dX4_joinSink_5 rfl (lv_at hl 3 rfl) ?_
    refine li_icmp_ge (tgt := 47) hx hb dX4_joinSink_6 (by decide) h4 h1 (fun c_1 => ?_) (fun c_1 => ?_)
    · replace hw := hw.1 c_1
      exact g_vret hx hb hr hlk I hw dX4_joinSink_47
    · replace hw := hw.2 c_1
      refine lv_aload_n hx hb dX4_joinSink_9 rfl (lv_at hl 1 rfl) ?_
      refine lv_iload hx hb dX4_joinSink_10 (lv_at hl 4 rfl) ?_
      obtain ⟨h_2, hw⟩ := hw
      refine x_iald hx hb I r2 rfl h_2 dX4_joinSink_12 ?_
      have h_3 := I.rng r2 x4
      refine lv_aload_n hx hb dX4_joinSink_13 rfl (lv_at hl 2 rfl) ?_
      refine lv_iload hx hb dX4_joinSink_14 (lv_at hl 4 rfl) ?_
      obtain ⟨h_4, hw⟩ := hw
      refine x_iald hx hb I r3 rfl h_4 dX4_joinSink_16 ?_
      have h_5 := I.rng r3 x4
      refine li_icmp_ge (tgt := 41) hx hb dX4_joinSink_17 (by decide) h_3 h_5 (fun c_6 => ?_) (fun c_6 => ?_)
      · replace hw := hw.1 c_6
        exact bX4_joinSink_41 r2 r3 C post (fun y1 y4 N => lpX4_joinSink_3 r2 r3 post n y1 y4 N) ih x1 x4 h1 h4 _ _ _ _ hw I (lv_sub hl [0, 1, 2, 3, 4] rfl)
      · replace hw := hw.2 c_6
        refine lv_aload_n hx hb dX4_joinSink_20 rfl (lv_at hl 0 rfl) ?_
        refine xg_5_0 hx hb hts wu_X4 hown I wf_X4_12 dX4_joinSink_21 ?_
        refine lv_iload hx hb dX4_joinSink_24 (lv_at hl 4 rfl) ?_
        refine lv_bipush (v := i32 21) hx hb dX4_joinSink_26 (by decide) ?_
        refine lv_aload_n hx hb dX4_joinSink_28 rfl (lv_at hl 2 rfl) ?_
        refine lv_iload hx hb dX4_joinSink_29 (lv_at hl 4 rfl) ?_
        obtain ⟨h_7, hw⟩ := hw
        refine x_iald hx hb I r3 rfl h_7 dX4_joinSink_31 ?_
        have h_8 := I.rng r3 x4
        refine lv_aload_n hx hb dX4_joinSink_32 rfl (lv_at hl 1 rfl) ?_
        refine lv_iload hx hb dX4_joinSink_33 (lv_at hl 4 rfl) ?_
        obtain ⟨h_9, hw⟩ := hw
        refine x_iald hx hb I r2 rfl h_9 dX4_joinSink_35 ?_
        have h_10 := I.rng r2 x4
        refine li_isub hx hb dX4_joinSink_36 ?_
        refine li_iconst hx hb dX4_joinSink_37 ?_
        obtain ⟨h_11, hw⟩ := hw
        refine g_callVv (o := (8 + 0)) (As := [.int (i32 x4), .int (i32 21), .int (i32 ((M r3 x4) - (M r2 x4))), .int (i32 0)]) (rest := []) ⟨hx, hb, hml, hown, hts⟩ I (mX5_join l g 0 (Or.inl rfl) x4 21 ((M r3 x4) - (M r2 x4)) 0 h4 (by decide) h_11 (by decide) M _ _ hw) (cwV 4 hts (gd_V wm_X4_36 wi_X5_join wl_X5_join wn_X5 wc_X5_join) rfl rfl rfl wd_X5_join ⟨Nat.le_of_ble_eq_true rfl, Nat.le_of_ble_eq_true rfl⟩) (by omega) (by omega) (obX_N (Or.inl rfl)) rfl rfl hl.1 rfl (Nat.le_of_ble_eq_true rfl) dX4_joinSink_38 ⟨Nat.zero_le _, Nat.zero_le _⟩ (fun M38_11 H locs hw I => ?_)
        exact bX4_joinSink_41 r2 r3 C post (fun y1 y4 N => lpX4_joinSink_3 r2 r3 post n y1 y4 N) ih x1 x4 h1 h4 _ _ _ _ hw I (lv_sub hl [0, 1, 2, 3, 4] rfl)
set_option maxRecDepth 100000 in
set_option maxHeartbeats 4000000 in
theorem mX4_joinSink (l : Launch) (g : GP) (r2 : Int) (r3 : Int) (a1 : Int) (ha1 : inR a1) (M : Mem) (post : Mem → Prop) (sz : Nat) (hw : wpX4_joinSink r2 r3 a1 M post) : MVX l yX4_joinSink wtX4_joinSink rmX4_joinSink g [.ref (g.2.2.2 5), .int (i32 a1), .ref (g.2.2.2 r2), .ref (g.2.2.2 r3)] M sz post := by
  refine Met.ofW (cc := cX4_joinSink) (maxL := 5) (ret := none) (by decide) rfl ?_
  intro p e s m args below meth c s₁ B hml hv
  obtain ⟨rfl, hpre⟩ := hv
  have hsz := hpre.1
  subst hsz
  have C : Cx p m c cX4_joinSink 5 s _ lw_g RX4 meth none := ⟨⟨B.exec, B.bytes, hml, findClass_of_methodNamed B.named, fun w h => atoms_spec (ws := wtX4_joinSink) B.pre w (List.mem_cons_of_mem _ h)⟩, B.returns, B.notSynchronized⟩
  obtain ⟨⟨hx, hb, hml, hown, hts⟩, hr, hlk⟩ := id C
  have I := InG.start hpre
  have hl := lv_entry ([.ref (g.2.2.2 5), .int (i32 a1), .ref (g.2.2.2 r2), .ref (g.2.2.2 r3)]) (n := 5) (Nat.le_of_ble_eq_true rfl)
  rw [lg_entry_eq]
  generalize (lg_sl ([.ref (g.2.2.2 5), .int (i32 a1), .ref (g.2.2.2 r2), .ref (g.2.2.2 r3)]) ++ List.replicate (5 - (lg_sl ([.ref (g.2.2.2 5), .int (i32 a1), .ref (g.2.2.2 r2), .ref (g.2.2.2 r3)])).length) Slot.unset).toArray = ls at hl ⊢
  have hl : lv_has ls 5 [(0, .ref (g.2.2.2 5)), (1, .int (i32 a1)), (2, .ref (g.2.2.2 r2)), (3, .ref (g.2.2.2 r3))] := hl
  show W p l e rmX4_joinSink s m _ below meth c s.heap [] 0 0 (QVX below _ s g post) _
  refine li_iconst hx hb dX4_joinSink_0 ?_
  refine lv_istore (lv' := [(4, .int (i32 0)), (0, .ref (g.2.2.2 5)), (1, .int (i32 a1)), (2, .ref (g.2.2.2 r2)), (3, .ref (g.2.2.2 r3))]) hx hb dX4_joinSink_1 hl (by decide) rfl (fun ls hl => ?_)
  obtain ⟨n1, hw⟩ := hw
  exact bX4_joinSink_3 r2 r3 C post n1 a1 0 ha1 (by decide) _ _ _ _ hw I (lv_sub hl [1, 3, 4, 2, 0] rfl)
abbrev rmX4_staying : Room := { frames := 1, cells := 0, slots := 0, locals := 21 }
abbrev wtX4_staying : List Cond := Cond.code yX4_staying cX4_staying 5 (some .int) :: lw_g
set_option maxRecDepth 100000 in
set_option maxHeartbeats 4000000 in
theorem bX4_staying_5 {p : Program} {l : Launch} {e : Env} {s : State} {m : MethodId} {args : Array Value} {below : List Frame} {meth : Method} {c : Code} {g : GP} (r1 : Int) (r2 : Int) (C : Cx p m c cX4_staying 5 s args lw_g RX4 meth (some .int)) (post : Int → Mem → Prop) : ∀ (n : Nat), ∀ (x0 x3 x4 : Int), inR x0 → inR x3 → inR x4 → ∀ (M : Mem) (H : Heap) (locs : List Loc) (ls : Array Slot), lpX4_staying_5 r1 r2 post n x0 x3 x4 M → IX g s M H locs → lv_has ls 5 [(1, .ref (g.2.2.2 r1)), (2, .ref (g.2.2.2 r2)), (0, .int (i32 x0)), (3, .int (i32 x3)), (4, .int (i32 x4))] → W p l e rmX4_staying s m args below meth c H locs 0 0 (QIX below args s g post) (F0 m 5 ls []) := by
  obtain ⟨⟨hx, hb, hml, hown, hts⟩, hr, hlk⟩ := id C
  intro n
  induction n with
  | zero =>
    intro x0 x3 x4 h0 h3 h4 M H locs ls hw
    exact hw.elim
  | succ n ih =>
    intro x0 x3 x4 h0 h3 h4 M H locs ls hw I hl
    refine lv_iload hx hb dX4_staying_5 (lv_at hl 4 rfl) ?_
    refine lv_iload_n hx hb dX4_staying_7 rfl (lv_at hl 2 rfl) ?_
    refine li_icmp_ge (tgt := 31) hx hb dX4_staying_8 (by decide) h4 h0 (fun c_1 => ?_) (fun c_1 => ?_)
    · replace hw := hw.1 c_1
      refine lv_iload_n hx hb dX4_staying_31 rfl (lv_at hl 3 rfl) ?_
      exact g_iret hx hb hr hlk I h3 hw dX4_staying_32
    · replace hw := hw.2 c_1
      refine lv_iload_n hx hb dX4_staying_11 rfl (lv_at hl 3 rfl) ?_
      refine lv_aload_n hx hb dX4_staying_12 rfl (lv_at hl 0 rfl) ?_
      refine lv_iload hx hb dX4_staying_13 (lv_at hl 4 rfl) ?_
      obtain ⟨h_2, hw⟩ := hw
      refine x_iald hx hb I r1 rfl h_2 dX4_staying_15 ?_
      have h_3 := I.rng r1 x4
      refine lv_aload_n hx hb dX4_staying_16 rfl (lv_at hl 1 rfl) ?_
      refine lv_iload hx hb dX4_staying_17 (lv_at hl 4 rfl) ?_
      obtain ⟨h_4, hw⟩ := hw
      refine x_iald hx hb I r2 rfl h_4 dX4_staying_19 ?_
      have h_5 := I.rng r2 x4
      refine g_mmin hx hb (hml.trans hl.1.symm) hts hown wm_X4_64 wa_min wn_J9 wc_min (Nat.le_of_ble_eq_true rfl) (Nat.le_of_ble_eq_true rfl) (Nat.zero_le _) (Nat.zero_le _) h_3 h_5 dX4_staying_20 ?_
      refine li_iadd hx hb dX4_staying_23 ?_
      obtain ⟨h_6, hw⟩ := hw
      refine li_name (fun v24_6 ev24_6 => ?_)
      replace hw := hw v24_6 ev24_6
      have hv24_6 : inR v24_6 := ev24_6 ▸ h_6
      refine lv_istore_n (lv' := [(3, .int (i32 v24_6)), (1, .ref (g.2.2.2 r1)), (2, .ref (g.2.2.2 r2)), (0, .int (i32 x0)), (4, .int (i32 x4))]) hx hb dX4_staying_24 rfl hl (by decide) rfl (fun ls hl => ?_)
      refine li_iinc (lv' := [(4, .int (i32 (x4 + 1))), (3, .int (i32 v24_6)), (1, .ref (g.2.2.2 r1)), (2, .ref (g.2.2.2 r2)), (0, .int (i32 x0))]) hx hb dX4_staying_25 hl (k := 4) rfl (by decide) rfl (fun ls hl => ?_)
      refine lv_goto (tgt := 5) hx hb dX4_staying_28 (by decide) ?_
      obtain ⟨h_8, hw⟩ := hw
      exact ih x0 v24_6 (x4 + 1) h0 hv24_6 h_8 _ _ _ _ hw I (lv_sub hl [2, 3, 4, 1, 0] rfl)
set_option maxRecDepth 100000 in
set_option maxHeartbeats 4000000 in
theorem mX4_staying (l : Launch) (g : GP) (r1 : Int) (r2 : Int) (a0 : Int) (ha0 : inR a0) (M : Mem) (post : Int → Mem → Prop) (sz : Nat) (hw : wpX4_staying r1 r2 a0 M post) : MIX l yX4_staying wtX4_staying rmX4_staying g [.int (i32 a0), .ref (g.2.2.2 r1), .ref (g.2.2.2 r2)] M sz post := by
  refine Met.ofW (cc := cX4_staying) (maxL := 5) (ret := (some .int)) (by decide) rfl ?_
  intro p e s m args below meth c s₁ B hml hv
  obtain ⟨rfl, hpre⟩ := hv
  have hsz := hpre.1
  subst hsz
  have C : Cx p m c cX4_staying 5 s _ lw_g RX4 meth (some .int) := ⟨⟨B.exec, B.bytes, hml, findClass_of_methodNamed B.named, fun w h => atoms_spec (ws := wtX4_staying) B.pre w (List.mem_cons_of_mem _ h)⟩, B.returns, B.notSynchronized⟩
  obtain ⟨⟨hx, hb, hml, hown, hts⟩, hr, hlk⟩ := id C
  have I := InG.start hpre
  have hl := lv_entry ([.int (i32 a0), .ref (g.2.2.2 r1), .ref (g.2.2.2 r2)]) (n := 5) (Nat.le_of_ble_eq_true rfl)
  rw [lg_entry_eq]
  generalize (lg_sl ([.int (i32 a0), .ref (g.2.2.2 r1), .ref (g.2.2.2 r2)]) ++ List.replicate (5 - (lg_sl ([.int (i32 a0), .ref (g.2.2.2 r1), .ref (g.2.2.2 r2)])).length) Slot.unset).toArray = ls at hl ⊢
  have hl : lv_has ls 5 [(0, .int (i32 a0)), (1, .ref (g.2.2.2 r1)), (2, .ref (g.2.2.2 r2))] := hl
  show W p l e rmX4_staying s m _ below meth c s.heap [] 0 0 (QIX below _ s g post) _
  refine li_iconst hx hb dX4_staying_0 ?_
  refine lv_istore_n (lv' := [(3, .int (i32 0)), (0, .int (i32 a0)), (1, .ref (g.2.2.2 r1)), (2, .ref (g.2.2.2 r2))]) hx hb dX4_staying_1 rfl hl (by decide) rfl (fun ls hl => ?_)
  refine li_iconst hx hb dX4_staying_2 ?_
  refine lv_istore (lv' := [(4, .int (i32 0)), (3, .int (i32 0)), (0, .int (i32 a0)), (1, .ref (g.2.2.2 r1)), (2, .ref (g.2.2.2 r2))]) hx hb dX4_staying_3 hl (by decide) rfl (fun ls hl => ?_)
  obtain ⟨n1, hw⟩ := hw
  exact bX4_staying_5 r1 r2 C post n1 a0 0 0 ha0 (by decide) (by decide) _ _ _ _ hw I (lv_sub hl [3, 4, 2, 1, 0] rfl)
abbrev rmX5_relax : Room := { frames := 0, cells := 0, slots := 0, locals := 0 }
abbrev wtX5_relax : List Cond := Cond.code yX5_relax cX5_relax 4 (some .boolean) :: lw_g
set_option maxRecDepth 100000 in
set_option maxHeartbeats 4000000 in
theorem bX5_relax_94 {p : Program} {l : Launch} {e : Env} {s : State} {m : MethodId} {args : Array Value} {below : List Frame} {meth : Method} {c : Code} {g : GP} (z : Int) (hz : z = 0 ∨ z = 1) (C : Cx p m c cX5_relax 4 s args lw_g RX5 meth (some .boolean)) (post : Int → Mem → Prop) (k4 : Int → Int → Mem → Prop) (hk4 : ∀ (x1 x2 : Int), inR x1 → inR x2 → ∀ (M : Mem) (H : Heap) (locs : List Loc) (ls : Array Slot), k4 x1 x2 M → IX g s M H locs → lv_has ls 4 [(0, .ref (g.2.2.2 (8 + z))), (1, .int (i32 x1)), (2, .int (i32 x2))] → W p l e rmX5_relax s m args below meth c H locs 0 0 (QIX below args s g post) (F0 m 4 ls [])) : ∀ (x1 x2 : Int), inR x1 → inR x2 → ∀ (M : Mem) (H : Heap) (locs : List Loc) (ls : Array Slot), jbX5_relax_94 z post k4 x1 x2 M → IX g s M H locs → lv_has ls 4 [(0, .ref (g.2.2.2 (8 + z))), (1, .int (i32 x1)), (2, .int (i32 x2))] → W p l e rmX5_relax s m args below meth c H locs 0 0 (QIX below args s g post) (F0 m 94 ls []) := by
  obtain ⟨⟨hx, hb, hml, hown, hts⟩, hr, hlk⟩ := id C
  intro x1 x2 h1 h2 M H locs ls hw I hl
  refine li_iinc (lv' := [(2, .int (i32 (x2 + 1))), (0, .ref (g.2.2.2 (8 + z))), (1, .int (i32 x1))]) hx hb dX5_relax_94 hl (k := 2) rfl (by decide) rfl (fun ls hl => ?_)
  refine lv_goto (tgt := 4) hx hb dX5_relax_97 (by decide) ?_
  obtain ⟨h_1, hw⟩ := hw
  exact hk4 x1 (x2 + 1) h1 h_1 _ _ _ _ hw I (lv_sub hl [1, 2, 0] rfl)
set_option maxRecDepth 100000 in
set_option maxHeartbeats 4000000 in
theorem bX5_relax_4 {p : Program} {l : Launch} {e : Env} {s : State} {m : MethodId} {args : Array Value} {below : List Frame} {meth : Method} {c : Code} {g : GP} (z : Int) (hz : z = 0 ∨ z = 1) (C : Cx p m c cX5_relax 4 s args lw_g RX5 meth (some .boolean)) (post : Int → Mem → Prop) : ∀ (n : Nat), ∀ (x1 x2 : Int), inR x1 → inR x2 → ∀ (M : Mem) (H : Heap) (locs : List Loc) (ls : Array Slot), lpX5_relax_4 z post n x1 x2 M → IX g s M H locs → lv_has ls 4 [(0, .ref (g.2.2.2 (8 + z))), (1, .int (i32 x1)), (2, .int (i32 x2))] → W p l e rmX5_relax s m args below meth c H locs 0 0 (QIX below args s g post) (F0 m 4 ls []) := by
  obtain ⟨⟨hx, hb, hml, hown, hts⟩, hr, hlk⟩ := id C
  intro n
  induction n with
  | zero =>
    intro x1 x2 h1 h2 M H locs ls hw
    exact hw.elim
  | succ n ih =>
    intro x1 x2 h1 h2 M H locs ls hw I hl
    refine lv_iload_n hx hb dX5_relax_4 rfl (lv_at hl 2 rfl) ?_
    refine lv_aload_n hx hb dX5_relax_5 rfl (lv_at hl 0 rfl) ?_
    refine xg_N_0 (z := z) hz hx hb hts wu_X5 hown I wf_X5_30 dX5_relax_6 ?_
    have h_1 := I.rng (8 + z) 0
    refine li_icmp_ge (tgt := 100) hx hb dX5_relax_9 (by decide) h2 h_1 (fun c_2 => ?_) (fun c_2 => ?_)
    · replace hw := hw.1 c_2
      refine lv_iload_n hx hb dX5_relax_100 rfl (lv_at hl 1 rfl) ?_
      obtain ⟨h_3, hw⟩ := hw
      exact g_zret hx hb hr hlk I h_3 hw dX5_relax_101
    · replace hw := hw.2 c_2
      refine lv_aload_n hx hb dX5_relax_12 rfl (lv_at hl 0 rfl) ?_
      refine xg_N_7 (z := z) hz hx hb hts wu_X5 hown I wf_X5_24 dX5_relax_13 ?_
      refine lv_aload_n hx hb dX5_relax_16 rfl (lv_at hl 0 rfl) ?_
      refine xg_N_3 (z := z) hz hx hb hts wu_X5 hown I wf_X5_9 dX5_relax_17 ?_
      refine lv_iload_n hx hb dX5_relax_20 rfl (lv_at hl 2 rfl) ?_
      obtain ⟨h_4, hw⟩ := hw
      refine x_iald hx hb I (28 + z) (lenX_28 hz) h_4 dX5_relax_21 ?_
      have h_5 := I.rng (28 + z) x2
      obtain ⟨h_6, hw⟩ := hw
      refine x_iald hx hb I (36 + z) (lenX_36 hz) h_6 dX5_relax_22 ?_
      have h_7 := I.rng (36 + z) (M (28 + z) x2)
      refine li_name (fun v23_7 ev23_7 => ?_)
      replace hw := hw v23_7 ev23_7
      have hv23_7 : inR v23_7 := ev23_7 ▸ h_7
      refine lv_istore_n (lv' := [(3, .int (i32 v23_7)), (0, .ref (g.2.2.2 (8 + z))), (1, .int (i32 x1)), (2, .int (i32 x2))]) hx hb dX5_relax_23 rfl hl (by decide) rfl (fun ls hl => ?_)
      refine lv_aload_n hx hb dX5_relax_24 rfl (lv_at hl 1 rfl) ?_
      refine xg_N_5 (z := z) hz hx hb hts wu_X5 hown I wf_X5_18 dX5_relax_25 ?_
      refine lv_iload_n hx hb dX5_relax_28 rfl (lv_at hl 3 rfl) ?_
      obtain ⟨h_9, hw⟩ := hw
      refine x_iald hx hb I (32 + z) (lenX_32 hz) h_9 dX5_relax_29 ?_
      have h_10 := I.rng (32 + z) x2
      refine li_if_le (tgt := 94) hx hb dX5_relax_30 (by decide) h_10 (fun c_11 => ?_) (fun c_11 => ?_)
      · replace hw := hw.1 c_11
        exact bX5_relax_94 z hz C post (fun y1 y2 N => lpX5_relax_4 z post n y1 y2 N) ih x1 x2 h1 h2 _ _ _ _ hw I (lv_sub hl [1, 2, 3] rfl)
      · replace hw := hw.2 c_11
        refine lv_iload_n hx hb dX5_relax_33 rfl (lv_at hl 0 rfl) ?_
        refine lv_ldc (v := i32 1000000) hx hb hown (hts _ wk_X5_52) dX5_relax_34 ?_
        refine li_icmp_ge (tgt := 94) hx hb dX5_relax_36 (by decide) hv23_7 (by decide) (fun c_12 => ?_) (fun c_12 => ?_)
        · replace hw := hw.1 c_12
          exact bX5_relax_94 z hz C post (fun y1 y2 N => lpX5_relax_4 z post n y1 y2 N) ih x1 x2 h1 h2 _ _ _ _ hw I (lv_sub hl [1, 2, 3] rfl)
        · replace hw := hw.2 c_12
          refine lv_iload_n hx hb dX5_relax_39 rfl (lv_at hl 0 rfl) ?_
          refine lv_aload_n hx hb dX5_relax_40 rfl (lv_at hl 1 rfl) ?_
          refine xg_N_6 (z := z) hz hx hb hts wu_X5 hown I wf_X5_21 dX5_relax_41 ?_
          refine lv_iload_n hx hb dX5_relax_44 rfl (lv_at hl 3 rfl) ?_
          obtain ⟨h_13, hw⟩ := hw
          refine x_iald hx hb I (34 + z) (lenX_34 hz) h_13 dX5_relax_45 ?_
          have h_14 := I.rng (34 + z) x2
          refine li_iadd hx hb dX5_relax_46 ?_
          refine lv_aload_n hx hb dX5_relax_47 rfl (lv_at hl 1 rfl) ?_
          refine xg_N_7 (z := z) hz hx hb hts wu_X5 hown I wf_X5_24 dX5_relax_48 ?_
          refine lv_aload_n hx hb dX5_relax_51 rfl (lv_at hl 1 rfl) ?_
          refine xg_N_4 (z := z) hz hx hb hts wu_X5 hown I wf_X5_15 dX5_relax_52 ?_
          refine lv_iload_n hx hb dX5_relax_55 rfl (lv_at hl 3 rfl) ?_
          obtain ⟨h_15, hw⟩ := hw
          refine x_iald hx hb I (30 + z) (lenX_30 hz) h_15 dX5_relax_56 ?_
          have h_16 := I.rng (30 + z) x2
          obtain ⟨h_17, hw⟩ := hw
          refine x_iald hx hb I (36 + z) (lenX_36 hz) h_17 dX5_relax_57 ?_
          have h_18 := I.rng (36 + z) (M (30 + z) x2)
          obtain ⟨h_20, hw⟩ := hw
          refine li_icmp_ge (tgt := 94) hx hb dX5_relax_58 (by decide) h_20 h_18 (fun c_19 => ?_) (fun c_19 => ?_)
          · replace hw := hw.1 c_19
            exact bX5_relax_94 z hz C post (fun y1 y2 N => lpX5_relax_4 z post n y1 y2 N) ih x1 x2 h1 h2 _ _ _ _ hw I (lv_sub hl [1, 2, 3] rfl)
          · replace hw := hw.2 c_19
            refine lv_aload_n hx hb dX5_relax_61 rfl (lv_at hl 1 rfl) ?_
            refine xg_N_7 (z := z) hz hx hb hts wu_X5 hown I wf_X5_24 dX5_relax_62 ?_
            refine lv_aload_n hx hb dX5_relax_65 rfl (lv_at hl 1 rfl) ?_
            refine xg_N_4 (z := z) hz hx hb hts wu_X5 hown I wf_X5_15 dX5_relax_66 ?_
            refine lv_iload_n hx hb dX5_relax_69 rfl (lv_at hl 3 rfl) ?_
            obtain ⟨h_21, hw⟩ := hw
            refine x_iald hx hb I (30 + z) (lenX_30 hz) h_21 dX5_relax_70 ?_
            have h_22 := I.rng (30 + z) x2
            refine lv_iload_n hx hb dX5_relax_71 rfl (lv_at hl 0 rfl) ?_
            refine lv_aload_n hx hb dX5_relax_72 rfl (lv_at hl 1 rfl) ?_
            refine xg_N_6 (z := z) hz hx hb hts wu_X5 hown I wf_X5_21 dX5_relax_73 ?_
            refine lv_iload_n hx hb dX5_relax_76 rfl (lv_at hl 3 rfl) ?_
            obtain ⟨h_23, hw⟩ := hw
            refine x_iald hx hb I (34 + z) (lenX_34 hz) h_23 dX5_relax_77 ?_
            have h_24 := I.rng (34 + z) x2
            refine li_iadd hx hb dX5_relax_78 ?_
            obtain ⟨h_25, hw⟩ := hw
            refine x_iast hx hb I (36 + z) (lenX_36 hz) h_25 h_20 dX5_relax_79 (fun H locs M79_25 eM79_25 I => ?_)
            replace hw := hw M79_25 eM79_25
            refine lv_aload_n hx hb dX5_relax_80 rfl (lv_at hl 1 rfl) ?_
            refine xg_N_8 (z := z) hz hx hb hts wu_X5 hown I wf_X5_27 dX5_relax_81 ?_
            refine lv_aload_n hx hb dX5_relax_84 rfl (lv_at hl 1 rfl) ?_
            refine xg_N_4 (z := z) hz hx hb hts wu_X5 hown I wf_X5_15 dX5_relax_85 ?_
            refine lv_iload_n hx hb dX5_relax_88 rfl (lv_at hl 3 rfl) ?_
            obtain ⟨h_27, hw⟩ := hw
            refine x_iald hx hb I (30 + z) (lenX_30 hz) h_27 dX5_relax_89 ?_
            have h_28 := I.rng (30 + z) x2
            refine lv_iload_n hx hb dX5_relax_90 rfl (lv_at hl 3 rfl) ?_
            obtain ⟨h_29, hw⟩ := hw
            refine x_iast hx hb I (38 + z) (lenX_38 hz) h_29 h2 dX5_relax_91 (fun H locs M91_29 eM91_29 I => ?_)
            replace hw := hw M91_29 eM91_29
            refine li_iconst hx hb dX5_relax_92 ?_
            refine lv_istore_n (lv' := [(1, .int (i32 1)), (3, .int (i32 v23_7)), (0, .ref (g.2.2.2 (8 + z))), (2, .int (i32 x2))]) hx hb dX5_relax_93 rfl hl (by decide) rfl (fun ls hl => ?_)
            exact bX5_relax_94 z hz C post (fun y1 y2 N => lpX5_relax_4 z post n y1 y2 N) ih 1 x2 (by decide) h2 _ _ _ _ hw I (lv_sub hl [2, 0, 3] rfl)
set_option maxRecDepth 100000 in
set_option maxHeartbeats 4000000 in
theorem mX5_relax (l : Launch) (g : GP) (z : Int) (hz : z = 0 ∨ z = 1) (M : Mem) (post : Int → Mem → Prop) (sz : Nat) (hw : wpX5_relax z M post) : MIX l yX5_relax wtX5_relax rmX5_relax g [.ref (g.2.2.2 (8 + z))] M sz post := by
  refine Met.ofW (cc := cX5_relax) (maxL := 4) (ret := (some .boolean)) (by decide) rfl ?_
  intro p e s m args below meth c s₁ B hml hv
  obtain ⟨rfl, hpre⟩ := hv
  have hsz := hpre.1
  subst hsz
  have C : Cx p m c cX5_relax 4 s _ lw_g RX5 meth (some .boolean) := ⟨⟨B.exec, B.bytes, hml, findClass_of_methodNamed B.named, fun w h => atoms_spec (ws := wtX5_relax) B.pre w (List.mem_cons_of_mem _ h)⟩, B.returns, B.notSynchronized⟩
  obtain ⟨⟨hx, hb, hml, hown, hts⟩, hr, hlk⟩ := id C
  have I := InG.start hpre
  have hl := lv_entry ([.ref (g.2.2.2 (8 + z))]) (n := 4) (Nat.le_of_ble_eq_true rfl)
  rw [lg_entry_eq]
  generalize (lg_sl ([.ref (g.2.2.2 (8 + z))]) ++ List.replicate (4 - (lg_sl ([.ref (g.2.2.2 (8 + z))])).length) Slot.unset).toArray = ls at hl ⊢
  have hl : lv_has ls 4 [(0, .ref (g.2.2.2 (8 + z)))] := hl
  show W p l e rmX5_relax s m _ below meth c s.heap [] 0 0 (QIX below _ s g post) _
  refine li_iconst hx hb dX5_relax_0 ?_
  refine lv_istore_n (lv' := [(1, .int (i32 0)), (0, .ref (g.2.2.2 (8 + z)))]) hx hb dX5_relax_1 rfl hl (by decide) rfl (fun ls hl => ?_)
  refine li_iconst hx hb dX5_relax_2 ?_
  refine lv_istore_n (lv' := [(2, .int (i32 0)), (1, .int (i32 0)), (0, .ref (g.2.2.2 (8 + z)))]) hx hb dX5_relax_3 rfl hl (by decide) rfl (fun ls hl => ?_)
  obtain ⟨n1, hw⟩ := hw
  exact bX5_relax_4 z hz C post n1 0 0 (by decide) (by decide) _ _ _ _ hw I (lv_sub hl [2, 1, 0] rfl)
abbrev rmX5_isReached : Room := { frames := 0, cells := 0, slots := 0, locals := 0 }
abbrev wtX5_isReached : List Cond := Cond.code yX5_isReached cX5_isReached 2 (some .boolean) :: lw_g
set_option maxRecDepth 100000 in
set_option maxHeartbeats 4000000 in
theorem bX5_isReached_16 {p : Program} {l : Launch} {e : Env} {s : State} {m : MethodId} {args : Array Value} {below : List Frame} {meth : Method} {c : Code} {g : GP} (z : Int) (hz : z = 0 ∨ z = 1) (C : Cx p m c cX5_isReached 2 s args lw_g RX5 meth (some .boolean)) (post : Int → Mem → Prop) : ∀ (t0 : Int), inR t0 → ∀ (M : Mem) (H : Heap) (locs : List Loc) (ls : Array Slot), jbX5_isReached_16 z post t0 M → IX g s M H locs → lv_has ls 2 [(0, .ref (g.2.2.2 (8 + z)))] → W p l e rmX5_isReached s m args below meth c H locs 0 0 (QIX below args s g post) (F0 m 16 ls [.int (i32 t0)]) := by
  obtain ⟨⟨hx, hb, hml, hown, hts⟩, hr, hlk⟩ := id C
  intro t0 ht0 M H locs ls hw I hl
  obtain ⟨h_1, hw⟩ := hw
  exact g_zret hx hb hr hlk I h_1 hw dX5_isReached_16
set_option maxRecDepth 100000 in
set_option maxHeartbeats 4000000 in
theorem mX5_isReached (l : Launch) (g : GP) (z : Int) (hz : z = 0 ∨ z = 1) (a1 : Int) (ha1 : inR a1) (M : Mem) (post : Int → Mem → Prop) (sz : Nat) (hw : wpX5_isReached z a1 M post) : MIX l yX5_isReached wtX5_isReached rmX5_isReached g [.ref (g.2.2.2 (8 + z)), .int (i32 a1)] M sz post := by
  refine Met.ofW (cc := cX5_isReached) (maxL := 2) (ret := (some .boolean)) (by decide) rfl ?_
  intro p e s m args below meth c s₁ B hml hv
  obtain ⟨rfl, hpre⟩ := hv
  have hsz := hpre.1
  subst hsz
  have C : Cx p m c cX5_isReached 2 s _ lw_g RX5 meth (some .boolean) := ⟨⟨B.exec, B.bytes, hml, findClass_of_methodNamed B.named, fun w h => atoms_spec (ws := wtX5_isReached) B.pre w (List.mem_cons_of_mem _ h)⟩, B.returns, B.notSynchronized⟩
  obtain ⟨⟨hx, hb, hml, hown, hts⟩, hr, hlk⟩ := id C
  have I := InG.start hpre
  have hl := lv_entry ([.ref (g.2.2.2 (8 + z)), .int (i32 a1)]) (n := 2) (Nat.le_of_ble_eq_true rfl)
  rw [lg_entry_eq]
  generalize (lg_sl ([.ref (g.2.2.2 (8 + z)), .int (i32 a1)]) ++ List.replicate (2 - (lg_sl ([.ref (g.2.2.2 (8 + z)), .int (i32 a1)])).length) Slot.unset).toArray = ls at hl ⊢
  have hl : lv_has ls 2 [(0, .ref (g.2.2.2 (8 + z))), (1, .int (i32 a1))] := hl
  show W p l e rmX5_isReached s m _ below meth c s.heap [] 0 0 (QIX below _ s g post) _
  refine lv_aload_n hx hb dX5_isReached_0 rfl (lv_at hl 0 rfl) ?_
  refine xg_N_7 (z := z) hz hx hb hts wu_X5 hown I wf_X5_24 dX5_isReached_1 ?_
  refine lv_iload_n hx hb dX5_isReached_4 rfl (lv_at hl 1 rfl) ?_
  obtain ⟨h_1, hw⟩ := hw
  refine x_iald hx hb I (36 + z) (lenX_36 hz) h_1 dX5_isReached_5 ?_
  have h_2 := I.rng (36 + z) a1
  refine lv_ldc (v := i32 1000000) hx hb hown (hts _ wk_X5_52) dX5_isReached_6 ?_
  refine li_icmp_ge (tgt := 15) hx hb dX5_isReached_8 (by decide) h_2 (by decide) (fun c_3 => ?_) (fun c_3 => ?_)
  · replace hw := hw.1 c_3
    refine li_iconst hx hb dX5_isReached_15 ?_
    exact bX5_isReached_16 z hz C post 0 (by decide) _ _ _ _ hw I (lv_sub hl [0] rfl)
  · replace hw := hw.2 c_3
    refine li_iconst hx hb dX5_isReached_11 ?_
    refine lv_goto (tgt := 16) hx hb dX5_isReached_12 (by decide) ?_
    exact bX5_isReached_16 z hz C post 1 (by decide) _ _ _ _ hw I (lv_sub hl [0] rfl)
abbrev rmX5_search : Room := { frames := 1, cells := 0, slots := 0, locals := 23 }
abbrev wtX5_search : List Cond := Cond.code yX5_search cX5_search 2 (some .boolean) :: lw_g
set_option maxRecDepth 100000 in
set_option maxHeartbeats 4000000 in
theorem bX5_search_49 {p : Program} {l : Launch} {e : Env} {s : State} {m : MethodId} {args : Array Value} {below : List Frame} {meth : Method} {c : Code} {g : GP} (z : Int) (hz : z = 0 ∨ z = 1) (C : Cx p m c cX5_search 2 s args lw_g RX5 meth (some .boolean)) (post : Int → Mem → Prop) : ∀ (M : Mem) (H : Heap) (locs : List Loc) (ls : Array Slot), jbX5_search_49 z post  M → IX g s M H locs → lv_has ls 2 [(0, .ref (g.2.2.2 (8 + z)))] → W p l e rmX5_search s m args below meth c H locs 0 0 (QIX below args s g post) (F0 m 49 ls []) := by
  obtain ⟨⟨hx, hb, hml, hown, hts⟩, hr, hlk⟩ := id C
  intro M H locs ls hw I hl
  refine lv_aload_n hx hb dX5_search_49 rfl (lv_at hl 0 rfl) ?_
  refine lv_bipush (v := i32 21) hx hb dX5_search_50 (by decide) ?_
  refine g_callVi (o := (8 + z)) (As := [.int (i32 21)]) (rest := []) ⟨hx, hb, hml, hown, hts⟩ I (mX5_isReached l g z hz 21 (by decide) M _ _ hw) (cwV 1 hts (gd_V wm_X5_62 wi_X5_isReached wl_X5_isReached wn_X5 wc_X5_isReached) rfl rfl rfl wd_X5_isReached ⟨Nat.le_of_ble_eq_true rfl, Nat.le_of_ble_eq_true rfl⟩) (by omega) (by omega) (obX_N hz) rfl rfl hl.1 rfl (Nat.le_of_ble_eq_true rfl) dX5_search_52 ⟨Nat.zero_le _, Nat.zero_le _⟩ (fun r52_0 M52_0 H locs hr52_0 hw I => ?_)
  obtain ⟨h_2, hw⟩ := hw
  exact g_zret hx hb hr hlk I h_2 hw dX5_search_55
set_option maxRecDepth 100000 in
set_option maxHeartbeats 4000000 in
theorem bX5_search_27 {p : Program} {l : Launch} {e : Env} {s : State} {m : MethodId} {args : Array Value} {below : List Frame} {meth : Method} {c : Code} {g : GP} (z : Int) (hz : z = 0 ∨ z = 1) (C : Cx p m c cX5_search 2 s args lw_g RX5 meth (some .boolean)) (post : Int → Mem → Prop) : ∀ (n : Nat), ∀ (x1 : Int), inR x1 → ∀ (M : Mem) (H : Heap) (locs : List Loc) (ls : Array Slot), lpX5_search_27 z post n x1 M → IX g s M H locs → lv_has ls 2 [(0, .ref (g.2.2.2 (8 + z))), (1, .int (i32 x1))] → W p l e rmX5_search s m args below meth c H locs 0 0 (QIX below args s g post) (F0 m 27 ls []) := by
  obtain ⟨⟨hx, hb, hml, hown, hts⟩, hr, hlk⟩ := id C
  intro n
  induction n with
  | zero =>
    intro x1 h1 M H locs ls hw
    exact hw.elim
  | succ n ih =>
    intro x1 h1 M H locs ls hw I hl
    refine lv_iload_n hx hb dX5_search_27 rfl (lv_at hl 1 rfl) ?_
    refine lv_bipush (v := i32 22) hx hb dX5_search_28 (by decide) ?_
    refine li_icmp_ge (tgt := 49) hx hb dX5_search_30 (by decide) h1 (by decide) (fun c_1 => ?_) (fun c_1 => ?_)
    · replace hw := hw.1 c_1
      exact bX5_search_49 z hz C post _ _ _ _ hw I (lv_sub hl [0] rfl)
    · replace hw := hw.2 c_1
      refine lv_aload_n hx hb dX5_search_33 rfl (lv_at hl 0 rfl) ?_
      refine g_callVi (o := (8 + z)) (As := []) (rest := []) ⟨hx, hb, hml, hown, hts⟩ I (mX5_relax l g z hz M _ _ hw) (cwV 0 hts (gd_V wm_X5_59 wi_X5_relax wl_X5_relax wn_X5 wc_X5_relax) rfl rfl rfl wd_X5_relax ⟨Nat.le_of_ble_eq_true rfl, Nat.le_of_ble_eq_true rfl⟩) (by omega) (by omega) (obX_N hz) rfl rfl hl.1 rfl (Nat.le_of_ble_eq_true rfl) dX5_search_34 ⟨Nat.zero_le _, Nat.zero_le _⟩ (fun r34_1 M34_1 H locs hr34_1 hw I => ?_)
      refine li_if_ne (tgt := 43) hx hb dX5_search_37 (by decide) hr34_1 (fun c_3 => ?_) (fun c_3 => ?_)
      · replace hw := hw.1 c_3
        refine li_iinc (lv' := [(1, .int (i32 (x1 + 1))), (0, .ref (g.2.2.2 (8 + z)))]) hx hb dX5_search_43 hl (k := 1) rfl (by decide) rfl (fun ls hl => ?_)
        refine lv_goto (tgt := 27) hx hb dX5_search_46 (by decide) ?_
        obtain ⟨h_4, hw⟩ := hw
        exact ih (x1 + 1) h_4 _ _ _ _ hw I (lv_sub hl [1, 0] rfl)
      · replace hw := hw.2 c_3
        refine lv_goto (tgt := 49) hx hb dX5_search_40 (by decide) ?_
        exact bX5_search_49 z hz C post _ _ _ _ hw I (lv_sub hl [0] rfl)
set_option maxRecDepth 100000 in
set_option maxHeartbeats 4000000 in
theorem mX5_search (l : Launch) (g : GP) (z : Int) (hz : z = 0 ∨ z = 1) (M : Mem) (post : Int → Mem → Prop) (sz : Nat) (hw : wpX5_search z M post) : MIX l yX5_search wtX5_search rmX5_search g [.ref (g.2.2.2 (8 + z))] M sz post := by
  refine Met.ofW (cc := cX5_search) (maxL := 2) (ret := (some .boolean)) (by decide) rfl ?_
  intro p e s m args below meth c s₁ B hml hv
  obtain ⟨rfl, hpre⟩ := hv
  have hsz := hpre.1
  subst hsz
  have C : Cx p m c cX5_search 2 s _ lw_g RX5 meth (some .boolean) := ⟨⟨B.exec, B.bytes, hml, findClass_of_methodNamed B.named, fun w h => atoms_spec (ws := wtX5_search) B.pre w (List.mem_cons_of_mem _ h)⟩, B.returns, B.notSynchronized⟩
  obtain ⟨⟨hx, hb, hml, hown, hts⟩, hr, hlk⟩ := id C
  have I := InG.start hpre
  have hl := lv_entry ([.ref (g.2.2.2 (8 + z))]) (n := 2) (Nat.le_of_ble_eq_true rfl)
  rw [lg_entry_eq]
  generalize (lg_sl ([.ref (g.2.2.2 (8 + z))]) ++ List.replicate (2 - (lg_sl ([.ref (g.2.2.2 (8 + z))])).length) Slot.unset).toArray = ls at hl ⊢
  have hl : lv_has ls 2 [(0, .ref (g.2.2.2 (8 + z)))] := hl
  show W p l e rmX5_search s m _ below meth c s.heap [] 0 0 (QIX below _ s g post) _
  refine lv_aload_n hx hb dX5_search_0 rfl (lv_at hl 0 rfl) ?_
  refine xg_N_7 (z := z) hz hx hb hts wu_X5 hown I wf_X5_24 dX5_search_1 ?_
  refine lv_ldc (v := i32 1000000) hx hb hown (hts _ wk_X5_52) dX5_search_4 ?_
  refine g_callSv (As := [.ref (g.2.2.2 (36 + z)), .int (i32 1000000)]) (rest := []) ⟨hx, hb, hml, hown, hts⟩ I (mJ7_fill_53178 l g (36 + z) 1000000 (by decide) M _ _ hw) (va_cwS 2 hts (gd_S wm_X5_53 wa_J7_fill_53178 wn_J7 wc_J7_fill_53178) rfl rfl rfl wd_J7_fill_53178 ⟨Nat.le_of_ble_eq_true rfl, Nat.le_of_ble_eq_true rfl⟩) rfl hl.1 rfl (Nat.le_of_ble_eq_true rfl) dX5_search_6 ⟨Nat.zero_le _, Nat.zero_le _⟩ (fun M6_0 H locs hw I => ?_)
  refine lv_aload_n hx hb dX5_search_9 rfl (lv_at hl 0 rfl) ?_
  refine xg_N_8 (z := z) hz hx hb hts wu_X5 hown I wf_X5_27 dX5_search_10 ?_
  refine li_iconst hx hb dX5_search_13 ?_
  refine g_callSv (As := [.ref (g.2.2.2 (38 + z)), .int (i32 (-1))]) (rest := []) ⟨hx, hb, hml, hown, hts⟩ I (mJ7_fill_53178 l g (38 + z) (-1) (by decide) M6_0 _ _ hw) (va_cwS 2 hts (gd_S wm_X5_53 wa_J7_fill_53178 wn_J7 wc_J7_fill_53178) rfl rfl rfl wd_J7_fill_53178 ⟨Nat.le_of_ble_eq_true rfl, Nat.le_of_ble_eq_true rfl⟩) rfl hl.1 rfl (Nat.le_of_ble_eq_true rfl) dX5_search_14 ⟨Nat.zero_le _, Nat.zero_le _⟩ (fun M14_1 H locs hw I => ?_)
  refine lv_aload_n hx hb dX5_search_17 rfl (lv_at hl 0 rfl) ?_
  refine xg_N_7 (z := z) hz hx hb hts wu_X5 hown I wf_X5_24 dX5_search_18 ?_
  refine lv_bipush (v := i32 20) hx hb dX5_search_21 (by decide) ?_
  refine li_iconst hx hb dX5_search_23 ?_
  refine x_iast hx hb I (36 + z) (lenX_36 hz) (by decide) (by decide) dX5_search_24 (fun H locs M24_2 eM24_2 I => ?_)
  replace hw := hw M24_2 eM24_2
  refine li_iconst hx hb dX5_search_25 ?_
  refine lv_istore_n (lv' := [(1, .int (i32 0)), (0, .ref (g.2.2.2 (8 + z)))]) hx hb dX5_search_26 rfl hl (by decide) rfl (fun ls hl => ?_)
  obtain ⟨n1, hw⟩ := hw
  exact bX5_search_27 z hz C post n1 0 (by decide) _ _ _ _ hw I (lv_sub hl [1, 0] rfl)
abbrev rmX5_carry : Room := { frames := 1, cells := 0, slots := 0, locals := 21 }
abbrev wtX5_carry : List Cond := Cond.code yX5_carry cX5_carry 5 none :: lw_g
set_option maxRecDepth 100000 in
set_option maxHeartbeats 4000000 in
theorem bX5_carry_117 {p : Program} {l : Launch} {e : Env} {s : State} {m : MethodId} {args : Array Value} {below : List Frame} {meth : Method} {c : Code} {g : GP} (z : Int) (hz : z = 0 ∨ z = 1) (C : Cx p m c cX5_carry 5 s args lw_g RX5 meth none) (post : Mem → Prop) : ∀ (x2 : Int), inR x2 → ∀ (M : Mem) (H : Heap) (locs : List Loc) (ls : Array Slot), jbX5_carry_117 z post x2 M → IX g s M H locs → lv_has ls 5 [(0, .ref (g.2.2.2 (8 + z))), (2, .int (i32 x2))] → W p l e rmX5_carry s m args below meth c H locs 0 0 (QVX below args s g post) (F0 m 117 ls []) := by
  obtain ⟨⟨hx, hb, hml, hown, hts⟩, hr, hlk⟩ := id C
  intro x2 h2 M H locs ls hw I hl
  refine lv_aload_n hx hb dX5_carry_117 rfl (lv_at hl 0 rfl) ?_
  refine lv_dup hx hb dX5_carry_118 rfl ?_
  refine xg_N_1 (z := z) hz hx hb hts wu_X5 hown I wf_X5_34 dX5_carry_119 ?_
  have h_1 := I.rng (8 + z) 1
  refine lv_iload_n hx hb dX5_carry_122 rfl (lv_at hl 1 rfl) ?_
  refine li_iadd hx hb dX5_carry_123 ?_
  obtain ⟨h_2, hw⟩ := hw
  refine xp_N_1 (z := z) hz hx hb hts wu_X5 hown I wf_X5_34 h_2 dX5_carry_124 (fun H locs M124_2 eM124_2 I => ?_)
  replace hw := hw M124_2 eM124_2
  refine lv_aload_n hx hb dX5_carry_127 rfl (lv_at hl 0 rfl) ?_
  refine lv_dup hx hb dX5_carry_128 rfl ?_
  refine xg_N_2 (z := z) hz hx hb hts wu_X5 hown I wf_X5_37 dX5_carry_129 ?_
  have h_4 := I.rng (8 + z) 2
  refine lv_iload_n hx hb dX5_carry_132 rfl (lv_at hl 1 rfl) ?_
  refine lv_aload_n hx hb dX5_carry_133 rfl (lv_at hl 0 rfl) ?_
  refine xg_N_7 (z := z) hz hx hb hts wu_X5 hown I wf_X5_24 dX5_carry_134 ?_
  refine lv_bipush (v := i32 21) hx hb dX5_carry_137 (by decide) ?_
  refine x_iald hx hb I (36 + z) (lenX_36 hz) (by decide) dX5_carry_139 ?_
  have h_5 := I.rng (36 + z) 21
  refine li_imul hx hb dX5_carry_140 ?_
  refine li_iadd hx hb dX5_carry_141 ?_
  obtain ⟨h_6, hw⟩ := hw
  refine xp_N_2 (z := z) hz hx hb hts wu_X5 hown I wf_X5_37 h_6 dX5_carry_142 (fun H locs M142_6 eM142_6 I => ?_)
  replace hw := hw M142_6 eM142_6
  exact g_vret hx hb hr hlk I hw dX5_carry_145
set_option maxRecDepth 100000 in
set_option maxHeartbeats 4000000 in
theorem bX5_carry_65 {p : Program} {l : Launch} {e : Env} {s : State} {m : MethodId} {args : Array Value} {below : List Frame} {meth : Method} {c : Code} {g : GP} (z : Int) (hz : z = 0 ∨ z = 1) (C : Cx p m c cX5_carry 5 s args lw_g RX5 meth none) (post : Mem → Prop) : ∀ (n : Nat), ∀ (x2 x3 x4 : Int), inR x2 → inR x3 → inR x4 → ∀ (M : Mem) (H : Heap) (locs : List Loc) (ls : Array Slot), lpX5_carry_65 z post n x2 x3 x4 M → IX g s M H locs → lv_has ls 5 [(0, .ref (g.2.2.2 (8 + z))), (2, .int (i32 x2)), (3, .int (i32 x3)), (4, .int (i32 x4))] → W p l e rmX5_carry s m args below meth c H locs 0 0 (QVX below args s g post) (F0 m 65 ls []) := by
  obtain ⟨⟨hx, hb, hml, hown, hts⟩, hr, hlk⟩ := id C
  intro n
  induction n with
  | zero =>
    intro x2 x3 x4 h2 h3 h4 M H locs ls hw
    exact hw.elim
  | succ n ih =>
    intro x2 x3 x4 h2 h3 h4 M H locs ls hw I hl
    refine lv_iload hx hb dX5_carry_65 (lv_at hl 3 rfl) ?_
    refine lv_bipush (v := i32 22) hx hb dX5_carry_67 (by decide) ?_
    refine li_icmp_ge (tgt := 117) hx hb dX5_carry_69 (by decide) h4 (by decide) (fun c_1 => ?_) (fun c_1 => ?_)
    · replace hw := hw.1 c_1
      exact bX5_carry_117 z hz C post x2 h2 _ _ _ _ hw I (lv_sub hl [0, 1] rfl)
    · replace hw := hw.2 c_1
      refine lv_iload_n hx hb dX5_carry_72 rfl (lv_at hl 2 rfl) ?_
      refine li_iconst hx hb dX5_carry_73 ?_
      refine li_icmp_eq (tgt := 117) hx hb dX5_carry_74 (by decide) h3 (by decide) (fun c_2 => ?_) (fun c_2 => ?_)
      · replace hw := hw.1 c_2
        exact bX5_carry_117 z hz C post x2 h2 _ _ _ _ hw I (lv_sub hl [0, 1] rfl)
      · replace hw := hw.2 c_2
        refine lv_aload_n hx hb dX5_carry_77 rfl (lv_at hl 0 rfl) ?_
        refine xg_N_5 (z := z) hz hx hb hts wu_X5 hown I wf_X5_18 dX5_carry_78 ?_
        refine lv_iload_n hx hb dX5_carry_81 rfl (lv_at hl 2 rfl) ?_
        refine lv_dup2_11 hx hb dX5_carry_82 rfl rfl ?_
        obtain ⟨h_3, hw⟩ := hw
        refine x_iald hx hb I (32 + z) (lenX_32 hz) h_3 dX5_carry_83 ?_
        have h_4 := I.rng (32 + z) x3
        refine lv_iload_n hx hb dX5_carry_84 rfl (lv_at hl 1 rfl) ?_
        refine li_isub hx hb dX5_carry_85 ?_
        obtain ⟨h_5, hw⟩ := hw
        obtain ⟨h_6, hw⟩ := hw
        refine x_iast hx hb I (32 + z) (lenX_32 hz) h_5 h_6 dX5_carry_86 (fun H locs M86_6 eM86_6 I => ?_)
        replace hw := hw M86_6 eM86_6
        refine lv_aload_n hx hb dX5_carry_87 rfl (lv_at hl 0 rfl) ?_
        refine xg_N_5 (z := z) hz hx hb hts wu_X5 hown I wf_X5_18 dX5_carry_88 ?_
        refine lv_iload_n hx hb dX5_carry_91 rfl (lv_at hl 2 rfl) ?_
        refine li_iconst hx hb dX5_carry_92 ?_
        obtain ⟨h_8, hw⟩ := hw
        refine li_ixor1 hx hb dX5_carry_93 h3 h_8 ?_
        refine lv_dup2_11 hx hb dX5_carry_94 rfl rfl ?_
        obtain ⟨h_9, hw⟩ := hw
        refine x_iald hx hb I (32 + z) (lenX_32 hz) h_9 dX5_carry_95 ?_
        have h_10 := I.rng (32 + z) (pr1 x3)
        refine lv_iload_n hx hb dX5_carry_96 rfl (lv_at hl 1 rfl) ?_
        refine li_iadd hx hb dX5_carry_97 ?_
        obtain ⟨h_11, hw⟩ := hw
        obtain ⟨h_12, hw⟩ := hw
        refine x_iast hx hb I (32 + z) (lenX_32 hz) h_11 h_12 dX5_carry_98 (fun H locs M98_12 eM98_12 I => ?_)
        replace hw := hw M98_12 eM98_12
        refine lv_aload_n hx hb dX5_carry_99 rfl (lv_at hl 0 rfl) ?_
        refine xg_N_8 (z := z) hz hx hb hts wu_X5 hown I wf_X5_27 dX5_carry_100 ?_
        refine lv_aload_n hx hb dX5_carry_103 rfl (lv_at hl 0 rfl) ?_
        refine xg_N_3 (z := z) hz hx hb hts wu_X5 hown I wf_X5_9 dX5_carry_104 ?_
        refine lv_iload_n hx hb dX5_carry_107 rfl (lv_at hl 2 rfl) ?_
        obtain ⟨h_14, hw⟩ := hw
        refine x_iald hx hb I (28 + z) (lenX_28 hz) h_14 dX5_carry_108 ?_
        have h_15 := I.rng (28 + z) x3
        obtain ⟨h_16, hw⟩ := hw
        refine x_iald hx hb I (38 + z) (lenX_38 hz) h_16 dX5_carry_109 ?_
        have h_17 := I.rng (38 + z) (M98_12 (28 + z) x3)
        refine li_name (fun v110_17 ev110_17 => ?_)
        replace hw := hw v110_17 ev110_17
        have hv110_17 : inR v110_17 := ev110_17 ▸ h_17
        refine lv_istore_n (lv' := [(3, .int (i32 v110_17)), (0, .ref (g.2.2.2 (8 + z))), (2, .int (i32 x2)), (4, .int (i32 x4))]) hx hb dX5_carry_110 rfl hl (by decide) rfl (fun ls hl => ?_)
        refine li_iinc (lv' := [(4, .int (i32 (x4 + 1))), (3, .int (i32 v110_17)), (0, .ref (g.2.2.2 (8 + z))), (2, .int (i32 x2))]) hx hb dX5_carry_111 hl (k := 3) rfl (by decide) rfl (fun ls hl => ?_)
        refine lv_goto (tgt := 65) hx hb dX5_carry_114 (by decide) ?_
        obtain ⟨h_19, hw⟩ := hw
        exact ih x2 v110_17 (x4 + 1) h2 hv110_17 h_19 _ _ _ _ hw I (lv_sub hl [2, 3, 1, 0] rfl)
set_option maxRecDepth 100000 in
set_option maxHeartbeats 4000000 in
theorem bX5_carry_54 {p : Program} {l : Launch} {e : Env} {s : State} {m : MethodId} {args : Array Value} {below : List Frame} {meth : Method} {c : Code} {g : GP} (z : Int) (hz : z = 0 ∨ z = 1) (C : Cx p m c cX5_carry 5 s args lw_g RX5 meth none) (post : Mem → Prop) : ∀ (x2 : Int), inR x2 → ∀ (M : Mem) (H : Heap) (locs : List Loc) (ls : Array Slot), jbX5_carry_54 z post x2 M → IX g s M H locs → lv_has ls 5 [(0, .ref (g.2.2.2 (8 + z))), (2, .int (i32 x2))] → W p l e rmX5_carry s m args below meth c H locs 0 0 (QVX below args s g post) (F0 m 54 ls []) := by
  obtain ⟨⟨hx, hb, hml, hown, hts⟩, hr, hlk⟩ := id C
  intro x2 h2 M H locs ls hw I hl
  refine lv_aload_n hx hb dX5_carry_54 rfl (lv_at hl 0 rfl) ?_
  refine xg_N_8 (z := z) hz hx hb hts wu_X5 hown I wf_X5_27 dX5_carry_55 ?_
  refine lv_bipush (v := i32 21) hx hb dX5_carry_58 (by decide) ?_
  refine x_iald hx hb I (38 + z) (lenX_38 hz) (by decide) dX5_carry_60 ?_
  have h_1 := I.rng (38 + z) 21
  refine li_name (fun v61_1 ev61_1 => ?_)
  replace hw := hw v61_1 ev61_1
  have hv61_1 : inR v61_1 := ev61_1 ▸ h_1
  refine lv_istore_n (lv' := [(3, .int (i32 v61_1)), (0, .ref (g.2.2.2 (8 + z))), (2, .int (i32 x2))]) hx hb dX5_carry_61 rfl hl (by decide) rfl (fun ls hl => ?_)
  refine li_iconst hx hb dX5_carry_62 ?_
  refine lv_istore (lv' := [(4, .int (i32 0)), (3, .int (i32 v61_1)), (0, .ref (g.2.2.2 (8 + z))), (2, .int (i32 x2))]) hx hb dX5_carry_63 hl (by decide) rfl (fun ls hl => ?_)
  obtain ⟨n1, hw⟩ := hw
  exact bX5_carry_65 z hz C post n1 x2 v61_1 0 h2 hv61_1 (by decide) _ _ _ _ hw I (lv_sub hl [2, 3, 1, 0] rfl)
set_option maxRecDepth 100000 in
set_option maxHeartbeats 4000000 in
theorem bX5_carry_13 {p : Program} {l : Launch} {e : Env} {s : State} {m : MethodId} {args : Array Value} {below : List Frame} {meth : Method} {c : Code} {g : GP} (z : Int) (hz : z = 0 ∨ z = 1) (C : Cx p m c cX5_carry 5 s args lw_g RX5 meth none) (post : Mem → Prop) : ∀ (n : Nat), ∀ (x2 x3 x4 : Int), inR x2 → inR x3 → inR x4 → ∀ (M : Mem) (H : Heap) (locs : List Loc) (ls : Array Slot), lpX5_carry_13 z post n x2 x3 x4 M → IX g s M H locs → lv_has ls 5 [(0, .ref (g.2.2.2 (8 + z))), (2, .int (i32 x2)), (3, .int (i32 x3)), (4, .int (i32 x4))] → W p l e rmX5_carry s m args below meth c H locs 0 0 (QVX below args s g post) (F0 m 13 ls []) := by
  obtain ⟨⟨hx, hb, hml, hown, hts⟩, hr, hlk⟩ := id C
  intro n
  induction n with
  | zero =>
    intro x2 x3 x4 h2 h3 h4 M H locs ls hw
    exact hw.elim
  | succ n ih =>
    intro x2 x3 x4 h2 h3 h4 M H locs ls hw I hl
    refine lv_iload hx hb dX5_carry_13 (lv_at hl 3 rfl) ?_
    refine lv_bipush (v := i32 22) hx hb dX5_carry_15 (by decide) ?_
    refine li_icmp_ge (tgt := 54) hx hb dX5_carry_17 (by decide) h4 (by decide) (fun c_1 => ?_) (fun c_1 => ?_)
    · replace hw := hw.1 c_1
      exact bX5_carry_54 z hz C post x2 h2 _ _ _ _ hw I (lv_sub hl [0, 1] rfl)
    · replace hw := hw.2 c_1
      refine lv_iload_n hx hb dX5_carry_20 rfl (lv_at hl 2 rfl) ?_
      refine li_iconst hx hb dX5_carry_21 ?_
      refine li_icmp_eq (tgt := 54) hx hb dX5_carry_22 (by decide) h3 (by decide) (fun c_2 => ?_) (fun c_2 => ?_)
      · replace hw := hw.1 c_2
        exact bX5_carry_54 z hz C post x2 h2 _ _ _ _ hw I (lv_sub hl [0, 1] rfl)
      · replace hw := hw.2 c_2
        refine lv_iload_n hx hb dX5_carry_25 rfl (lv_at hl 1 rfl) ?_
        refine lv_aload_n hx hb dX5_carry_26 rfl (lv_at hl 0 rfl) ?_
        refine xg_N_5 (z := z) hz hx hb hts wu_X5 hown I wf_X5_18 dX5_carry_27 ?_
        refine lv_iload_n hx hb dX5_carry_30 rfl (lv_at hl 2 rfl) ?_
        obtain ⟨h_3, hw⟩ := hw
        refine x_iald hx hb I (32 + z) (lenX_32 hz) h_3 dX5_carry_31 ?_
        have h_4 := I.rng (32 + z) x3
        refine g_mmin hx hb (hml.trans hl.1.symm) hts hown wm_X5_66 wa_min wn_J9 wc_min (Nat.le_of_ble_eq_true rfl) (Nat.le_of_ble_eq_true rfl) (Nat.zero_le _) (Nat.zero_le _) h2 h_4 dX5_carry_32 ?_
        refine li_name (fun v35_4 ev35_4 => ?_)
        replace hw := hw v35_4 ev35_4
        have hv35_4 : inR v35_4 := ev35_4 ▸ (inR_min h2 h_4)
        refine lv_istore_n (lv' := [(2, .int (i32 v35_4)), (0, .ref (g.2.2.2 (8 + z))), (3, .int (i32 x3)), (4, .int (i32 x4))]) hx hb dX5_carry_35 rfl hl (by decide) rfl (fun ls hl => ?_)
        refine lv_aload_n hx hb dX5_carry_36 rfl (lv_at hl 1 rfl) ?_
        refine xg_N_8 (z := z) hz hx hb hts wu_X5 hown I wf_X5_27 dX5_carry_37 ?_
        refine lv_aload_n hx hb dX5_carry_40 rfl (lv_at hl 1 rfl) ?_
        refine xg_N_3 (z := z) hz hx hb hts wu_X5 hown I wf_X5_9 dX5_carry_41 ?_
        refine lv_iload_n hx hb dX5_carry_44 rfl (lv_at hl 2 rfl) ?_
        obtain ⟨h_6, hw⟩ := hw
        refine x_iald hx hb I (28 + z) (lenX_28 hz) h_6 dX5_carry_45 ?_
        have h_7 := I.rng (28 + z) x3
        obtain ⟨h_8, hw⟩ := hw
        refine x_iald hx hb I (38 + z) (lenX_38 hz) h_8 dX5_carry_46 ?_
        have h_9 := I.rng (38 + z) (M (28 + z) x3)
        refine li_name (fun v47_9 ev47_9 => ?_)
        replace hw := hw v47_9 ev47_9
        have hv47_9 : inR v47_9 := ev47_9 ▸ h_9
        refine lv_istore_n (lv' := [(3, .int (i32 v47_9)), (2, .int (i32 v35_4)), (0, .ref (g.2.2.2 (8 + z))), (4, .int (i32 x4))]) hx hb dX5_carry_47 rfl hl (by decide) rfl (fun ls hl => ?_)
        refine li_iinc (lv' := [(4, .int (i32 (x4 + 1))), (3, .int (i32 v47_9)), (2, .int (i32 v35_4)), (0, .ref (g.2.2.2 (8 + z)))]) hx hb dX5_carry_48 hl (k := 3) rfl (by decide) rfl (fun ls hl => ?_)
        refine lv_goto (tgt := 13) hx hb dX5_carry_51 (by decide) ?_
        obtain ⟨h_11, hw⟩ := hw
        exact ih v35_4 v47_9 (x4 + 1) hv35_4 hv47_9 h_11 _ _ _ _ hw I (lv_sub hl [3, 2, 1, 0] rfl)
set_option maxRecDepth 100000 in
set_option maxHeartbeats 4000000 in
theorem mX5_carry (l : Launch) (g : GP) (z : Int) (hz : z = 0 ∨ z = 1) (a1 : Int) (ha1 : inR a1) (M : Mem) (post : Mem → Prop) (sz : Nat) (hw : wpX5_carry z a1 M post) : MVX l yX5_carry wtX5_carry rmX5_carry g [.ref (g.2.2.2 (8 + z)), .int (i32 a1)] M sz post := by
  refine Met.ofW (cc := cX5_carry) (maxL := 5) (ret := none) (by decide) rfl ?_
  intro p e s m args below meth c s₁ B hml hv
  obtain ⟨rfl, hpre⟩ := hv
  have hsz := hpre.1
  subst hsz
  have C : Cx p m c cX5_carry 5 s _ lw_g RX5 meth none := ⟨⟨B.exec, B.bytes, hml, findClass_of_methodNamed B.named, fun w h => atoms_spec (ws := wtX5_carry) B.pre w (List.mem_cons_of_mem _ h)⟩, B.returns, B.notSynchronized⟩
  obtain ⟨⟨hx, hb, hml, hown, hts⟩, hr, hlk⟩ := id C
  have I := InG.start hpre
  have hl := lv_entry ([.ref (g.2.2.2 (8 + z)), .int (i32 a1)]) (n := 5) (Nat.le_of_ble_eq_true rfl)
  rw [lg_entry_eq]
  generalize (lg_sl ([.ref (g.2.2.2 (8 + z)), .int (i32 a1)]) ++ List.replicate (5 - (lg_sl ([.ref (g.2.2.2 (8 + z)), .int (i32 a1)])).length) Slot.unset).toArray = ls at hl ⊢
  have hl : lv_has ls 5 [(0, .ref (g.2.2.2 (8 + z))), (1, .int (i32 a1))] := hl
  show W p l e rmX5_carry s m _ below meth c s.heap [] 0 0 (QVX below _ s g post) _
  refine lv_iload_n hx hb dX5_carry_0 rfl (lv_at hl 1 rfl) ?_
  refine lv_istore_n (lv' := [(2, .int (i32 a1)), (0, .ref (g.2.2.2 (8 + z))), (1, .int (i32 a1))]) hx hb dX5_carry_1 rfl hl (by decide) rfl (fun ls hl => ?_)
  refine lv_aload_n hx hb dX5_carry_2 rfl (lv_at hl 1 rfl) ?_
  refine xg_N_8 (z := z) hz hx hb hts wu_X5 hown I wf_X5_27 dX5_carry_3 ?_
  refine lv_bipush (v := i32 21) hx hb dX5_carry_6 (by decide) ?_
  refine x_iald hx hb I (38 + z) (lenX_38 hz) (by decide) dX5_carry_8 ?_
  have h_1 := I.rng (38 + z) 21
  refine li_name (fun v9_1 ev9_1 => ?_)
  replace hw := hw v9_1 ev9_1
  have hv9_1 : inR v9_1 := ev9_1 ▸ h_1
  refine lv_istore_n (lv' := [(3, .int (i32 v9_1)), (2, .int (i32 a1)), (0, .ref (g.2.2.2 (8 + z))), (1, .int (i32 a1))]) hx hb dX5_carry_9 rfl hl (by decide) rfl (fun ls hl => ?_)
  refine li_iconst hx hb dX5_carry_10 ?_
  refine lv_istore (lv' := [(4, .int (i32 0)), (3, .int (i32 v9_1)), (2, .int (i32 a1)), (0, .ref (g.2.2.2 (8 + z))), (1, .int (i32 a1))]) hx hb dX5_carry_11 hl (by decide) rfl (fun ls hl => ?_)
  obtain ⟨n1, hw⟩ := hw
  exact bX5_carry_13 z hz C post n1 a1 v9_1 0 ha1 hv9_1 (by decide) _ _ _ _ hw I (lv_sub hl [3, 2, 1, 0] rfl)
abbrev rmX5_push : Room := { frames := 2, cells := 0, slots := 0, locals := 45 }
abbrev wtX5_push : List Cond := Cond.code yX5_push cX5_push 3 none :: lw_g
set_option maxRecDepth 100000 in
set_option maxHeartbeats 4000000 in
theorem bX5_push_40 {p : Program} {l : Launch} {e : Env} {s : State} {m : MethodId} {args : Array Value} {below : List Frame} {meth : Method} {c : Code} {g : GP} (z : Int) (hz : z = 0 ∨ z = 1) (C : Cx p m c cX5_push 3 s args lw_g RX5 meth none) (post : Mem → Prop) : ∀ (M : Mem) (H : Heap) (locs : List Loc) (ls : Array Slot), jbX5_push_40 z post  M → IX g s M H locs → lv_has ls 3 [(0, .ref (g.2.2.2 (8 + z)))] → W p l e rmX5_push s m args below meth c H locs 0 0 (QVX below args s g post) (F0 m 40 ls []) := by
  obtain ⟨⟨hx, hb, hml, hown, hts⟩, hr, hlk⟩ := id C
  intro M H locs ls hw I hl
  exact g_vret hx hb hr hlk I hw dX5_push_40
set_option maxRecDepth 100000 in
set_option maxHeartbeats 4000000 in
theorem bX5_push_2 {p : Program} {l : Launch} {e : Env} {s : State} {m : MethodId} {args : Array Value} {below : List Frame} {meth : Method} {c : Code} {g : GP} (z : Int) (hz : z = 0 ∨ z = 1) (C : Cx p m c cX5_push 3 s args lw_g RX5 meth none) (post : Mem → Prop) : ∀ (n : Nat), ∀ (x1 x2 : Int), inR x1 → inR x2 → ∀ (M : Mem) (H : Heap) (locs : List Loc) (ls : Array Slot), lpX5_push_2 z post n x1 x2 M → IX g s M H locs → lv_has ls 3 [(0, .ref (g.2.2.2 (8 + z))), (1, .int (i32 x1)), (2, .int (i32 x2))] → W p l e rmX5_push s m args below meth c H locs 0 0 (QVX below args s g post) (F0 m 2 ls []) := by
  obtain ⟨⟨hx, hb, hml, hown, hts⟩, hr, hlk⟩ := id C
  intro n
  induction n with
  | zero =>
    intro x1 x2 h1 h2 M H locs ls hw
    exact hw.elim
  | succ n ih =>
    intro x1 x2 h1 h2 M H locs ls hw I hl
    refine lv_iload_n hx hb dX5_push_2 rfl (lv_at hl 2 rfl) ?_
    refine lv_sipush (v := i32 10000) hx hb dX5_push_3 (by decide) ?_
    refine li_icmp_ge (tgt := 40) hx hb dX5_push_6 (by decide) h2 (by decide) (fun c_1 => ?_) (fun c_1 => ?_)
    · replace hw := hw.1 c_1
      exact bX5_push_40 z hz C post _ _ _ _ hw I (lv_sub hl [0] rfl)
    · replace hw := hw.2 c_1
      refine lv_aload_n hx hb dX5_push_9 rfl (lv_at hl 0 rfl) ?_
      refine xg_N_1 (z := z) hz hx hb hts wu_X5 hown I wf_X5_34 dX5_push_10 ?_
      have h_2 := I.rng (8 + z) 1
      refine lv_iload_n hx hb dX5_push_13 rfl (lv_at hl 1 rfl) ?_
      refine li_icmp_ge (tgt := 40) hx hb dX5_push_14 (by decide) h_2 h1 (fun c_3 => ?_) (fun c_3 => ?_)
      · replace hw := hw.1 c_3
        exact bX5_push_40 z hz C post _ _ _ _ hw I (lv_sub hl [0] rfl)
      · replace hw := hw.2 c_3
        refine lv_aload_n hx hb dX5_push_17 rfl (lv_at hl 0 rfl) ?_
        refine g_callVi (o := (8 + z)) (As := []) (rest := []) ⟨hx, hb, hml, hown, hts⟩ I (mX5_search l g z hz M _ _ hw) (cwV 0 hts (gd_V wm_X5_44 wi_X5_search wl_X5_search wn_X5 wc_X5_search) rfl rfl rfl wd_X5_search ⟨Nat.le_of_ble_eq_true rfl, Nat.le_of_ble_eq_true rfl⟩) (by omega) (by omega) (obX_N hz) rfl rfl hl.1 rfl (Nat.le_of_ble_eq_true rfl) dX5_push_18 ⟨Nat.zero_le _, Nat.zero_le _⟩ (fun r18_3 M18_3 H locs hr18_3 hw I => ?_)
        refine li_if_eq (tgt := 40) hx hb dX5_push_21 (by decide) hr18_3 (fun c_5 => ?_) (fun c_5 => ?_)
        · replace hw := hw.1 c_5
          exact bX5_push_40 z hz C post _ _ _ _ hw I (lv_sub hl [0] rfl)
        · replace hw := hw.2 c_5
          refine lv_aload_n hx hb dX5_push_24 rfl (lv_at hl 0 rfl) ?_
          refine lv_iload_n hx hb dX5_push_25 rfl (lv_at hl 1 rfl) ?_
          refine lv_aload_n hx hb dX5_push_26 rfl (lv_at hl 0 rfl) ?_
          refine xg_N_1 (z := z) hz hx hb hts wu_X5 hown I wf_X5_34 dX5_push_27 ?_
          have h_6 := I.rng (8 + z) 1
          refine li_isub hx hb dX5_push_30 ?_
          obtain ⟨h_7, hw⟩ := hw
          refine g_callVv (o := (8 + z)) (As := [.int (i32 (x1 - (M18_3 (8 + z) 1)))]) (rest := []) ⟨hx, hb, hml, hown, hts⟩ I (mX5_carry l g z hz (x1 - (M18_3 (8 + z) 1)) h_7 M18_3 _ _ hw) (cwV 1 hts (gd_V wm_X5_48 wi_X5_carry wl_X5_carry wn_X5 wc_X5_carry) rfl rfl rfl wd_X5_carry ⟨Nat.le_of_ble_eq_true rfl, Nat.le_of_ble_eq_true rfl⟩) (by omega) (by omega) (obX_N hz) rfl rfl hl.1 rfl (Nat.le_of_ble_eq_true rfl) dX5_push_31 ⟨Nat.zero_le _, Nat.zero_le _⟩ (fun M31_7 H locs hw I => ?_)
          refine li_iinc (lv' := [(2, .int (i32 (x2 + 1))), (0, .ref (g.2.2.2 (8 + z))), (1, .int (i32 x1))]) hx hb dX5_push_34 hl (k := 2) rfl (by decide) rfl (fun ls hl => ?_)
          refine lv_goto (tgt := 2) hx hb dX5_push_37 (by decide) ?_
          obtain ⟨h_9, hw⟩ := hw
          exact ih x1 (x2 + 1) h1 h_9 _ _ _ _ hw I (lv_sub hl [1, 2, 0] rfl)
set_option maxRecDepth 100000 in
set_option maxHeartbeats 4000000 in
theorem mX5_push (l : Launch) (g : GP) (z : Int) (hz : z = 0 ∨ z = 1) (a1 : Int) (ha1 : inR a1) (M : Mem) (post : Mem → Prop) (sz : Nat) (hw : wpX5_push z a1 M post) : MVX l yX5_push wtX5_push rmX5_push g [.ref (g.2.2.2 (8 + z)), .int (i32 a1)] M sz post := by
  refine Met.ofW (cc := cX5_push) (maxL := 3) (ret := none) (by decide) rfl ?_
  intro p e s m args below meth c s₁ B hml hv
  obtain ⟨rfl, hpre⟩ := hv
  have hsz := hpre.1
  subst hsz
  have C : Cx p m c cX5_push 3 s _ lw_g RX5 meth none := ⟨⟨B.exec, B.bytes, hml, findClass_of_methodNamed B.named, fun w h => atoms_spec (ws := wtX5_push) B.pre w (List.mem_cons_of_mem _ h)⟩, B.returns, B.notSynchronized⟩
  obtain ⟨⟨hx, hb, hml, hown, hts⟩, hr, hlk⟩ := id C
  have I := InG.start hpre
  have hl := lv_entry ([.ref (g.2.2.2 (8 + z)), .int (i32 a1)]) (n := 3) (Nat.le_of_ble_eq_true rfl)
  rw [lg_entry_eq]
  generalize (lg_sl ([.ref (g.2.2.2 (8 + z)), .int (i32 a1)]) ++ List.replicate (3 - (lg_sl ([.ref (g.2.2.2 (8 + z)), .int (i32 a1)])).length) Slot.unset).toArray = ls at hl ⊢
  have hl : lv_has ls 3 [(0, .ref (g.2.2.2 (8 + z))), (1, .int (i32 a1))] := hl
  show W p l e rmX5_push s m _ below meth c s.heap [] 0 0 (QVX below _ s g post) _
  refine li_iconst hx hb dX5_push_0 ?_
  refine lv_istore_n (lv' := [(2, .int (i32 0)), (0, .ref (g.2.2.2 (8 + z))), (1, .int (i32 a1))]) hx hb dX5_push_1 rfl hl (by decide) rfl (fun ls hl => ?_)
  obtain ⟨n1, hw⟩ := hw
  exact bX5_push_2 z hz C post n1 a1 0 ha1 (by decide) _ _ _ _ hw I (lv_sub hl [1, 2, 0] rfl)
abbrev rmX4_cheapest : Room := { frames := 3, cells := 0, slots := 0, locals := 73 }
abbrev wtX4_cheapest : List Cond := Cond.code yX4_cheapest cX4_cheapest 7 (some .int) :: lw_g
set_option maxRecDepth 100000 in
set_option maxHeartbeats 4000000 in
theorem bX4_cheapest_87 {p : Program} {l : Launch} {e : Env} {s : State} {m : MethodId} {args : Array Value} {below : List Frame} {meth : Method} {c : Code} {g : GP} (r2 : Int) (r3 : Int) (C : Cx p m c cX4_cheapest 7 s args lw_g RX4 meth (some .int)) (post : Int → Mem → Prop) (k21 : Int → Int → Mem → Prop) (k33 : Int → Int → Int → Mem → Prop) (hk21 : ∀ (x4 x5 : Int), inR x4 → inR x5 → ∀ (M : Mem) (H : Heap) (locs : List Loc) (ls : Array Slot), k21 x4 x5 M → IX g s M H locs → lv_has ls 7 [(0, .ref (g.2.2.2 5)), (1, .ref (g.2.2.2 1)), (2, .ref (g.2.2.2 r2)), (3, .ref (g.2.2.2 r3)), (4, .int (i32 x4)), (5, .int (i32 x5))] → W p l e rmX4_cheapest s m args below meth c H locs 0 0 (QIX below args s g post) (F0 m 21 ls [])) (hk33 : ∀ (x4 x5 x6 : Int), inR x4 → inR x5 → inR x6 → ∀ (M : Mem) (H : Heap) (locs : List Loc) (ls : Array Slot), k33 x4 x5 x6 M → IX g s M H locs → lv_has ls 7 [(0, .ref (g.2.2.2 5)), (1, .ref (g.2.2.2 1)), (2, .ref (g.2.2.2 r2)), (3, .ref (g.2.2.2 r3)), (4, .int (i32 x4)), (5, .int (i32 x5)), (6, .int (i32 x6))] → W p l e rmX4_cheapest s m args below meth c H locs 0 0 (QIX below args s g post) (F0 m 33 ls [])) : ∀ (x4 x5 x6 : Int), inR x4 → inR x5 → inR x6 → ∀ (M : Mem) (H : Heap) (locs : List Loc) (ls : Array Slot), jbX4_cheapest_87 r2 r3 post k21 k33 x4 x5 x6 M → IX g s M H locs → lv_has ls 7 [(0, .ref (g.2.2.2 5)), (1, .ref (g.2.2.2 1)), (2, .ref (g.2.2.2 r2)), (3, .ref (g.2.2.2 r3)), (4, .int (i32 x4)), (5, .int (i32 x5)), (6, .int (i32 x6))] → W p l e rmX4_cheapest s m args below meth c H locs 0 0 (QIX below args s g post) (F0 m 87 ls []) := by
  obtain ⟨⟨hx, hb, hml, hown, hts⟩, hr, hlk⟩ := id C
  intro x4 x5 x6 h4 h5 h6 M H locs ls hw I hl
  refine li_iinc (lv' := [(6, .int (i32 (x6 + 1))), (0, .ref (g.2.2.2 5)), (1, .ref (g.2.2.2 1)), (2, .ref (g.2.2.2 r2)), (3, .ref (g.2.2.2 r3)), (4, .int (i32 x4)), (5, .int (i32 x5))]) hx hb dX4_cheapest_87 hl (k := 6) rfl (by decide) rfl (fun ls hl => ?_)
  refine lv_goto (tgt := 33) hx hb dX4_cheapest_90 (by decide) ?_
  obtain ⟨h_1, hw⟩ := hw
  exact hk33 x4 x5 (x6 + 1) h4 h5 h_1 _ _ _ _ hw I (lv_sub hl [1, 2, 3, 4, 5, 6, 0] rfl)
set_option maxRecDepth 100000 in
set_option maxHeartbeats 4000000 in
theorem bX4_cheapest_33 {p : Program} {l : Launch} {e : Env} {s : State} {m : MethodId} {args : Array Value} {below : List Frame} {meth : Method} {c : Code} {g : GP} (r2 : Int) (r3 : Int) (C : Cx p m c cX4_cheapest 7 s args lw_g RX4 meth (some .int)) (post : Int → Mem → Prop) (k21 : Int → Int → Mem → Prop) (hk21 : ∀ (x4 x5 : Int), inR x4 → inR x5 → ∀ (M : Mem) (H : Heap) (locs : List Loc) (ls : Array Slot), k21 x4 x5 M → IX g s M H locs → lv_has ls 7 [(0, .ref (g.2.2.2 5)), (1, .ref (g.2.2.2 1)), (2, .ref (g.2.2.2 r2)), (3, .ref (g.2.2.2 r3)), (4, .int (i32 x4)), (5, .int (i32 x5))] → W p l e rmX4_cheapest s m args below meth c H locs 0 0 (QIX below args s g post) (F0 m 21 ls [])) : ∀ (n : Nat), ∀ (x4 x5 x6 : Int), inR x4 → inR x5 → inR x6 → ∀ (M : Mem) (H : Heap) (locs : List Loc) (ls : Array Slot), lpX4_cheapest_33 r2 r3 post k21 n x4 x5 x6 M → IX g s M H locs → lv_has ls 7 [(0, .ref (g.2.2.2 5)), (1, .ref (g.2.2.2 1)), (2, .ref (g.2.2.2 r2)), (3, .ref (g.2.2.2 r3)), (4, .int (i32 x4)), (5, .int (i32 x5)), (6, .int (i32 x6))] → W p l e rmX4_cheapest s m args below meth c H locs 0 0 (QIX below args s g post) (F0 m 33 ls []) := by
  obtain ⟨⟨hx, hb, hml, hown, hts⟩, hr, hlk⟩ := id C
  intro n
  induction n with
  | zero =>
    intro x4 x5 x6 h4 h5 h6 M H locs ls hw
    exact hw.elim
  | succ n ih =>
    intro x4 x5 x6 h4 h5 h6 M H locs ls hw I hl
    refine lv_iload hx hb dX4_cheapest_33 (lv_at hl 6 rfl) ?_
    refine lv_aload_n hx hb dX4_cheapest_35 rfl (lv_at hl 1 rfl) ?_
    refine xg_1_0 hx hb hts wu_X3 hown I wf_X4_21 dX4_cheapest_36 ?_
    have h_1 := I.rng 1 0
    refine li_icmp_ge (tgt := 93) hx hb dX4_cheapest_39 (by decide) h6 h_1 (fun c_2 => ?_) (fun c_2 => ?_)
    · replace hw := hw.1 c_2
      refine li_iinc (lv' := [(5, .int (i32 (x5 + 1))), (0, .ref (g.2.2.2 5)), (1, .ref (g.2.2.2 1)), (2, .ref (g.2.2.2 r2)), (3, .ref (g.2.2.2 r3)), (4, .int (i32 x4)), (6, .int (i32 x6))]) hx hb dX4_cheapest_93 hl (k := 5) rfl (by decide) rfl (fun ls hl => ?_)
      refine lv_goto (tgt := 21) hx hb dX4_cheapest_96 (by decide) ?_
      obtain ⟨h_3, hw⟩ := hw
      exact hk21 x4 (x5 + 1) h4 h_3 _ _ _ _ hw I (lv_sub hl [1, 2, 3, 4, 5, 0] rfl)
    · replace hw := hw.2 c_2
      refine lv_aload_n hx hb dX4_cheapest_42 rfl (lv_at hl 2 rfl) ?_
      refine lv_iload hx hb dX4_cheapest_43 (lv_at hl 5 rfl) ?_
      obtain ⟨h_4, hw⟩ := hw
      refine x_iald hx hb I r2 rfl h_4 dX4_cheapest_45 ?_
      have h_5 := I.rng r2 x5
      refine lv_aload_n hx hb dX4_cheapest_46 rfl (lv_at hl 3 rfl) ?_
      refine lv_iload hx hb dX4_cheapest_47 (lv_at hl 5 rfl) ?_
      obtain ⟨h_6, hw⟩ := hw
      refine x_iald hx hb I r3 rfl h_6 dX4_cheapest_49 ?_
      have h_7 := I.rng r3 x5
      refine li_icmp_le (tgt := 87) hx hb dX4_cheapest_50 (by decide) h_5 h_7 (fun c_8 => ?_) (fun c_8 => ?_)
      · replace hw := hw.1 c_8
        exact bX4_cheapest_87 r2 r3 C post k21 (fun y4 y5 y6 N => lpX4_cheapest_33 r2 r3 post k21 n y4 y5 y6 N) hk21 ih x4 x5 x6 h4 h5 h6 _ _ _ _ hw I (lv_sub hl [0, 1, 2, 3, 4, 5, 6] rfl)
      · replace hw := hw.2 c_8
        refine lv_aload_n hx hb dX4_cheapest_53 rfl (lv_at hl 2 rfl) ?_
        refine lv_iload hx hb dX4_cheapest_54 (lv_at hl 6 rfl) ?_
        obtain ⟨h_9, hw⟩ := hw
        refine x_iald hx hb I r2 rfl h_9 dX4_cheapest_56 ?_
        have h_10 := I.rng r2 x6
        refine lv_aload_n hx hb dX4_cheapest_57 rfl (lv_at hl 3 rfl) ?_
        refine lv_iload hx hb dX4_cheapest_58 (lv_at hl 6 rfl) ?_
        obtain ⟨h_11, hw⟩ := hw
        refine x_iald hx hb I r3 rfl h_11 dX4_cheapest_60 ?_
        have h_12 := I.rng r3 x6
        refine li_icmp_ge (tgt := 87) hx hb dX4_cheapest_61 (by decide) h_10 h_12 (fun c_13 => ?_) (fun c_13 => ?_)
        · replace hw := hw.1 c_13
          exact bX4_cheapest_87 r2 r3 C post k21 (fun y4 y5 y6 N => lpX4_cheapest_33 r2 r3 post k21 n y4 y5 y6 N) hk21 ih x4 x5 x6 h4 h5 h6 _ _ _ _ hw I (lv_sub hl [0, 1, 2, 3, 4, 5, 6] rfl)
        · replace hw := hw.2 c_13
          refine lv_aload_n hx hb dX4_cheapest_64 rfl (lv_at hl 0 rfl) ?_
          refine xg_5_0 hx hb hts wu_X4 hown I wf_X4_12 dX4_cheapest_65 ?_
          refine lv_iload hx hb dX4_cheapest_68 (lv_at hl 5 rfl) ?_
          refine lv_iload hx hb dX4_cheapest_70 (lv_at hl 6 rfl) ?_
          refine lv_ldc (v := i32 1000000) hx hb hown (hts _ wk_X4_31) dX4_cheapest_72 ?_
          refine lv_aload_n hx hb dX4_cheapest_74 rfl (lv_at hl 1 rfl) ?_
          refine xg_1_7 hx hb hts wu_X3 hown I wf_X4_32 dX4_cheapest_75 ?_
          refine lv_iload hx hb dX4_cheapest_78 (lv_at hl 5 rfl) ?_
          obtain ⟨h_14, hw⟩ := hw
          refine x_aald_11 hx hb I h_14 dX4_cheapest_80 ?_
          refine lv_iload hx hb dX4_cheapest_81 (lv_at hl 6 rfl) ?_
          obtain ⟨h_15, hw⟩ := hw
          refine x_iald hx hb I (50 + x5) (lenX_50 h_14) h_15 dX4_cheapest_83 ?_
          have h_16 := I.rng (50 + x5) x6
          refine g_callVv (o := (8 + 0)) (As := [.int (i32 x5), .int (i32 x6), .int (i32 1000000), .int (i32 (M (50 + x5) x6))]) (rest := []) ⟨hx, hb, hml, hown, hts⟩ I (mX5_join l g 0 (Or.inl rfl) x5 x6 1000000 (M (50 + x5) x6) h5 h6 (by decide) h_16 M _ _ hw) (cwV 4 hts (gd_V wm_X4_36 wi_X5_join wl_X5_join wn_X5 wc_X5_join) rfl rfl rfl wd_X5_join ⟨Nat.le_of_ble_eq_true rfl, Nat.le_of_ble_eq_true rfl⟩) (by omega) (by omega) (obX_N (Or.inl rfl)) rfl rfl hl.1 rfl (Nat.le_of_ble_eq_true rfl) dX4_cheapest_84 ⟨Nat.zero_le _, Nat.zero_le _⟩ (fun M84_16 H locs hw I => ?_)
          exact bX4_cheapest_87 r2 r3 C post k21 (fun y4 y5 y6 N => lpX4_cheapest_33 r2 r3 post k21 n y4 y5 y6 N) hk21 ih x4 x5 x6 h4 h5 h6 _ _ _ _ hw I (lv_sub hl [0, 1, 2, 3, 4, 5, 6] rfl)
set_option maxRecDepth 100000 in
set_option maxHeartbeats 4000000 in
theorem bX4_cheapest_21 {p : Program} {l : Launch} {e : Env} {s : State} {m : MethodId} {args : Array Value} {below : List Frame} {meth : Method} {c : Code} {g : GP} (r2 : Int) (r3 : Int) (C : Cx p m c cX4_cheapest 7 s args lw_g RX4 meth (some .int)) (post : Int → Mem → Prop) : ∀ (n : Nat), ∀ (x4 x5 : Int), inR x4 → inR x5 → ∀ (M : Mem) (H : Heap) (locs : List Loc) (ls : Array Slot), lpX4_cheapest_21 r2 r3 post n x4 x5 M → IX g s M H locs → lv_has ls 7 [(0, .ref (g.2.2.2 5)), (1, .ref (g.2.2.2 1)), (2, .ref (g.2.2.2 r2)), (3, .ref (g.2.2.2 r3)), (4, .int (i32 x4)), (5, .int (i32 x5))] → W p l e rmX4_cheapest s m args below meth c H locs 0 0 (QIX below args s g post) (F0 m 21 ls []) := by
  obtain ⟨⟨hx, hb, hml, hown, hts⟩, hr, hlk⟩ := id C
  intro n
  induction n with
  | zero =>
    intro x4 x5 h4 h5 M H locs ls hw
    exact hw.elim
  | succ n ih =>
    intro x4 x5 h4 h5 M H locs ls hw I hl
    refine lv_iload hx hb dX4_cheapest_21 (lv_at hl 5 rfl) ?_
    refine lv_aload_n hx hb dX4_cheapest_23 rfl (lv_at hl 1 rfl) ?_
    refine xg_1_0 hx hb hts wu_X3 hown I wf_X4_21 dX4_cheapest_24 ?_
    have h_1 := I.rng 1 0
    refine li_icmp_ge (tgt := 99) hx hb dX4_cheapest_27 (by decide) h5 h_1 (fun c_2 => ?_) (fun c_2 => ?_)
    · replace hw := hw.1 c_2
      refine lv_aload_n hx hb dX4_cheapest_99 rfl (lv_at hl 0 rfl) ?_
      refine lv_aload_n hx hb dX4_cheapest_100 rfl (lv_at hl 1 rfl) ?_
      refine xg_1_0 hx hb hts wu_X3 hown I wf_X4_21 dX4_cheapest_101 ?_
      have h_3 := I.rng 1 0
      refine lv_aload_n hx hb dX4_cheapest_104 rfl (lv_at hl 2 rfl) ?_
      refine lv_aload_n hx hb dX4_cheapest_105 rfl (lv_at hl 3 rfl) ?_
      refine g_callVv (o := 5) (As := [.int (i32 (M 1 0)), .ref (g.2.2.2 r2), .ref (g.2.2.2 r3)]) (rest := []) ⟨hx, hb, hml, hown, hts⟩ I (mX4_joinSink l g r2 r3 (M 1 0) h_3 M _ _ hw) (cwV 3 hts (gd_V wm_X4_40 wi_X4_joinSink wl_X4_joinSink wn_X4 wc_X4_joinSink) rfl rfl rfl wd_X4_joinSink ⟨Nat.le_of_ble_eq_true rfl, Nat.le_of_ble_eq_true rfl⟩) (by omega) (by omega) obX_5 rfl rfl hl.1 rfl (Nat.le_of_ble_eq_true rfl) dX4_cheapest_106 ⟨Nat.zero_le _, Nat.zero_le _⟩ (fun M106_3 H locs hw I => ?_)
      refine lv_aload_n hx hb dX4_cheapest_109 rfl (lv_at hl 0 rfl) ?_
      refine xg_5_0 hx hb hts wu_X4 hown I wf_X4_12 dX4_cheapest_110 ?_
      refine lv_iload hx hb dX4_cheapest_113 (lv_at hl 4 rfl) ?_
      refine lv_aload_n hx hb dX4_cheapest_115 rfl (lv_at hl 1 rfl) ?_
      refine xg_1_0 hx hb hts wu_X3 hown I wf_X4_21 dX4_cheapest_116 ?_
      have h_5 := I.rng 1 0
      refine lv_aload_n hx hb dX4_cheapest_119 rfl (lv_at hl 2 rfl) ?_
      refine lv_aload_n hx hb dX4_cheapest_120 rfl (lv_at hl 3 rfl) ?_
      refine g_callSi (As := [.int (i32 (M106_3 1 0)), .ref (g.2.2.2 r2), .ref (g.2.2.2 r3)]) (rest := [.int (i32 x4), .ref (g.2.2.2 (8 + 0))]) ⟨hx, hb, hml, hown, hts⟩ I (mX4_staying l g r2 r3 (M106_3 1 0) h_5 M106_3 _ _ hw) (va_cwS 3 hts (gd_S wm_X4_44 wa_X4_staying wn_X4 wc_X4_staying) rfl rfl rfl wd_X4_staying ⟨Nat.le_of_ble_eq_true rfl, Nat.le_of_ble_eq_true rfl⟩) rfl hl.1 rfl (Nat.le_of_ble_eq_true rfl) dX4_cheapest_121 ⟨Nat.zero_le _, Nat.zero_le _⟩ (fun r121_5 M121_5 H locs hr121_5 hw I => ?_)
      refine li_isub hx hb dX4_cheapest_124 ?_
      obtain ⟨h_7, hw⟩ := hw
      refine g_callVv (o := (8 + 0)) (As := [.int (i32 (x4 - r121_5))]) (rest := []) ⟨hx, hb, hml, hown, hts⟩ I (mX5_push l g 0 (Or.inl rfl) (x4 - r121_5) h_7 M121_5 _ _ hw) (cwV 1 hts (gd_V wm_X4_47 wi_X5_push wl_X5_push wn_X5 wc_X5_push) rfl rfl rfl wd_X5_push ⟨Nat.le_of_ble_eq_true rfl, Nat.le_of_ble_eq_true rfl⟩) (by omega) (by omega) (obX_N (Or.inl rfl)) rfl rfl hl.1 rfl (Nat.le_of_ble_eq_true rfl) dX4_cheapest_125 ⟨Nat.zero_le _, Nat.zero_le _⟩ (fun M125_7 H locs hw I => ?_)
      refine lv_aload_n hx hb dX4_cheapest_128 rfl (lv_at hl 0 rfl) ?_
      refine xg_5_0 hx hb hts wu_X4 hown I wf_X4_12 dX4_cheapest_129 ?_
      refine xg_N_2 (z := 0) (Or.inl rfl) hx hb hts wu_X5 hown I wf_X4_51 dX4_cheapest_132 ?_
      have h_9 := I.rng (8 + 0) 2
      exact g_iret hx hb hr hlk I h_9 hw dX4_cheapest_135
    · replace hw := hw.2 c_2
      refine li_iconst hx hb dX4_cheapest_30 ?_
      refine lv_istore (lv' := [(6, .int (i32 0)), (0, .ref (g.2.2.2 5)), (1, .ref (g.2.2.2 1)), (2, .ref (g.2.2.2 r2)), (3, .ref (g.2.2.2 r3)), (4, .int (i32 x4)), (5, .int (i32 x5))]) hx hb dX4_cheapest_31 hl (by decide) rfl (fun ls hl => ?_)
      obtain ⟨n1, hw⟩ := hw
      exact bX4_cheapest_33 r2 r3 C post (fun y4 y5 N => lpX4_cheapest_21 r2 r3 post n y4 y5 N) ih n1 x4 x5 0 h4 h5 (by decide) _ _ _ _ hw I (lv_sub hl [1, 2, 3, 4, 5, 6, 0] rfl)
set_option maxRecDepth 100000 in
set_option maxHeartbeats 4000000 in
theorem mX4_cheapest (l : Launch) (g : GP) (r2 : Int) (r3 : Int) (a4 : Int) (ha4 : inR a4) (M : Mem) (post : Int → Mem → Prop) (sz : Nat) (hw : wpX4_cheapest r2 r3 a4 M post) : MIX l yX4_cheapest wtX4_cheapest rmX4_cheapest g [.ref (g.2.2.2 5), .ref (g.2.2.2 1), .ref (g.2.2.2 r2), .ref (g.2.2.2 r3), .int (i32 a4)] M sz post := by
  refine Met.ofW (cc := cX4_cheapest) (maxL := 7) (ret := (some .int)) (by decide) rfl ?_
  intro p e s m args below meth c s₁ B hml hv
  obtain ⟨rfl, hpre⟩ := hv
  have hsz := hpre.1
  subst hsz
  have C : Cx p m c cX4_cheapest 7 s _ lw_g RX4 meth (some .int) := ⟨⟨B.exec, B.bytes, hml, findClass_of_methodNamed B.named, fun w h => atoms_spec (ws := wtX4_cheapest) B.pre w (List.mem_cons_of_mem _ h)⟩, B.returns, B.notSynchronized⟩
  obtain ⟨⟨hx, hb, hml, hown, hts⟩, hr, hlk⟩ := id C
  have I := InG.start hpre
  have hl := lv_entry ([.ref (g.2.2.2 5), .ref (g.2.2.2 1), .ref (g.2.2.2 r2), .ref (g.2.2.2 r3), .int (i32 a4)]) (n := 7) (Nat.le_of_ble_eq_true rfl)
  rw [lg_entry_eq]
  generalize (lg_sl ([.ref (g.2.2.2 5), .ref (g.2.2.2 1), .ref (g.2.2.2 r2), .ref (g.2.2.2 r3), .int (i32 a4)]) ++ List.replicate (7 - (lg_sl ([.ref (g.2.2.2 5), .ref (g.2.2.2 1), .ref (g.2.2.2 r2), .ref (g.2.2.2 r3), .int (i32 a4)])).length) Slot.unset).toArray = ls at hl ⊢
  have hl : lv_has ls 7 [(0, .ref (g.2.2.2 5)), (1, .ref (g.2.2.2 1)), (2, .ref (g.2.2.2 r2)), (3, .ref (g.2.2.2 r3)), (4, .int (i32 a4))] := hl
  show W p l e rmX4_cheapest s m _ below meth c s.heap [] 0 0 (QIX below _ s g post) _
  refine lv_aload_n hx hb dX4_cheapest_0 rfl (lv_at hl 0 rfl) ?_
  refine xg_5_0 hx hb hts wu_X4 hown I wf_X4_12 dX4_cheapest_1 ?_
  refine g_callVv (o := (8 + 0)) (As := []) (rest := []) ⟨hx, hb, hml, hown, hts⟩ I (mX5_empty l g 0 (Or.inl rfl) M _ _ hw) (cwV 0 hts (gd_V wm_X4_18 wi_X5_empty wl_X5_empty wn_X5 wc_X5_empty) rfl rfl rfl wd_X5_empty ⟨Nat.le_of_ble_eq_true rfl, Nat.le_of_ble_eq_true rfl⟩) (by omega) (by omega) (obX_N (Or.inl rfl)) rfl rfl hl.1 rfl (Nat.le_of_ble_eq_true rfl) dX4_cheapest_4 ⟨Nat.zero_le _, Nat.zero_le _⟩ (fun M4_0 H locs hw I => ?_)
  refine lv_aload_n hx hb dX4_cheapest_7 rfl (lv_at hl 0 rfl) ?_
  refine lv_aload_n hx hb dX4_cheapest_8 rfl (lv_at hl 1 rfl) ?_
  refine xg_1_0 hx hb hts wu_X3 hown I wf_X4_21 dX4_cheapest_9 ?_
  have h_2 := I.rng 1 0
  refine lv_aload_n hx hb dX4_cheapest_12 rfl (lv_at hl 2 rfl) ?_
  refine lv_aload_n hx hb dX4_cheapest_13 rfl (lv_at hl 3 rfl) ?_
  refine g_callVi (o := 5) (As := [.int (i32 (M4_0 1 0)), .ref (g.2.2.2 r2), .ref (g.2.2.2 r3)]) (rest := []) ⟨hx, hb, hml, hown, hts⟩ I (mX4_joinSource l g r2 r3 (M4_0 1 0) h_2 M4_0 _ _ hw) (cwV 3 hts (gd_V wm_X4_27 wi_X4_joinSource wl_X4_joinSource wn_X4 wc_X4_joinSource) rfl rfl rfl wd_X4_joinSource ⟨Nat.le_of_ble_eq_true rfl, Nat.le_of_ble_eq_true rfl⟩) (by omega) (by omega) obX_5 rfl rfl hl.1 rfl (Nat.le_of_ble_eq_true rfl) dX4_cheapest_14 ⟨Nat.zero_le _, Nat.zero_le _⟩ (fun r14_2 M14_2 H locs hr14_2 hw I => ?_)
  refine lv_pop hx hb dX4_cheapest_17 rfl ?_
  refine li_iconst hx hb dX4_cheapest_18 ?_
  refine lv_istore (lv' := [(5, .int (i32 0)), (0, .ref (g.2.2.2 5)), (1, .ref (g.2.2.2 1)), (2, .ref (g.2.2.2 r2)), (3, .ref (g.2.2.2 r3)), (4, .int (i32 a4))]) hx hb dX4_cheapest_19 hl (by decide) rfl (fun ls hl => ?_)
  obtain ⟨n1, hw⟩ := hw
  exact bX4_cheapest_21 r2 r3 C post n1 a4 0 ha4 (by decide) _ _ _ _ hw I (lv_sub hl [1, 2, 3, 4, 5, 0] rfl)
