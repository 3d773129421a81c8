abbrev rmX9_in : Room := { frames := 0, cells := 0, slots := 0, locals := 0 }
abbrev wtX9_in : List Cond := Cond.code yX9_in cX9_in 3 (some .boolean) :: lw_g
set_option maxRecDepth 100000 in
set_option maxHeartbeats 4000000 in
theorem bX9_in_15 {p : Program} {l : Launch} {e : Env} {s : State} {m : MethodId} {args : Array Value} {below : List Frame} {meth : Method} {c : Code} {g : GP} (C : Cx p m c cX9_in 3 s args lw_g RX9 meth (some .boolean)) (post : Int → Mem → Prop) : ∀ (t0 : Int), inR t0 → ∀ (M : Mem) (H : Heap) (locs : List Loc) (ls : Array Slot), jbX9_in_15 post t0 M → IR g s M H locs → lv_has ls 3 [] → W p l e rmX9_in s m args below meth c H locs 0 0 (QIR below args s g post) (F0 m 15 ls [.int (i32 t0)]) := by
  obtain ⟨⟨hx, hb, hml, hown, hts⟩, hr, hlk⟩ := id C
  intro t0 ht0 M H locs ls hw I hl
  obtain ⟨h_1, hw⟩ := hw
  exact g_zret hx hb hr hlk I h_1 hw dX9_in_15
set_option maxRecDepth 100000 in
set_option maxHeartbeats 4000000 in
theorem bX9_in_14 {p : Program} {l : Launch} {e : Env} {s : State} {m : MethodId} {args : Array Value} {below : List Frame} {meth : Method} {c : Code} {g : GP} (C : Cx p m c cX9_in 3 s args lw_g RX9 meth (some .boolean)) (post : Int → Mem → Prop) : ∀ (M : Mem) (H : Heap) (locs : List Loc) (ls : Array Slot), jbX9_in_14 post  M → IR g s M H locs → lv_has ls 3 [] → W p l e rmX9_in s m args below meth c H locs 0 0 (QIR below args s g post) (F0 m 14 ls []) := by
  obtain ⟨⟨hx, hb, hml, hown, hts⟩, hr, hlk⟩ := id C
  intro M H locs ls hw I hl
  refine li_iconst hx hb dX9_in_14 ?_
  exact bX9_in_15 C post 0 (by decide) _ _ _ _ hw I (lv_sub hl [] rfl)
set_option maxRecDepth 100000 in
set_option maxHeartbeats 4000000 in
theorem mX9_in (l : Launch) (g : GP) (a0 a1 a2 : Int) (ha0 : inR a0) (ha1 : inR a1) (ha2 : inR a2) (M : Mem) (post : Int → Mem → Prop) (sz : Nat) (hw : wpX9_in a0 a1 a2 M post) : MIR l yX9_in wtX9_in rmX9_in g [.int (i32 a0), .int (i32 a1), .int (i32 a2)] M sz post := by
  refine Met.ofW (cc := cX9_in) (maxL := 3) (ret := (some .boolean)) (by decide) rfl ?_
  intro p e s m args below meth c s₁ B hml hv
  obtain ⟨rfl, hpre⟩ := hv
  have hsz := hpre.1
  subst hsz
  have C : Cx p m c cX9_in 3 s _ lw_g RX9 meth (some .boolean) := ⟨⟨B.exec, B.bytes, hml, findClass_of_methodNamed B.named, fun w h => atoms_spec (ws := wtX9_in) B.pre w (List.mem_cons_of_mem _ h)⟩, B.returns, B.notSynchronized⟩
  obtain ⟨⟨hx, hb, hml, hown, hts⟩, hr, hlk⟩ := id C
  have I := InG.start hpre
  have hl := lv_entry ([.int (i32 a0), .int (i32 a1), .int (i32 a2)]) (n := 3) (Nat.le_of_ble_eq_true rfl)
  rw [lg_entry_eq]
  generalize (lg_sl ([.int (i32 a0), .int (i32 a1), .int (i32 a2)]) ++ List.replicate (3 - (lg_sl ([.int (i32 a0), .int (i32 a1), .int (i32 a2)])).length) Slot.unset).toArray = ls at hl ⊢
  have hl : lv_has ls 3 [(0, .int (i32 a0)), (1, .int (i32 a1)), (2, .int (i32 a2))] := hl
  show W p l e rmX9_in s m _ below meth c s.heap [] 0 0 (QIR below _ s g post) _
  refine lv_iload_n hx hb dX9_in_0 rfl (lv_at hl 0 rfl) ?_
  refine lv_iload_n hx hb dX9_in_1 rfl (lv_at hl 1 rfl) ?_
  refine li_icmp_lt (tgt := 14) hx hb dX9_in_2 (by decide) ha0 ha1 (fun c_1 => ?_) (fun c_1 => ?_)
  · replace hw := hw.1 c_1
    exact bX9_in_14 C post _ _ _ _ hw I (lv_sub hl [] rfl)
  · replace hw := hw.2 c_1
    refine lv_iload_n hx hb dX9_in_5 rfl (lv_at hl 0 rfl) ?_
    refine lv_iload_n hx hb dX9_in_6 rfl (lv_at hl 2 rfl) ?_
    refine li_icmp_gt (tgt := 14) hx hb dX9_in_7 (by decide) ha0 ha2 (fun c_2 => ?_) (fun c_2 => ?_)
    · replace hw := hw.1 c_2
      exact bX9_in_14 C post _ _ _ _ hw I (lv_sub hl [] rfl)
    · replace hw := hw.2 c_2
      refine li_iconst hx hb dX9_in_10 ?_
      refine lv_goto (tgt := 15) hx hb dX9_in_11 (by decide) ?_
      exact bX9_in_15 C post 1 (by decide) _ _ _ _ hw I (lv_sub hl [] rfl)
abbrev rmX9_isPlace : Room := { frames := 1, cells := 0, slots := 0, locals := 22 }
abbrev wtX9_isPlace : List Cond := Cond.code yX9_isPlace cX9_isPlace 2 (some .boolean) :: lw_g
set_option maxRecDepth 100000 in
set_option maxHeartbeats 4000000 in
theorem mX9_isPlace (l : Launch) (g : GP) (a1 : Int) (ha1 : inR a1) (M : Mem) (post : Int → Mem → Prop) (sz : Nat) (hw : wpX9_isPlace a1 M post) : MIR l yX9_isPlace wtX9_isPlace rmX9_isPlace g [.ref (g.2.2.2 0), .int (i32 a1)] M sz post := by
  refine Met.ofW (cc := cX9_isPlace) (maxL := 2) (ret := (some .boolean)) (by decide) rfl ?_
  intro p e s m args below meth c s₁ B hml hv
  obtain ⟨rfl, hpre⟩ := hv
  have hsz := hpre.1
  subst hsz
  have C : Cx p m c cX9_isPlace 2 s _ lw_g RX9 meth (some .boolean) := ⟨⟨B.exec, B.bytes, hml, findClass_of_methodNamed B.named, fun w h => atoms_spec (ws := wtX9_isPlace) B.pre w (List.mem_cons_of_mem _ h)⟩, B.returns, B.notSynchronized⟩
  obtain ⟨⟨hx, hb, hml, hown, hts⟩, hr, hlk⟩ := id C
  have I := InG.start hpre
  have hl := lv_entry ([.ref (g.2.2.2 0), .int (i32 a1)]) (n := 2) (Nat.le_of_ble_eq_true rfl)
  rw [lg_entry_eq]
  generalize (lg_sl ([.ref (g.2.2.2 0), .int (i32 a1)]) ++ List.replicate (2 - (lg_sl ([.ref (g.2.2.2 0), .int (i32 a1)])).length) Slot.unset).toArray = ls at hl ⊢
  have hl : lv_has ls 2 [(0, .ref (g.2.2.2 0)), (1, .int (i32 a1))] := hl
  show W p l e rmX9_isPlace s m _ below meth c s.heap [] 0 0 (QIR below _ s g post) _
  refine lv_iload_n hx hb dX9_isPlace_0 rfl (lv_at hl 1 rfl) ?_
  refine li_iconst hx hb dX9_isPlace_1 ?_
  refine lv_aload_n hx hb dX9_isPlace_2 rfl (lv_at hl 0 rfl) ?_
  refine rg_0_0 hx hb hts wu_X9 hown I wf_X9_86 dX9_isPlace_3 ?_
  have h_1 := I.rng 0 0
  refine li_iconst hx hb dX9_isPlace_6 ?_
  refine li_isub hx hb dX9_isPlace_7 ?_
  obtain ⟨h_2, hw⟩ := hw
  refine g_callSi (As := [.int (i32 a1), .int (i32 0), .int (i32 ((M 0 0) - 1))]) (rest := []) ⟨hx, hb, hml, hown, hts⟩ I (mX9_in l g a1 0 ((M 0 0) - 1) ha1 (by decide) h_2 M _ _ hw) (va_cwS 3 hts (gd_S wm_X9_90 wa_X9_in wn_X9 wc_X9_in) rfl rfl rfl wd_X9_in ⟨Nat.le_of_ble_eq_true rfl, Nat.le_of_ble_eq_true rfl⟩) rfl hl.1 rfl (Nat.le_of_ble_eq_true rfl) dX9_isPlace_8 ⟨Nat.zero_le _, Nat.zero_le _⟩ (fun r8_2 M8_2 H locs hr8_2 hw I => ?_)
  obtain ⟨h_4, hw⟩ := hw
  exact g_zret hx hb hr hlk I h_4 hw dX9_isPlace_11
abbrev rmX9_isHeap : Room := { frames := 1, cells := 0, slots := 0, locals := 22 }
abbrev wtX9_isHeap : List Cond := Cond.code yX9_isHeap cX9_isHeap 2 (some .boolean) :: lw_g
set_option maxRecDepth 100000 in
set_option maxHeartbeats 4000000 in
theorem mX9_isHeap (l : Launch) (g : GP) (a1 : Int) (ha1 : inR a1) (M : Mem) (post : Int → Mem → Prop) (sz : Nat) (hw : wpX9_isHeap a1 M post) : MIR l yX9_isHeap wtX9_isHeap rmX9_isHeap g [.ref (g.2.2.2 0), .int (i32 a1)] M sz post := by
  refine Met.ofW (cc := cX9_isHeap) (maxL := 2) (ret := (some .boolean)) (by decide) rfl ?_
  intro p e s m args below meth c s₁ B hml hv
  obtain ⟨rfl, hpre⟩ := hv
  have hsz := hpre.1
  subst hsz
  have C : Cx p m c cX9_isHeap 2 s _ lw_g RX9 meth (some .boolean) := ⟨⟨B.exec, B.bytes, hml, findClass_of_methodNamed B.named, fun w h => atoms_spec (ws := wtX9_isHeap) B.pre w (List.mem_cons_of_mem _ h)⟩, B.returns, B.notSynchronized⟩
  obtain ⟨⟨hx, hb, hml, hown, hts⟩, hr, hlk⟩ := id C
  have I := InG.start hpre
  have hl := lv_entry ([.ref (g.2.2.2 0), .int (i32 a1)]) (n := 2) (Nat.le_of_ble_eq_true rfl)
  rw [lg_entry_eq]
  generalize (lg_sl ([.ref (g.2.2.2 0), .int (i32 a1)]) ++ List.replicate (2 - (lg_sl ([.ref (g.2.2.2 0), .int (i32 a1)])).length) Slot.unset).toArray = ls at hl ⊢
  have hl : lv_has ls 2 [(0, .ref (g.2.2.2 0)), (1, .int (i32 a1))] := hl
  show W p l e rmX9_isHeap s m _ below meth c s.heap [] 0 0 (QIR below _ s g post) _
  refine lv_iload_n hx hb dX9_isHeap_0 rfl (lv_at hl 1 rfl) ?_
  refine li_iconst hx hb dX9_isHeap_1 ?_
  refine lv_aload_n hx hb dX9_isHeap_2 rfl (lv_at hl 0 rfl) ?_
  refine rg_0_5 hx hb hts wu_X9 hown I wf_X9_94 dX9_isHeap_3 ?_
  have h_1 := I.rng 0 5
  refine li_iconst hx hb dX9_isHeap_6 ?_
  refine li_isub hx hb dX9_isHeap_7 ?_
  obtain ⟨h_2, hw⟩ := hw
  refine g_callSi (As := [.int (i32 a1), .int (i32 0), .int (i32 ((M 0 5) - 1))]) (rest := []) ⟨hx, hb, hml, hown, hts⟩ I (mX9_in l g a1 0 ((M 0 5) - 1) ha1 (by decide) h_2 M _ _ hw) (va_cwS 3 hts (gd_S wm_X9_90 wa_X9_in wn_X9 wc_X9_in) rfl rfl rfl wd_X9_in ⟨Nat.le_of_ble_eq_true rfl, Nat.le_of_ble_eq_true rfl⟩) rfl hl.1 rfl (Nat.le_of_ble_eq_true rfl) dX9_isHeap_8 ⟨Nat.zero_le _, Nat.zero_le _⟩ (fun r8_2 M8_2 H locs hr8_2 hw I => ?_)
  obtain ⟨h_4, hw⟩ := hw
  exact g_zret hx hb hr hlk I h_4 hw dX9_isHeap_11
abbrev rmX9_keep : Room := { frames := 0, cells := 0, slots := 0, locals := 0 }
abbrev wtX9_keep : List Cond := Cond.code yX9_keep cX9_keep 5 none :: lw_g
set_option maxRecDepth 100000 in
set_option maxHeartbeats 4000000 in
theorem bX9_keep_79 {p : Program} {l : Launch} {e : Env} {s : State} {m : MethodId} {args : Array Value} {below : List Frame} {meth : Method} {c : Code} {g : GP} (C : Cx p m c cX9_keep 5 s args lw_g RX9 meth none) (post : Mem → Prop) : ∀ (x1 x2 x3 : Int), inR x1 → inR x2 → inR x3 → ∀ (M : Mem) (H : Heap) (locs : List Loc) (ls : Array Slot), jbX9_keep_79 post x1 x2 x3 M → IR g s M H locs → lv_has ls 5 [(0, .ref (g.2.2.2 0)), (1, .int (i32 x1)), (2, .int (i32 x2)), (3, .int (i32 x3))] → W p l e rmX9_keep s m args below meth c H locs 0 0 (QVR below args s g post) (F0 m 79 ls []) := by
  obtain ⟨⟨hx, hb, hml, hown, hts⟩, hr, hlk⟩ := id C
  intro x1 x2 x3 h1 h2 h3 M H locs ls hw I hl
  refine lv_aload_n hx hb dX9_keep_79 rfl (lv_at hl 0 rfl) ?_
  refine rg_0_11 hx hb hts wu_X9 hown I wf_X9_28 dX9_keep_80 ?_
  refine lv_aload_n hx hb dX9_keep_83 rfl (lv_at hl 0 rfl) ?_
  refine rg_0_10 hx hb hts wu_X9 hown I wf_X9_97 dX9_keep_84 ?_
  have h_1 := I.rng 0 10
  refine lv_iload_n hx hb dX9_keep_87 rfl (lv_at hl 1 rfl) ?_
  obtain ⟨h_2, hw⟩ := hw
  refine r_iast hx hb I 7 lenR_7 (by decide) h_2 h1 dX9_keep_88 (fun H locs M88_2 eM88_2 I => ?_)
  replace hw := hw M88_2 eM88_2
  refine lv_aload_n hx hb dX9_keep_89 rfl (lv_at hl 0 rfl) ?_
  refine rg_0_12 hx hb hts wu_X9 hown I wf_X9_31 dX9_keep_90 ?_
  refine lv_aload_n hx hb dX9_keep_93 rfl (lv_at hl 0 rfl) ?_
  refine rg_0_10 hx hb hts wu_X9 hown I wf_X9_97 dX9_keep_94 ?_
  have h_4 := I.rng 0 10
  refine lv_iload_n hx hb dX9_keep_97 rfl (lv_at hl 2 rfl) ?_
  obtain ⟨h_5, hw⟩ := hw
  refine r_iast hx hb I 8 lenR_8 (by decide) h_5 h2 dX9_keep_98 (fun H locs M98_5 eM98_5 I => ?_)
  replace hw := hw M98_5 eM98_5
  refine lv_aload_n hx hb dX9_keep_99 rfl (lv_at hl 0 rfl) ?_
  refine rg_0_13 hx hb hts wu_X9 hown I wf_X9_34 dX9_keep_100 ?_
  refine lv_aload_n hx hb dX9_keep_103 rfl (lv_at hl 0 rfl) ?_
  refine rg_0_10 hx hb hts wu_X9 hown I wf_X9_97 dX9_keep_104 ?_
  have h_7 := I.rng 0 10
  refine lv_iload_n hx hb dX9_keep_107 rfl (lv_at hl 3 rfl) ?_
  obtain ⟨h_8, hw⟩ := hw
  refine r_iast hx hb I 9 lenR_9 (by decide) h_8 h3 dX9_keep_108 (fun H locs M108_8 eM108_8 I => ?_)
  replace hw := hw M108_8 eM108_8
  refine lv_aload_n hx hb dX9_keep_109 rfl (lv_at hl 0 rfl) ?_
  refine lv_dup hx hb dX9_keep_110 rfl ?_
  refine rg_0_10 hx hb hts wu_X9 hown I wf_X9_97 dX9_keep_111 ?_
  have h_10 := I.rng 0 10
  refine li_iconst hx hb dX9_keep_114 ?_
  refine li_iadd hx hb dX9_keep_115 ?_
  obtain ⟨h_11, hw⟩ := hw
  refine rp_0_10 hx hb hts wu_X9 hown I wf_X9_97 h_11 dX9_keep_116 (fun H locs M116_11 eM116_11 I => ?_)
  replace hw := hw M116_11 eM116_11
  exact g_vret hx hb hr hlk I hw dX9_keep_119
set_option maxRecDepth 100000 in
set_option maxHeartbeats 4000000 in
theorem bX9_keep_12 {p : Program} {l : Launch} {e : Env} {s : State} {m : MethodId} {args : Array Value} {below : List Frame} {meth : Method} {c : Code} {g : GP} (C : Cx p m c cX9_keep 5 s args lw_g RX9 meth none) (post : Mem → Prop) : ∀ (n : Nat), ∀ (x1 x2 x3 x4 : Int), inR x1 → inR x2 → inR x3 → inR x4 → ∀ (M : Mem) (H : Heap) (locs : List Loc) (ls : Array Slot), lpX9_keep_12 post n x1 x2 x3 x4 M → IR g s M H locs → lv_has ls 5 [(0, .ref (g.2.2.2 0)), (1, .int (i32 x1)), (2, .int (i32 x2)), (3, .int (i32 x3)), (4, .int (i32 x4))] → W p l e rmX9_keep s m args below meth c H locs 0 0 (QVR below args s g post) (F0 m 12 ls []) := by
  obtain ⟨⟨hx, hb, hml, hown, hts⟩, hr, hlk⟩ := id C
  intro n
  induction n with
  | zero =>
    intro x1 x2 x3 x4 h1 h2 h3 h4 M H locs ls hw
    exact hw.elim
  | succ n ih =>
    intro x1 x2 x3 x4 h1 h2 h3 h4 M H locs ls hw I hl
    refine lv_iload hx hb dX9_keep_12 (lv_at hl 4 rfl) ?_
    refine lv_bipush (v := i32 30) hx hb dX9_keep_14 (by decide) ?_
    refine li_icmp_ge (tgt := 73) hx hb dX9_keep_16 (by decide) h4 (by decide) (fun c_1 => ?_) (fun c_1 => ?_)
    · replace hw := hw.1 c_1
      refine lv_aload_n hx hb dX9_keep_73 rfl (lv_at hl 0 rfl) ?_
      refine lv_bipush (v := i32 29) hx hb dX9_keep_74 (by decide) ?_
      refine rp_0_10 hx hb hts wu_X9 hown I wf_X9_97 (by decide) dX9_keep_76 (fun H locs M76_1 eM76_1 I => ?_)
      replace hw := hw M76_1 eM76_1
      exact bX9_keep_79 C post x1 x2 x3 h1 h2 h3 _ _ _ _ hw I (lv_sub hl [0, 1, 2, 3] rfl)
    · replace hw := hw.2 c_1
      refine lv_aload_n hx hb dX9_keep_19 rfl (lv_at hl 0 rfl) ?_
      refine rg_0_11 hx hb hts wu_X9 hown I wf_X9_28 dX9_keep_20 ?_
      refine lv_iload hx hb dX9_keep_23 (lv_at hl 4 rfl) ?_
      refine li_iconst hx hb dX9_keep_25 ?_
      refine li_isub hx hb dX9_keep_26 ?_
      refine lv_aload_n hx hb dX9_keep_27 rfl (lv_at hl 0 rfl) ?_
      refine rg_0_11 hx hb hts wu_X9 hown I wf_X9_28 dX9_keep_28 ?_
      refine lv_iload hx hb dX9_keep_31 (lv_at hl 4 rfl) ?_
      obtain ⟨h_3, hw⟩ := hw
      refine r_iald hx hb I 7 lenR_7 (by decide) h_3 dX9_keep_33 ?_
      have h_4 := I.rng 7 x4
      obtain ⟨h_5, hw⟩ := hw
      refine r_iast hx hb I 7 lenR_7 (by decide) h_5 h_4 dX9_keep_34 (fun H locs M34_5 eM34_5 I => ?_)
      replace hw := hw M34_5 eM34_5
      refine lv_aload_n hx hb dX9_keep_35 rfl (lv_at hl 0 rfl) ?_
      refine rg_0_12 hx hb hts wu_X9 hown I wf_X9_31 dX9_keep_36 ?_
      refine lv_iload hx hb dX9_keep_39 (lv_at hl 4 rfl) ?_
      refine li_iconst hx hb dX9_keep_41 ?_
      refine li_isub hx hb dX9_keep_42 ?_
      refine lv_aload_n hx hb dX9_keep_43 rfl (lv_at hl 0 rfl) ?_
      refine rg_0_12 hx hb hts wu_X9 hown I wf_X9_31 dX9_keep_44 ?_
      refine lv_iload hx hb dX9_keep_47 (lv_at hl 4 rfl) ?_
      obtain ⟨h_7, hw⟩ := hw
      refine r_iald hx hb I 8 lenR_8 (by decide) h_7 dX9_keep_49 ?_
      have h_8 := I.rng 8 x4
      obtain ⟨h_9, hw⟩ := hw
      refine r_iast hx hb I 8 lenR_8 (by decide) h_9 h_8 dX9_keep_50 (fun H locs M50_9 eM50_9 I => ?_)
      replace hw := hw M50_9 eM50_9
      refine lv_aload_n hx hb dX9_keep_51 rfl (lv_at hl 0 rfl) ?_
      refine rg_0_13 hx hb hts wu_X9 hown I wf_X9_34 dX9_keep_52 ?_
      refine lv_iload hx hb dX9_keep_55 (lv_at hl 4 rfl) ?_
      refine li_iconst hx hb dX9_keep_57 ?_
      refine li_isub hx hb dX9_keep_58 ?_
      refine lv_aload_n hx hb dX9_keep_59 rfl (lv_at hl 0 rfl) ?_
      refine rg_0_13 hx hb hts wu_X9 hown I wf_X9_34 dX9_keep_60 ?_
      refine lv_iload hx hb dX9_keep_63 (lv_at hl 4 rfl) ?_
      obtain ⟨h_11, hw⟩ := hw
      refine r_iald hx hb I 9 lenR_9 (by decide) h_11 dX9_keep_65 ?_
      have h_12 := I.rng 9 x4
      obtain ⟨h_13, hw⟩ := hw
      refine r_iast hx hb I 9 lenR_9 (by decide) h_13 h_12 dX9_keep_66 (fun H locs M66_13 eM66_13 I => ?_)
      replace hw := hw M66_13 eM66_13
      refine li_iinc (lv' := [(4, .int (i32 (x4 + 1))), (0, .ref (g.2.2.2 0)), (1, .int (i32 x1)), (2, .int (i32 x2)), (3, .int (i32 x3))]) hx hb dX9_keep_67 hl (k := 4) rfl (by decide) rfl (fun ls hl => ?_)
      refine lv_goto (tgt := 12) hx hb dX9_keep_70 (by decide) ?_
      obtain ⟨h_15, hw⟩ := hw
      exact ih x1 x2 x3 (x4 + 1) h1 h2 h3 h_15 _ _ _ _ hw I (lv_sub hl [1, 2, 3, 4, 0] rfl)
set_option maxRecDepth 100000 in
set_option maxHeartbeats 4000000 in
theorem mX9_keep (l : Launch) (g : GP) (a1 a2 a3 : Int) (ha1 : inR a1) (ha2 : inR a2) (ha3 : inR a3) (M : Mem) (post : Mem → Prop) (sz : Nat) (hw : wpX9_keep a1 a2 a3 M post) : MVR l yX9_keep wtX9_keep rmX9_keep g [.ref (g.2.2.2 0), .int (i32 a1), .int (i32 a2), .int (i32 a3)] M sz post := by
  refine Met.ofW (cc := cX9_keep) (maxL := 5) (ret := none) (by decide) rfl ?_
  intro p e s m args below meth c s₁ B hml hv
  obtain ⟨rfl, hpre⟩ := hv
  have hsz := hpre.1
  subst hsz
  have C : Cx p m c cX9_keep 5 s _ lw_g RX9 meth none := ⟨⟨B.exec, B.bytes, hml, findClass_of_methodNamed B.named, fun w h => atoms_spec (ws := wtX9_keep) B.pre w (List.mem_cons_of_mem _ h)⟩, B.returns, B.notSynchronized⟩
  obtain ⟨⟨hx, hb, hml, hown, hts⟩, hr, hlk⟩ := id C
  have I := InG.start hpre
  have hl := lv_entry ([.ref (g.2.2.2 0), .int (i32 a1), .int (i32 a2), .int (i32 a3)]) (n := 5) (Nat.le_of_ble_eq_true rfl)
  rw [lg_entry_eq]
  generalize (lg_sl ([.ref (g.2.2.2 0), .int (i32 a1), .int (i32 a2), .int (i32 a3)]) ++ List.replicate (5 - (lg_sl ([.ref (g.2.2.2 0), .int (i32 a1), .int (i32 a2), .int (i32 a3)])).length) Slot.unset).toArray = ls at hl ⊢
  have hl : lv_has ls 5 [(0, .ref (g.2.2.2 0)), (1, .int (i32 a1)), (2, .int (i32 a2)), (3, .int (i32 a3))] := hl
  show W p l e rmX9_keep s m _ below meth c s.heap [] 0 0 (QVR below _ s g post) _
  refine lv_aload_n hx hb dX9_keep_0 rfl (lv_at hl 0 rfl) ?_
  refine rg_0_10 hx hb hts wu_X9 hown I wf_X9_97 dX9_keep_1 ?_
  have h_1 := I.rng 0 10
  refine lv_bipush (v := i32 30) hx hb dX9_keep_4 (by decide) ?_
  refine li_icmp_ne (tgt := 79) hx hb dX9_keep_6 (by decide) h_1 (by decide) (fun c_2 => ?_) (fun c_2 => ?_)
  · replace hw := hw.1 c_2
    exact bX9_keep_79 C post a1 a2 a3 ha1 ha2 ha3 _ _ _ _ hw I (lv_sub hl [0, 1, 2, 3] rfl)
  · replace hw := hw.2 c_2
    refine li_iconst hx hb dX9_keep_9 ?_
    refine lv_istore (lv' := [(4, .int (i32 1)), (0, .ref (g.2.2.2 0)), (1, .int (i32 a1)), (2, .int (i32 a2)), (3, .int (i32 a3))]) hx hb dX9_keep_10 hl (by decide) rfl (fun ls hl => ?_)
    obtain ⟨n1, hw⟩ := hw
    exact bX9_keep_12 C post n1 a1 a2 a3 1 ha1 ha2 ha3 (by decide) _ _ _ _ hw I (lv_sub hl [1, 2, 3, 4, 0] rfl)
abbrev rmX9_place : Room := { frames := 1, cells := 0, slots := 0, locals := 24 }
abbrev wtX9_place : List Cond := Cond.code yX9_place cX9_place 2 (some .int) :: lw_g
set_option maxRecDepth 100000 in
set_option maxHeartbeats 4000000 in
theorem bX9_place_34 {p : Program} {l : Launch} {e : Env} {s : State} {m : MethodId} {args : Array Value} {below : List Frame} {meth : Method} {c : Code} {g : GP} (C : Cx p m c cX9_place 2 s args lw_g RX9 meth (some .int)) (post : Int → Mem → Prop) : ∀ (n : Nat), ∀ (x1 : Int), inR x1 → ∀ (M : Mem) (H : Heap) (locs : List Loc) (ls : Array Slot), lpX9_place_34 post n x1 M → IR g s M H locs → lv_has ls 2 [(0, .ref (g.2.2.2 0)), (1, .int (i32 x1))] → W p l e rmX9_place s m args below meth c H locs 0 0 (QIR below args s g post) (F0 m 34 ls []) := by
  obtain ⟨⟨hx, hb, hml, hown, hts⟩, hr, hlk⟩ := id C
  intro n
  induction n with
  | zero =>
    intro x1 h1 M H locs ls hw
    exact hw.elim
  | succ n ih =>
    intro x1 h1 M H locs ls hw I hl
    refine lv_iload_n hx hb dX9_place_34 rfl (lv_at hl 1 rfl) ?_
    refine lv_bipush (v := i32 8) hx hb dX9_place_35 (by decide) ?_
    refine li_icmp_ge (tgt := 61) hx hb dX9_place_37 (by decide) h1 (by decide) (fun c_1 => ?_) (fun c_1 => ?_)
    · replace hw := hw.1 c_1
      refine lv_aload_n hx hb dX9_place_61 rfl (lv_at hl 0 rfl) ?_
      refine lv_dup hx hb dX9_place_62 rfl ?_
      refine rg_0_0 hx hb hts wu_X9 hown I wf_X9_86 dX9_place_63 ?_
      have h_2 := I.rng 0 0
      refine li_iconst hx hb dX9_place_66 ?_
      refine li_iadd hx hb dX9_place_67 ?_
      obtain ⟨h_3, hw⟩ := hw
      refine rp_0_0 hx hb hts wu_X9 hown I wf_X9_86 h_3 dX9_place_68 (fun H locs M68_3 eM68_3 I => ?_)
      replace hw := hw M68_3 eM68_3
      refine lv_aload_n hx hb dX9_place_71 rfl (lv_at hl 0 rfl) ?_
      refine rg_0_0 hx hb hts wu_X9 hown I wf_X9_86 dX9_place_72 ?_
      have h_5 := I.rng 0 0
      refine li_iconst hx hb dX9_place_75 ?_
      refine li_isub hx hb dX9_place_76 ?_
      obtain ⟨h_6, hw⟩ := hw
      exact g_iret hx hb hr hlk I h_6 hw dX9_place_77
    · replace hw := hw.2 c_1
      refine lv_aload_n hx hb dX9_place_40 rfl (lv_at hl 0 rfl) ?_
      refine rg_0_6 hx hb hts wu_X9 hown I wf_X9_19 dX9_place_41 ?_
      refine lv_bipush (v := i32 10) hx hb dX9_place_44 (by decide) ?_
      refine lv_iload_n hx hb dX9_place_46 rfl (lv_at hl 1 rfl) ?_
      refine li_imul hx hb dX9_place_47 ?_
      refine lv_aload_n hx hb dX9_place_48 rfl (lv_at hl 0 rfl) ?_
      refine rg_0_0 hx hb hts wu_X9 hown I wf_X9_86 dX9_place_49 ?_
      have h_7 := I.rng 0 0
      refine li_iadd hx hb dX9_place_52 ?_
      refine li_iconst hx hb dX9_place_53 ?_
      obtain ⟨h_8, hw⟩ := hw
      refine r_iast hx hb I 4 lenR_4 (by decide) h_8 (by decide) dX9_place_54 (fun H locs M54_8 eM54_8 I => ?_)
      replace hw := hw M54_8 eM54_8
      refine li_iinc (lv' := [(1, .int (i32 (x1 + 1))), (0, .ref (g.2.2.2 0))]) hx hb dX9_place_55 hl (k := 1) rfl (by decide) rfl (fun ls hl => ?_)
      refine lv_goto (tgt := 34) hx hb dX9_place_58 (by decide) ?_
      obtain ⟨h_10, hw⟩ := hw
      exact ih (x1 + 1) h_10 _ _ _ _ hw I (lv_sub hl [1, 0] rfl)
set_option maxRecDepth 100000 in
set_option maxHeartbeats 4000000 in
theorem mX9_place (l : Launch) (g : GP) (M : Mem) (post : Int → Mem → Prop) (sz : Nat) (hw : wpX9_place M post) : MIR l yX9_place wtX9_place rmX9_place g [.ref (g.2.2.2 0)] M sz post := by
  refine Met.ofW (cc := cX9_place) (maxL := 2) (ret := (some .int)) (by decide) rfl ?_
  intro p e s m args below meth c s₁ B hml hv
  obtain ⟨rfl, hpre⟩ := hv
  have hsz := hpre.1
  subst hsz
  have C : Cx p m c cX9_place 2 s _ lw_g RX9 meth (some .int) := ⟨⟨B.exec, B.bytes, hml, findClass_of_methodNamed B.named, fun w h => atoms_spec (ws := wtX9_place) B.pre w (List.mem_cons_of_mem _ h)⟩, B.returns, B.notSynchronized⟩
  obtain ⟨⟨hx, hb, hml, hown, hts⟩, hr, hlk⟩ := id C
  have I := InG.start hpre
  have hl := lv_entry ([.ref (g.2.2.2 0)]) (n := 2) (Nat.le_of_ble_eq_true rfl)
  rw [lg_entry_eq]
  generalize (lg_sl ([.ref (g.2.2.2 0)]) ++ List.replicate (2 - (lg_sl ([.ref (g.2.2.2 0)])).length) Slot.unset).toArray = ls at hl ⊢
  have hl : lv_has ls 2 [(0, .ref (g.2.2.2 0))] := hl
  show W p l e rmX9_place s m _ below meth c s.heap [] 0 0 (QIR below _ s g post) _
  refine lv_aload_n hx hb dX9_place_0 rfl (lv_at hl 0 rfl) ?_
  refine rg_0_0 hx hb hts wu_X9 hown I wf_X9_86 dX9_place_1 ?_
  have h_1 := I.rng 0 0
  refine lv_bipush (v := i32 10) hx hb dX9_place_4 (by decide) ?_
  refine li_icmp_ne (tgt := 12) hx hb dX9_place_6 (by decide) h_1 (by decide) (fun c_2 => ?_) (fun c_2 => ?_)
  · replace hw := hw.1 c_2
    refine lv_aload_n hx hb dX9_place_12 rfl (lv_at hl 0 rfl) ?_
    refine li_iconst hx hb dX9_place_13 ?_
    refine lv_aload_n hx hb dX9_place_14 rfl (lv_at hl 0 rfl) ?_
    refine rg_0_0 hx hb hts wu_X9 hown I wf_X9_86 dX9_place_15 ?_
    have h_3 := I.rng 0 0
    refine li_iconst hx hb dX9_place_18 ?_
    refine g_callVv (o := 0) (As := [.int (i32 0), .int (i32 (M 0 0)), .int (i32 0)]) (rest := []) ⟨hx, hb, hml, hown, hts⟩ I (mX9_keep l g 0 (M 0 0) 0 (by decide) h_3 (by decide) M _ _ hw) (cwV 3 hts (gd_V wm_X9_100 wi_X9_keep wl_X9_keep wn_X9 wc_X9_keep) rfl rfl rfl wd_X9_keep ⟨Nat.le_of_ble_eq_true rfl, Nat.le_of_ble_eq_true rfl⟩) (by omega) (by omega) obR_0 rfl rfl hl.1 rfl (Nat.le_of_ble_eq_true rfl) dX9_place_19 ⟨Nat.zero_le _, Nat.zero_le _⟩ (fun M19_3 H locs hw I => ?_)
    refine lv_aload_n hx hb dX9_place_22 rfl (lv_at hl 0 rfl) ?_
    refine rg_0_7 hx hb hts wu_X9 hown I wf_X9_22 dX9_place_23 ?_
    refine lv_aload_n hx hb dX9_place_26 rfl (lv_at hl 0 rfl) ?_
    refine rg_0_0 hx hb hts wu_X9 hown I wf_X9_86 dX9_place_27 ?_
    have h_5 := I.rng 0 0
    refine li_iconst hx hb dX9_place_30 ?_
    obtain ⟨h_6, hw⟩ := hw
    refine r_iast hx hb I 5 lenR_5 (by decide) h_6 (by decide) dX9_place_31 (fun H locs M31_6 eM31_6 I => ?_)
    replace hw := hw M31_6 eM31_6
    refine li_iconst hx hb dX9_place_32 ?_
    refine lv_istore_n (lv' := [(1, .int (i32 0)), (0, .ref (g.2.2.2 0))]) hx hb dX9_place_33 rfl hl (by decide) rfl (fun ls hl => ?_)
    obtain ⟨n1, hw⟩ := hw
    exact bX9_place_34 C post n1 0 (by decide) _ _ _ _ hw I (lv_sub hl [1, 0] rfl)
  · replace hw := hw.2 c_2
    refine lv_bipush (v := i32 (-5)) hx hb dX9_place_9 (by decide) ?_
    exact g_iret hx hb hr hlk I (by decide) hw dX9_place_11
abbrev rmX9_road : Room := { frames := 2, cells := 0, slots := 0, locals := 43 }
abbrev wtX9_road : List Cond := Cond.code yX9_road cX9_road 4 (some .int) :: lw_g
set_option maxRecDepth 100000 in
set_option maxHeartbeats 4000000 in
theorem bX9_road_16 {p : Program} {l : Launch} {e : Env} {s : State} {m : MethodId} {args : Array Value} {below : List Frame} {meth : Method} {c : Code} {g : GP} (C : Cx p m c cX9_road 4 s args lw_g RX9 meth (some .int)) (post : Int → Mem → Prop) : ∀ (M : Mem) (H : Heap) (locs : List Loc) (ls : Array Slot), jbX9_road_16 post  M → IR g s M H locs → lv_has ls 4 [(0, .ref (g.2.2.2 0))] → W p l e rmX9_road s m args below meth c H locs 0 0 (QIR below args s g post) (F0 m 16 ls []) := by
  obtain ⟨⟨hx, hb, hml, hown, hts⟩, hr, hlk⟩ := id C
  intro M H locs ls hw I hl
  refine lv_bipush (v := i32 (-2)) hx hb dX9_road_16 (by decide) ?_
  exact g_iret hx hb hr hlk I (by decide) hw dX9_road_18
set_option maxRecDepth 100000 in
set_option maxHeartbeats 4000000 in
theorem bX9_road_35 {p : Program} {l : Launch} {e : Env} {s : State} {m : MethodId} {args : Array Value} {below : List Frame} {meth : Method} {c : Code} {g : GP} (C : Cx p m c cX9_road 4 s args lw_g RX9 meth (some .int)) (post : Int → Mem → Prop) : ∀ (M : Mem) (H : Heap) (locs : List Loc) (ls : Array Slot), jbX9_road_35 post  M → IR g s M H locs → lv_has ls 4 [(0, .ref (g.2.2.2 0))] → W p l e rmX9_road s m args below meth c H locs 0 0 (QIR below args s g post) (F0 m 35 ls []) := by
  obtain ⟨⟨hx, hb, hml, hown, hts⟩, hr, hlk⟩ := id C
  intro M H locs ls hw I hl
  refine lv_bipush (v := i32 (-3)) hx hb dX9_road_35 (by decide) ?_
  exact g_iret hx hb hr hlk I (by decide) hw dX9_road_37
set_option maxRecDepth 100000 in
set_option maxHeartbeats 4000000 in
theorem mX9_road (l : Launch) (g : GP) (a1 a2 a3 : Int) (ha1 : inR a1) (ha2 : inR a2) (ha3 : inR a3) (M : Mem) (post : Int → Mem → Prop) (sz : Nat) (hw : wpX9_road a1 a2 a3 M post) : MIR l yX9_road wtX9_road rmX9_road g [.ref (g.2.2.2 0), .int (i32 a1), .int (i32 a2), .int (i32 a3)] M sz post := by
  refine Met.ofW (cc := cX9_road) (maxL := 4) (ret := (some .int)) (by decide) rfl ?_
  intro p e s m args below meth c s₁ B hml hv
  obtain ⟨rfl, hpre⟩ := hv
  have hsz := hpre.1
  subst hsz
  have C : Cx p m c cX9_road 4 s _ lw_g RX9 meth (some .int) := ⟨⟨B.exec, B.bytes, hml, findClass_of_methodNamed B.named, fun w h => atoms_spec (ws := wtX9_road) B.pre w (List.mem_cons_of_mem _ h)⟩, B.returns, B.notSynchronized⟩
  obtain ⟨⟨hx, hb, hml, hown, hts⟩, hr, hlk⟩ := id C
  have I := InG.start hpre
  have hl := lv_entry ([.ref (g.2.2.2 0), .int (i32 a1), .int (i32 a2), .int (i32 a3)]) (n := 4) (Nat.le_of_ble_eq_true rfl)
  rw [lg_entry_eq]
  generalize (lg_sl ([.ref (g.2.2.2 0), .int (i32 a1), .int (i32 a2), .int (i32 a3)]) ++ List.replicate (4 - (lg_sl ([.ref (g.2.2.2 0), .int (i32 a1), .int (i32 a2), .int (i32 a3)])).length) Slot.unset).toArray = ls at hl ⊢
  have hl : lv_has ls 4 [(0, .ref (g.2.2.2 0)), (1, .int (i32 a1)), (2, .int (i32 a2)), (3, .int (i32 a3))] := hl
  show W p l e rmX9_road s m _ below meth c s.heap [] 0 0 (QIR below _ s g post) _
  refine lv_aload_n hx hb dX9_road_0 rfl (lv_at hl 0 rfl) ?_
  refine lv_iload_n hx hb dX9_road_1 rfl (lv_at hl 1 rfl) ?_
  refine g_callVi (o := 0) (As := [.int (i32 a1)]) (rest := []) ⟨hx, hb, hml, hown, hts⟩ I (mX9_isPlace l g a1 ha1 M _ _ hw) (cwV 1 hts (gd_V wm_X9_104 wi_X9_isPlace wl_X9_isPlace wn_X9 wc_X9_isPlace) rfl rfl rfl wd_X9_isPlace ⟨Nat.le_of_ble_eq_true rfl, Nat.le_of_ble_eq_true rfl⟩) (by omega) (by omega) obR_0 rfl rfl hl.1 rfl (Nat.le_of_ble_eq_true rfl) dX9_road_2 ⟨Nat.zero_le _, Nat.zero_le _⟩ (fun r2_0 M2_0 H locs hr2_0 hw I => ?_)
  refine li_if_eq (tgt := 16) hx hb dX9_road_5 (by decide) hr2_0 (fun c_2 => ?_) (fun c_2 => ?_)
  · replace hw := hw.1 c_2
    exact bX9_road_16 C post _ _ _ _ hw I (lv_sub hl [0] rfl)
  · replace hw := hw.2 c_2
    refine lv_aload_n hx hb dX9_road_8 rfl (lv_at hl 0 rfl) ?_
    refine lv_iload_n hx hb dX9_road_9 rfl (lv_at hl 2 rfl) ?_
    refine g_callVi (o := 0) (As := [.int (i32 a2)]) (rest := []) ⟨hx, hb, hml, hown, hts⟩ I (mX9_isPlace l g a2 ha2 M2_0 _ _ hw) (cwV 1 hts (gd_V wm_X9_104 wi_X9_isPlace wl_X9_isPlace wn_X9 wc_X9_isPlace) rfl rfl rfl wd_X9_isPlace ⟨Nat.le_of_ble_eq_true rfl, Nat.le_of_ble_eq_true rfl⟩) (by omega) (by omega) obR_0 rfl rfl hl.1 rfl (Nat.le_of_ble_eq_true rfl) dX9_road_10 ⟨Nat.zero_le _, Nat.zero_le _⟩ (fun r10_2 M10_2 H locs hr10_2 hw I => ?_)
    refine li_if_ne (tgt := 19) hx hb dX9_road_13 (by decide) hr10_2 (fun c_4 => ?_) (fun c_4 => ?_)
    · replace hw := hw.1 c_4
      refine lv_iload_n hx hb dX9_road_19 rfl (lv_at hl 3 rfl) ?_
      refine li_iconst hx hb dX9_road_20 ?_
      refine lv_sipush (v := i32 1000) hx hb dX9_road_21 (by decide) ?_
      refine g_callSi (As := [.int (i32 a3), .int (i32 1), .int (i32 1000)]) (rest := []) ⟨hx, hb, hml, hown, hts⟩ I (mX9_in l g a3 1 1000 ha3 (by decide) (by decide) M10_2 _ _ hw) (va_cwS 3 hts (gd_S wm_X9_90 wa_X9_in wn_X9 wc_X9_in) rfl rfl rfl wd_X9_in ⟨Nat.le_of_ble_eq_true rfl, Nat.le_of_ble_eq_true rfl⟩) rfl hl.1 rfl (Nat.le_of_ble_eq_true rfl) dX9_road_24 ⟨Nat.zero_le _, Nat.zero_le _⟩ (fun r24_4 M24_4 H locs hr24_4 hw I => ?_)
      refine li_if_eq (tgt := 35) hx hb dX9_road_27 (by decide) hr24_4 (fun c_6 => ?_) (fun c_6 => ?_)
      · replace hw := hw.1 c_6
        exact bX9_road_35 C post _ _ _ _ hw I (lv_sub hl [0] rfl)
      · replace hw := hw.2 c_6
        refine lv_iload_n hx hb dX9_road_30 rfl (lv_at hl 1 rfl) ?_
        refine lv_iload_n hx hb dX9_road_31 rfl (lv_at hl 2 rfl) ?_
        refine li_icmp_ne (tgt := 38) hx hb dX9_road_32 (by decide) ha1 ha2 (fun c_7 => ?_) (fun c_7 => ?_)
        · replace hw := hw.1 c_7
          refine lv_aload_n hx hb dX9_road_38 rfl (lv_at hl 0 rfl) ?_
          refine rg_0_1 hx hb hts wu_X9 hown I wf_X9_108 dX9_road_39 ?_
          have h_8 := I.rng 0 1
          refine lv_bipush (v := i32 30) hx hb dX9_road_42 (by decide) ?_
          refine li_icmp_ne (tgt := 50) hx hb dX9_road_44 (by decide) h_8 (by decide) (fun c_9 => ?_) (fun c_9 => ?_)
          · replace hw := hw.1 c_9
            refine lv_aload_n hx hb dX9_road_50 rfl (lv_at hl 0 rfl) ?_
            refine li_iconst hx hb dX9_road_51 ?_
            refine lv_aload_n hx hb dX9_road_52 rfl (lv_at hl 0 rfl) ?_
            refine rg_0_1 hx hb hts wu_X9 hown I wf_X9_108 dX9_road_53 ?_
            have h_10 := I.rng 0 1
            refine li_iconst hx hb dX9_road_56 ?_
            refine g_callVv (o := 0) (As := [.int (i32 1), .int (i32 (M24_4 0 1)), .int (i32 0)]) (rest := []) ⟨hx, hb, hml, hown, hts⟩ I (mX9_keep l g 1 (M24_4 0 1) 0 (by decide) h_10 (by decide) M24_4 _ _ hw) (cwV 3 hts (gd_V wm_X9_100 wi_X9_keep wl_X9_keep wn_X9 wc_X9_keep) rfl rfl rfl wd_X9_keep ⟨Nat.le_of_ble_eq_true rfl, Nat.le_of_ble_eq_true rfl⟩) (by omega) (by omega) obR_0 rfl rfl hl.1 rfl (Nat.le_of_ble_eq_true rfl) dX9_road_57 ⟨Nat.zero_le _, Nat.zero_le _⟩ (fun M57_10 H locs hw I => ?_)
            refine lv_aload_n hx hb dX9_road_60 rfl (lv_at hl 0 rfl) ?_
            refine rg_0_2 hx hb hts wu_X9 hown I wf_X9_7 dX9_road_61 ?_
            refine lv_aload_n hx hb dX9_road_64 rfl (lv_at hl 0 rfl) ?_
            refine rg_0_1 hx hb hts wu_X9 hown I wf_X9_108 dX9_road_65 ?_
            have h_12 := I.rng 0 1
            refine lv_iload_n hx hb dX9_road_68 rfl (lv_at hl 1 rfl) ?_
            obtain ⟨h_13, hw⟩ := hw
            refine r_iast hx hb I 1 lenR_1 (by decide) h_13 ha1 dX9_road_69 (fun H locs M69_13 eM69_13 I => ?_)
            replace hw := hw M69_13 eM69_13
            refine lv_aload_n hx hb dX9_road_70 rfl (lv_at hl 0 rfl) ?_
            refine rg_0_3 hx hb hts wu_X9 hown I wf_X9_13 dX9_road_71 ?_
            refine lv_aload_n hx hb dX9_road_74 rfl (lv_at hl 0 rfl) ?_
            refine rg_0_1 hx hb hts wu_X9 hown I wf_X9_108 dX9_road_75 ?_
            have h_15 := I.rng 0 1
            refine lv_iload_n hx hb dX9_road_78 rfl (lv_at hl 2 rfl) ?_
            obtain ⟨h_16, hw⟩ := hw
            refine r_iast hx hb I 2 lenR_2 (by decide) h_16 ha2 dX9_road_79 (fun H locs M79_16 eM79_16 I => ?_)
            replace hw := hw M79_16 eM79_16
            refine lv_aload_n hx hb dX9_road_80 rfl (lv_at hl 0 rfl) ?_
            refine rg_0_4 hx hb hts wu_X9 hown I wf_X9_16 dX9_road_81 ?_
            refine lv_aload_n hx hb dX9_road_84 rfl (lv_at hl 0 rfl) ?_
            refine rg_0_1 hx hb hts wu_X9 hown I wf_X9_108 dX9_road_85 ?_
            have h_18 := I.rng 0 1
            refine lv_iload_n hx hb dX9_road_88 rfl (lv_at hl 3 rfl) ?_
            obtain ⟨h_19, hw⟩ := hw
            refine r_iast hx hb I 3 lenR_3 (by decide) h_19 ha3 dX9_road_89 (fun H locs M89_19 eM89_19 I => ?_)
            replace hw := hw M89_19 eM89_19
            refine lv_aload_n hx hb dX9_road_90 rfl (lv_at hl 0 rfl) ?_
            refine lv_dup hx hb dX9_road_91 rfl ?_
            refine rg_0_1 hx hb hts wu_X9 hown I wf_X9_108 dX9_road_92 ?_
            have h_21 := I.rng 0 1
            refine li_iconst hx hb dX9_road_95 ?_
            refine li_iadd hx hb dX9_road_96 ?_
            obtain ⟨h_22, hw⟩ := hw
            refine rp_0_1 hx hb hts wu_X9 hown I wf_X9_108 h_22 dX9_road_97 (fun H locs M97_22 eM97_22 I => ?_)
            replace hw := hw M97_22 eM97_22
            refine lv_aload_n hx hb dX9_road_100 rfl (lv_at hl 0 rfl) ?_
            refine rg_0_1 hx hb hts wu_X9 hown I wf_X9_108 dX9_road_101 ?_
            have h_24 := I.rng 0 1
            refine li_iconst hx hb dX9_road_104 ?_
            refine li_isub hx hb dX9_road_105 ?_
            obtain ⟨h_25, hw⟩ := hw
            exact g_iret hx hb hr hlk I h_25 hw dX9_road_106
          · replace hw := hw.2 c_9
            refine lv_bipush (v := i32 (-5)) hx hb dX9_road_47 (by decide) ?_
            exact g_iret hx hb hr hlk I (by decide) hw dX9_road_49
        · replace hw := hw.2 c_7
          exact bX9_road_35 C post _ _ _ _ hw I (lv_sub hl [0] rfl)
    · replace hw := hw.2 c_4
      exact bX9_road_16 C post _ _ _ _ hw I (lv_sub hl [0] rfl)
abbrev rmX9_heap : Room := { frames := 1, cells := 0, slots := 0, locals := 24 }
abbrev wtX9_heap : List Cond := Cond.code yX9_heap cX9_heap 2 (some .int) :: lw_g
set_option maxRecDepth 100000 in
set_option maxHeartbeats 4000000 in
theorem bX9_heap_24 {p : Program} {l : Launch} {e : Env} {s : State} {m : MethodId} {args : Array Value} {below : List Frame} {meth : Method} {c : Code} {g : GP} (C : Cx p m c cX9_heap 2 s args lw_g RX9 meth (some .int)) (post : Int → Mem → Prop) : ∀ (n : Nat), ∀ (x1 : Int), inR x1 → ∀ (M : Mem) (H : Heap) (locs : List Loc) (ls : Array Slot), lpX9_heap_24 post n x1 M → IR g s M H locs → lv_has ls 2 [(0, .ref (g.2.2.2 0)), (1, .int (i32 x1))] → W p l e rmX9_heap s m args below meth c H locs 0 0 (QIR below args s g post) (F0 m 24 ls []) := by
  obtain ⟨⟨hx, hb, hml, hown, hts⟩, hr, hlk⟩ := id C
  intro n
  induction n with
  | zero =>
    intro x1 h1 M H locs ls hw
    exact hw.elim
  | succ n ih =>
    intro x1 h1 M H locs ls hw I hl
    refine lv_iload_n hx hb dX9_heap_24 rfl (lv_at hl 1 rfl) ?_
    refine lv_bipush (v := i32 10) hx hb dX9_heap_25 (by decide) ?_
    refine li_icmp_ge (tgt := 51) hx hb dX9_heap_27 (by decide) h1 (by decide) (fun c_1 => ?_) (fun c_1 => ?_)
    · replace hw := hw.1 c_1
      refine lv_aload_n hx hb dX9_heap_51 rfl (lv_at hl 0 rfl) ?_
      refine lv_dup hx hb dX9_heap_52 rfl ?_
      refine rg_0_5 hx hb hts wu_X9 hown I wf_X9_94 dX9_heap_53 ?_
      have h_2 := I.rng 0 5
      refine li_iconst hx hb dX9_heap_56 ?_
      refine li_iadd hx hb dX9_heap_57 ?_
      obtain ⟨h_3, hw⟩ := hw
      refine rp_0_5 hx hb hts wu_X9 hown I wf_X9_94 h_3 dX9_heap_58 (fun H locs M58_3 eM58_3 I => ?_)
      replace hw := hw M58_3 eM58_3
      refine lv_aload_n hx hb dX9_heap_61 rfl (lv_at hl 0 rfl) ?_
      refine rg_0_5 hx hb hts wu_X9 hown I wf_X9_94 dX9_heap_62 ?_
      have h_5 := I.rng 0 5
      refine li_iconst hx hb dX9_heap_65 ?_
      refine li_isub hx hb dX9_heap_66 ?_
      obtain ⟨h_6, hw⟩ := hw
      exact g_iret hx hb hr hlk I h_6 hw dX9_heap_67
    · replace hw := hw.2 c_1
      refine lv_aload_n hx hb dX9_heap_30 rfl (lv_at hl 0 rfl) ?_
      refine rg_0_6 hx hb hts wu_X9 hown I wf_X9_19 dX9_heap_31 ?_
      refine lv_bipush (v := i32 10) hx hb dX9_heap_34 (by decide) ?_
      refine lv_aload_n hx hb dX9_heap_36 rfl (lv_at hl 0 rfl) ?_
      refine rg_0_5 hx hb hts wu_X9 hown I wf_X9_94 dX9_heap_37 ?_
      have h_7 := I.rng 0 5
      refine li_imul hx hb dX9_heap_40 ?_
      refine lv_iload_n hx hb dX9_heap_41 rfl (lv_at hl 1 rfl) ?_
      refine li_iadd hx hb dX9_heap_42 ?_
      refine li_iconst hx hb dX9_heap_43 ?_
      obtain ⟨h_8, hw⟩ := hw
      refine r_iast hx hb I 4 lenR_4 (by decide) h_8 (by decide) dX9_heap_44 (fun H locs M44_8 eM44_8 I => ?_)
      replace hw := hw M44_8 eM44_8
      refine li_iinc (lv' := [(1, .int (i32 (x1 + 1))), (0, .ref (g.2.2.2 0))]) hx hb dX9_heap_45 hl (k := 1) rfl (by decide) rfl (fun ls hl => ?_)
      refine lv_goto (tgt := 24) hx hb dX9_heap_48 (by decide) ?_
      obtain ⟨h_10, hw⟩ := hw
      exact ih (x1 + 1) h_10 _ _ _ _ hw I (lv_sub hl [1, 0] rfl)
set_option maxRecDepth 100000 in
set_option maxHeartbeats 4000000 in
theorem mX9_heap (l : Launch) (g : GP) (M : Mem) (post : Int → Mem → Prop) (sz : Nat) (hw : wpX9_heap M post) : MIR l yX9_heap wtX9_heap rmX9_heap g [.ref (g.2.2.2 0)] M sz post := by
  refine Met.ofW (cc := cX9_heap) (maxL := 2) (ret := (some .int)) (by decide) rfl ?_
  intro p e s m args below meth c s₁ B hml hv
  obtain ⟨rfl, hpre⟩ := hv
  have hsz := hpre.1
  subst hsz
  have C : Cx p m c cX9_heap 2 s _ lw_g RX9 meth (some .int) := ⟨⟨B.exec, B.bytes, hml, findClass_of_methodNamed B.named, fun w h => atoms_spec (ws := wtX9_heap) B.pre w (List.mem_cons_of_mem _ h)⟩, B.returns, B.notSynchronized⟩
  obtain ⟨⟨hx, hb, hml, hown, hts⟩, hr, hlk⟩ := id C
  have I := InG.start hpre
  have hl := lv_entry ([.ref (g.2.2.2 0)]) (n := 2) (Nat.le_of_ble_eq_true rfl)
  rw [lg_entry_eq]
  generalize (lg_sl ([.ref (g.2.2.2 0)]) ++ List.replicate (2 - (lg_sl ([.ref (g.2.2.2 0)])).length) Slot.unset).toArray = ls at hl ⊢
  have hl : lv_has ls 2 [(0, .ref (g.2.2.2 0))] := hl
  show W p l e rmX9_heap s m _ below meth c s.heap [] 0 0 (QIR below _ s g post) _
  refine lv_aload_n hx hb dX9_heap_0 rfl (lv_at hl 0 rfl) ?_
  refine rg_0_5 hx hb hts wu_X9 hown I wf_X9_94 dX9_heap_1 ?_
  have h_1 := I.rng 0 5
  refine lv_bipush (v := i32 8) hx hb dX9_heap_4 (by decide) ?_
  refine li_icmp_ne (tgt := 12) hx hb dX9_heap_6 (by decide) h_1 (by decide) (fun c_2 => ?_) (fun c_2 => ?_)
  · replace hw := hw.1 c_2
    refine lv_aload_n hx hb dX9_heap_12 rfl (lv_at hl 0 rfl) ?_
    refine li_iconst hx hb dX9_heap_13 ?_
    refine lv_aload_n hx hb dX9_heap_14 rfl (lv_at hl 0 rfl) ?_
    refine rg_0_5 hx hb hts wu_X9 hown I wf_X9_94 dX9_heap_15 ?_
    have h_3 := I.rng 0 5
    refine li_iconst hx hb dX9_heap_18 ?_
    refine g_callVv (o := 0) (As := [.int (i32 2), .int (i32 (M 0 5)), .int (i32 0)]) (rest := []) ⟨hx, hb, hml, hown, hts⟩ I (mX9_keep l g 2 (M 0 5) 0 (by decide) h_3 (by decide) M _ _ hw) (cwV 3 hts (gd_V wm_X9_100 wi_X9_keep wl_X9_keep wn_X9 wc_X9_keep) rfl rfl rfl wd_X9_keep ⟨Nat.le_of_ble_eq_true rfl, Nat.le_of_ble_eq_true rfl⟩) (by omega) (by omega) obR_0 rfl rfl hl.1 rfl (Nat.le_of_ble_eq_true rfl) dX9_heap_19 ⟨Nat.zero_le _, Nat.zero_le _⟩ (fun M19_3 H locs hw I => ?_)
    refine li_iconst hx hb dX9_heap_22 ?_
    refine lv_istore_n (lv' := [(1, .int (i32 0)), (0, .ref (g.2.2.2 0))]) hx hb dX9_heap_23 rfl hl (by decide) rfl (fun ls hl => ?_)
    obtain ⟨n1, hw⟩ := hw
    exact bX9_heap_24 C post n1 0 (by decide) _ _ _ _ hw I (lv_sub hl [1, 0] rfl)
  · replace hw := hw.2 c_2
    refine lv_bipush (v := i32 (-5)) hx hb dX9_heap_9 (by decide) ?_
    exact g_iret hx hb hr hlk I (by decide) hw dX9_heap_11
abbrev rmX9_set : Room := { frames := 2, cells := 0, slots := 0, locals := 43 }
abbrev wtX9_set : List Cond := Cond.code yX9_set cX9_set 6 (some .int) :: lw_g
set_option maxRecDepth 100000 in
set_option maxHeartbeats 4000000 in
theorem bX9_set_16 {p : Program} {l : Launch} {e : Env} {s : State} {m : MethodId} {args : Array Value} {below : List Frame} {meth : Method} {c : Code} {g : GP} (C : Cx p m c cX9_set 6 s args lw_g RX9 meth (some .int)) (post : Int → Mem → Prop) : ∀ (M : Mem) (H : Heap) (locs : List Loc) (ls : Array Slot), jbX9_set_16 post  M → IR g s M H locs → lv_has ls 6 [(0, .ref (g.2.2.2 0))] → W p l e rmX9_set s m args below meth c H locs 0 0 (QIR below args s g post) (F0 m 16 ls []) := by
  obtain ⟨⟨hx, hb, hml, hown, hts⟩, hr, hlk⟩ := id C
  intro M H locs ls hw I hl
  refine lv_bipush (v := i32 (-2)) hx hb dX9_set_16 (by decide) ?_
  exact g_iret hx hb hr hlk I (by decide) hw dX9_set_18
set_option maxRecDepth 100000 in
set_option maxHeartbeats 4000000 in
theorem mX9_set (l : Launch) (g : GP) (a1 a2 a3 : Int) (ha1 : inR a1) (ha2 : inR a2) (ha3 : inR a3) (M : Mem) (post : Int → Mem → Prop) (sz : Nat) (hw : wpX9_set a1 a2 a3 M post) : MIR l yX9_set wtX9_set rmX9_set g [.ref (g.2.2.2 0), .int (i32 a1), .int (i32 a2), .int (i32 a3)] M sz post := by
  refine Met.ofW (cc := cX9_set) (maxL := 6) (ret := (some .int)) (by decide) rfl ?_
  intro p e s m args below meth c s₁ B hml hv
  obtain ⟨rfl, hpre⟩ := hv
  have hsz := hpre.1
  subst hsz
  have C : Cx p m c cX9_set 6 s _ lw_g RX9 meth (some .int) := ⟨⟨B.exec, B.bytes, hml, findClass_of_methodNamed B.named, fun w h => atoms_spec (ws := wtX9_set) B.pre w (List.mem_cons_of_mem _ h)⟩, B.returns, B.notSynchronized⟩
  obtain ⟨⟨hx, hb, hml, hown, hts⟩, hr, hlk⟩ := id C
  have I := InG.start hpre
  have hl := lv_entry ([.ref (g.2.2.2 0), .int (i32 a1), .int (i32 a2), .int (i32 a3)]) (n := 6) (Nat.le_of_ble_eq_true rfl)
  rw [lg_entry_eq]
  generalize (lg_sl ([.ref (g.2.2.2 0), .int (i32 a1), .int (i32 a2), .int (i32 a3)]) ++ List.replicate (6 - (lg_sl ([.ref (g.2.2.2 0), .int (i32 a1), .int (i32 a2), .int (i32 a3)])).length) Slot.unset).toArray = ls at hl ⊢
  have hl : lv_has ls 6 [(0, .ref (g.2.2.2 0)), (1, .int (i32 a1)), (2, .int (i32 a2)), (3, .int (i32 a3))] := hl
  show W p l e rmX9_set s m _ below meth c s.heap [] 0 0 (QIR below _ s g post) _
  refine lv_aload_n hx hb dX9_set_0 rfl (lv_at hl 0 rfl) ?_
  refine lv_iload_n hx hb dX9_set_1 rfl (lv_at hl 1 rfl) ?_
  refine g_callVi (o := 0) (As := [.int (i32 a1)]) (rest := []) ⟨hx, hb, hml, hown, hts⟩ I (mX9_isHeap l g a1 ha1 M _ _ hw) (cwV 1 hts (gd_V wm_X9_111 wi_X9_isHeap wl_X9_isHeap wn_X9 wc_X9_isHeap) rfl rfl rfl wd_X9_isHeap ⟨Nat.le_of_ble_eq_true rfl, Nat.le_of_ble_eq_true rfl⟩) (by omega) (by omega) obR_0 rfl rfl hl.1 rfl (Nat.le_of_ble_eq_true rfl) dX9_set_2 ⟨Nat.zero_le _, Nat.zero_le _⟩ (fun r2_0 M2_0 H locs hr2_0 hw I => ?_)
  refine li_if_eq (tgt := 16) hx hb dX9_set_5 (by decide) hr2_0 (fun c_2 => ?_) (fun c_2 => ?_)
  · replace hw := hw.1 c_2
    exact bX9_set_16 C post _ _ _ _ hw I (lv_sub hl [0] rfl)
  · replace hw := hw.2 c_2
    refine lv_aload_n hx hb dX9_set_8 rfl (lv_at hl 0 rfl) ?_
    refine lv_iload_n hx hb dX9_set_9 rfl (lv_at hl 2 rfl) ?_
    refine g_callVi (o := 0) (As := [.int (i32 a2)]) (rest := []) ⟨hx, hb, hml, hown, hts⟩ I (mX9_isPlace l g a2 ha2 M2_0 _ _ hw) (cwV 1 hts (gd_V wm_X9_104 wi_X9_isPlace wl_X9_isPlace wn_X9 wc_X9_isPlace) rfl rfl rfl wd_X9_isPlace ⟨Nat.le_of_ble_eq_true rfl, Nat.le_of_ble_eq_true rfl⟩) (by omega) (by omega) obR_0 rfl rfl hl.1 rfl (Nat.le_of_ble_eq_true rfl) dX9_set_10 ⟨Nat.zero_le _, Nat.zero_le _⟩ (fun r10_2 M10_2 H locs hr10_2 hw I => ?_)
    refine li_if_ne (tgt := 19) hx hb dX9_set_13 (by decide) hr10_2 (fun c_4 => ?_) (fun c_4 => ?_)
    · replace hw := hw.1 c_4
      refine lv_iload_n hx hb dX9_set_19 rfl (lv_at hl 3 rfl) ?_
      refine li_iconst hx hb dX9_set_20 ?_
      refine lv_sipush (v := i32 1000) hx hb dX9_set_21 (by decide) ?_
      refine g_callSi (As := [.int (i32 a3), .int (i32 0), .int (i32 1000)]) (rest := []) ⟨hx, hb, hml, hown, hts⟩ I (mX9_in l g a3 0 1000 ha3 (by decide) (by decide) M10_2 _ _ hw) (va_cwS 3 hts (gd_S wm_X9_90 wa_X9_in wn_X9 wc_X9_in) rfl rfl rfl wd_X9_in ⟨Nat.le_of_ble_eq_true rfl, Nat.le_of_ble_eq_true rfl⟩) rfl hl.1 rfl (Nat.le_of_ble_eq_true rfl) dX9_set_24 ⟨Nat.zero_le _, Nat.zero_le _⟩ (fun r24_4 M24_4 H locs hr24_4 hw I => ?_)
      refine li_if_ne (tgt := 33) hx hb dX9_set_27 (by decide) hr24_4 (fun c_6 => ?_) (fun c_6 => ?_)
      · replace hw := hw.1 c_6
        refine lv_bipush (v := i32 10) hx hb dX9_set_33 (by decide) ?_
        refine lv_iload_n hx hb dX9_set_35 rfl (lv_at hl 1 rfl) ?_
        refine li_imul hx hb dX9_set_36 ?_
        refine lv_iload_n hx hb dX9_set_37 rfl (lv_at hl 2 rfl) ?_
        refine li_iadd hx hb dX9_set_38 ?_
        obtain ⟨h_7, hw⟩ := hw
        refine li_name (fun v39_7 ev39_7 => ?_)
        replace hw := hw v39_7 ev39_7
        have hv39_7 : inR v39_7 := ev39_7 ▸ h_7
        refine lv_istore (lv' := [(4, .int (i32 v39_7)), (0, .ref (g.2.2.2 0)), (1, .int (i32 a1)), (2, .int (i32 a2)), (3, .int (i32 a3))]) hx hb dX9_set_39 hl (by decide) rfl (fun ls hl => ?_)
        refine lv_aload_n hx hb dX9_set_41 rfl (lv_at hl 1 rfl) ?_
        refine rg_0_6 hx hb hts wu_X9 hown I wf_X9_19 dX9_set_42 ?_
        refine lv_iload hx hb dX9_set_45 (lv_at hl 0 rfl) ?_
        obtain ⟨h_9, hw⟩ := hw
        refine r_iald hx hb I 4 lenR_4 (by decide) h_9 dX9_set_47 ?_
        have h_10 := I.rng 4 v39_7
        refine li_name (fun v48_10 ev48_10 => ?_)
        replace hw := hw v48_10 ev48_10
        have hv48_10 : inR v48_10 := ev48_10 ▸ h_10
        refine lv_istore (lv' := [(5, .int (i32 v48_10)), (4, .int (i32 v39_7)), (0, .ref (g.2.2.2 0)), (1, .int (i32 a1)), (2, .int (i32 a2)), (3, .int (i32 a3))]) hx hb dX9_set_48 hl (by decide) rfl (fun ls hl => ?_)
        refine lv_aload_n hx hb dX9_set_50 rfl (lv_at hl 2 rfl) ?_
        refine li_iconst hx hb dX9_set_51 ?_
        refine lv_iload hx hb dX9_set_52 (lv_at hl 1 rfl) ?_
        refine lv_iload hx hb dX9_set_54 (lv_at hl 0 rfl) ?_
        refine g_callVv (o := 0) (As := [.int (i32 3), .int (i32 v39_7), .int (i32 v48_10)]) (rest := []) ⟨hx, hb, hml, hown, hts⟩ I (mX9_keep l g 3 v39_7 v48_10 (by decide) hv39_7 hv48_10 M24_4 _ _ hw) (cwV 3 hts (gd_V wm_X9_100 wi_X9_keep wl_X9_keep wn_X9 wc_X9_keep) rfl rfl rfl wd_X9_keep ⟨Nat.le_of_ble_eq_true rfl, Nat.le_of_ble_eq_true rfl⟩) (by omega) (by omega) obR_0 rfl rfl hl.1 rfl (Nat.le_of_ble_eq_true rfl) dX9_set_56 ⟨Nat.zero_le _, Nat.zero_le _⟩ (fun M56_11 H locs hw I => ?_)
        refine lv_aload_n hx hb dX9_set_59 rfl (lv_at hl 2 rfl) ?_
        refine rg_0_6 hx hb hts wu_X9 hown I wf_X9_19 dX9_set_60 ?_
        refine lv_iload hx hb dX9_set_63 (lv_at hl 1 rfl) ?_
        refine lv_iload_n hx hb dX9_set_65 rfl (lv_at hl 5 rfl) ?_
        obtain ⟨h_13, hw⟩ := hw
        refine r_iast hx hb I 4 lenR_4 (by decide) h_13 ha3 dX9_set_66 (fun H locs M66_13 eM66_13 I => ?_)
        replace hw := hw M66_13 eM66_13
        refine lv_iload hx hb dX9_set_67 (lv_at hl 0 rfl) ?_
        exact g_iret hx hb hr hlk I hv48_10 hw dX9_set_69
      · replace hw := hw.2 c_6
        refine lv_bipush (v := i32 (-3)) hx hb dX9_set_30 (by decide) ?_
        exact g_iret hx hb hr hlk I (by decide) hw dX9_set_32
    · replace hw := hw.2 c_4
      exact bX9_set_16 C post _ _ _ _ hw I (lv_sub hl [0] rfl)
abbrev rmX9_gate : Room := { frames := 2, cells := 0, slots := 0, locals := 43 }
abbrev wtX9_gate : List Cond := Cond.code yX9_gate cX9_gate 4 (some .int) :: lw_g
set_option maxRecDepth 100000 in
set_option maxHeartbeats 4000000 in
theorem mX9_gate (l : Launch) (g : GP) (a1 a2 : Int) (ha1 : inR a1) (ha2 : inR a2) (M : Mem) (post : Int → Mem → Prop) (sz : Nat) (hw : wpX9_gate a1 a2 M post) : MIR l yX9_gate wtX9_gate rmX9_gate g [.ref (g.2.2.2 0), .int (i32 a1), .int (i32 a2)] M sz post := by
  refine Met.ofW (cc := cX9_gate) (maxL := 4) (ret := (some .int)) (by decide) rfl ?_
  intro p e s m args below meth c s₁ B hml hv
  obtain ⟨rfl, hpre⟩ := hv
  have hsz := hpre.1
  subst hsz
  have C : Cx p m c cX9_gate 4 s _ lw_g RX9 meth (some .int) := ⟨⟨B.exec, B.bytes, hml, findClass_of_methodNamed B.named, fun w h => atoms_spec (ws := wtX9_gate) B.pre w (List.mem_cons_of_mem _ h)⟩, B.returns, B.notSynchronized⟩
  obtain ⟨⟨hx, hb, hml, hown, hts⟩, hr, hlk⟩ := id C
  have I := InG.start hpre
  have hl := lv_entry ([.ref (g.2.2.2 0), .int (i32 a1), .int (i32 a2)]) (n := 4) (Nat.le_of_ble_eq_true rfl)
  rw [lg_entry_eq]
  generalize (lg_sl ([.ref (g.2.2.2 0), .int (i32 a1), .int (i32 a2)]) ++ List.replicate (4 - (lg_sl ([.ref (g.2.2.2 0), .int (i32 a1), .int (i32 a2)])).length) Slot.unset).toArray = ls at hl ⊢
  have hl : lv_has ls 4 [(0, .ref (g.2.2.2 0)), (1, .int (i32 a1)), (2, .int (i32 a2))] := hl
  show W p l e rmX9_gate s m _ below meth c s.heap [] 0 0 (QIR below _ s g post) _
  refine lv_aload_n hx hb dX9_gate_0 rfl (lv_at hl 0 rfl) ?_
  refine lv_iload_n hx hb dX9_gate_1 rfl (lv_at hl 1 rfl) ?_
  refine g_callVi (o := 0) (As := [.int (i32 a1)]) (rest := []) ⟨hx, hb, hml, hown, hts⟩ I (mX9_isPlace l g a1 ha1 M _ _ hw) (cwV 1 hts (gd_V wm_X9_104 wi_X9_isPlace wl_X9_isPlace wn_X9 wc_X9_isPlace) rfl rfl rfl wd_X9_isPlace ⟨Nat.le_of_ble_eq_true rfl, Nat.le_of_ble_eq_true rfl⟩) (by omega) (by omega) obR_0 rfl rfl hl.1 rfl (Nat.le_of_ble_eq_true rfl) dX9_gate_2 ⟨Nat.zero_le _, Nat.zero_le _⟩ (fun r2_0 M2_0 H locs hr2_0 hw I => ?_)
  refine li_if_ne (tgt := 11) hx hb dX9_gate_5 (by decide) hr2_0 (fun c_2 => ?_) (fun c_2 => ?_)
  · replace hw := hw.1 c_2
    refine lv_iload_n hx hb dX9_gate_11 rfl (lv_at hl 2 rfl) ?_
    refine li_iconst hx hb dX9_gate_12 ?_
    refine lv_ldc (v := i32 100000) hx hb hown (hts _ wk_X9_114) dX9_gate_13 ?_
    refine g_callSi (As := [.int (i32 a2), .int (i32 (-1)), .int (i32 100000)]) (rest := []) ⟨hx, hb, hml, hown, hts⟩ I (mX9_in l g a2 (-1) 100000 ha2 (by decide) (by decide) M2_0 _ _ hw) (va_cwS 3 hts (gd_S wm_X9_90 wa_X9_in wn_X9 wc_X9_in) rfl rfl rfl wd_X9_in ⟨Nat.le_of_ble_eq_true rfl, Nat.le_of_ble_eq_true rfl⟩) rfl hl.1 rfl (Nat.le_of_ble_eq_true rfl) dX9_gate_15 ⟨Nat.zero_le _, Nat.zero_le _⟩ (fun r15_2 M15_2 H locs hr15_2 hw I => ?_)
    refine li_if_ne (tgt := 24) hx hb dX9_gate_18 (by decide) hr15_2 (fun c_4 => ?_) (fun c_4 => ?_)
    · replace hw := hw.1 c_4
      refine lv_aload_n hx hb dX9_gate_24 rfl (lv_at hl 0 rfl) ?_
      refine rg_0_7 hx hb hts wu_X9 hown I wf_X9_22 dX9_gate_25 ?_
      refine lv_iload_n hx hb dX9_gate_28 rfl (lv_at hl 1 rfl) ?_
      obtain ⟨h_5, hw⟩ := hw
      refine r_iald hx hb I 5 lenR_5 (by decide) h_5 dX9_gate_29 ?_
      have h_6 := I.rng 5 a1
      refine li_name (fun v30_6 ev30_6 => ?_)
      replace hw := hw v30_6 ev30_6
      have hv30_6 : inR v30_6 := ev30_6 ▸ h_6
      refine lv_istore_n (lv' := [(3, .int (i32 v30_6)), (0, .ref (g.2.2.2 0)), (1, .int (i32 a1)), (2, .int (i32 a2))]) hx hb dX9_gate_30 rfl hl (by decide) rfl (fun ls hl => ?_)
      refine lv_aload_n hx hb dX9_gate_31 rfl (lv_at hl 1 rfl) ?_
      refine li_iconst hx hb dX9_gate_32 ?_
      refine lv_iload_n hx hb dX9_gate_33 rfl (lv_at hl 2 rfl) ?_
      refine lv_iload_n hx hb dX9_gate_34 rfl (lv_at hl 0 rfl) ?_
      refine g_callVv (o := 0) (As := [.int (i32 4), .int (i32 a1), .int (i32 v30_6)]) (rest := []) ⟨hx, hb, hml, hown, hts⟩ I (mX9_keep l g 4 a1 v30_6 (by decide) ha1 hv30_6 M15_2 _ _ hw) (cwV 3 hts (gd_V wm_X9_100 wi_X9_keep wl_X9_keep wn_X9 wc_X9_keep) rfl rfl rfl wd_X9_keep ⟨Nat.le_of_ble_eq_true rfl, Nat.le_of_ble_eq_true rfl⟩) (by omega) (by omega) obR_0 rfl rfl hl.1 rfl (Nat.le_of_ble_eq_true rfl) dX9_gate_35 ⟨Nat.zero_le _, Nat.zero_le _⟩ (fun M35_7 H locs hw I => ?_)
      refine lv_aload_n hx hb dX9_gate_38 rfl (lv_at hl 1 rfl) ?_
      refine rg_0_7 hx hb hts wu_X9 hown I wf_X9_22 dX9_gate_39 ?_
      refine lv_iload_n hx hb dX9_gate_42 rfl (lv_at hl 2 rfl) ?_
      refine lv_iload_n hx hb dX9_gate_43 rfl (lv_at hl 3 rfl) ?_
      obtain ⟨h_9, hw⟩ := hw
      refine r_iast hx hb I 5 lenR_5 (by decide) h_9 ha2 dX9_gate_44 (fun H locs M44_9 eM44_9 I => ?_)
      replace hw := hw M44_9 eM44_9
      refine lv_iload_n hx hb dX9_gate_45 rfl (lv_at hl 0 rfl) ?_
      exact g_iret hx hb hr hlk I hv30_6 hw dX9_gate_46
    · replace hw := hw.2 c_4
      refine lv_bipush (v := i32 (-3)) hx hb dX9_gate_21 (by decide) ?_
      exact g_iret hx hb hr hlk I (by decide) hw dX9_gate_23
  · replace hw := hw.2 c_2
    refine lv_bipush (v := i32 (-2)) hx hb dX9_gate_8 (by decide) ?_
    exact g_iret hx hb hr hlk I (by decide) hw dX9_gate_10
abbrev rmX9_undo : Room := { frames := 0, cells := 0, slots := 0, locals := 0 }
abbrev wtX9_undo : List Cond := Cond.code yX9_undo cX9_undo 4 (some .int) :: lw_g
set_option maxRecDepth 100000 in
set_option maxHeartbeats 4000000 in
theorem bX9_undo_169 {p : Program} {l : Launch} {e : Env} {s : State} {m : MethodId} {args : Array Value} {below : List Frame} {meth : Method} {c : Code} {g : GP} (C : Cx p m c cX9_undo 4 s args lw_g RX9 meth (some .int)) (post : Int → Mem → Prop) : ∀ (M : Mem) (H : Heap) (locs : List Loc) (ls : Array Slot), jbX9_undo_169 post  M → IR g s M H locs → lv_has ls 4 [(0, .ref (g.2.2.2 0))] → W p l e rmX9_undo s m args below meth c H locs 0 0 (QIR below args s g post) (F0 m 169 ls []) := by
  obtain ⟨⟨hx, hb, hml, hown, hts⟩, hr, hlk⟩ := id C
  intro M H locs ls hw I hl
  refine lv_aload_n hx hb dX9_undo_169 rfl (lv_at hl 0 rfl) ?_
  refine rg_0_10 hx hb hts wu_X9 hown I wf_X9_97 dX9_undo_170 ?_
  have h_1 := I.rng 0 10
  exact g_iret hx hb hr hlk I h_1 hw dX9_undo_173
set_option maxRecDepth 100000 in
set_option maxHeartbeats 4000000 in
theorem bX9_undo_56 {p : Program} {l : Launch} {e : Env} {s : State} {m : MethodId} {args : Array Value} {below : List Frame} {meth : Method} {c : Code} {g : GP} (C : Cx p m c cX9_undo 4 s args lw_g RX9 meth (some .int)) (post : Int → Mem → Prop) : ∀ (n : Nat), ∀ (x2 x3 : Int), inR x2 → inR x3 → ∀ (M : Mem) (H : Heap) (locs : List Loc) (ls : Array Slot), lpX9_undo_56 post n x2 x3 M → IR g s M H locs → lv_has ls 4 [(0, .ref (g.2.2.2 0)), (2, .int (i32 x2)), (3, .int (i32 x3))] → W p l e rmX9_undo s m args below meth c H locs 0 0 (QIR below args s g post) (F0 m 56 ls []) := by
  obtain ⟨⟨hx, hb, hml, hown, hts⟩, hr, hlk⟩ := id C
  intro n
  induction n with
  | zero =>
    intro x2 x3 h2 h3 M H locs ls hw
    exact hw.elim
  | succ n ih =>
    intro x2 x3 h2 h3 M H locs ls hw I hl
    refine lv_iload_n hx hb dX9_undo_56 rfl (lv_at hl 2 rfl) ?_
    refine lv_bipush (v := i32 10) hx hb dX9_undo_57 (by decide) ?_
    refine li_icmp_ge (tgt := 92) hx hb dX9_undo_59 (by decide) h3 (by decide) (fun c_1 => ?_) (fun c_1 => ?_)
    · replace hw := hw.1 c_1
      refine lv_goto (tgt := 169) hx hb dX9_undo_92 (by decide) ?_
      exact bX9_undo_169 C post _ _ _ _ hw I (lv_sub hl [0] rfl)
    · replace hw := hw.2 c_1
      refine lv_aload_n hx hb dX9_undo_62 rfl (lv_at hl 0 rfl) ?_
      refine rg_0_8 hx hb hts wu_X9 hown I wf_X9_25 dX9_undo_63 ?_
      refine lv_bipush (v := i32 10) hx hb dX9_undo_66 (by decide) ?_
      refine lv_iload_n hx hb dX9_undo_68 rfl (lv_at hl 1 rfl) ?_
      refine li_imul hx hb dX9_undo_69 ?_
      refine lv_iload_n hx hb dX9_undo_70 rfl (lv_at hl 2 rfl) ?_
      refine li_iadd hx hb dX9_undo_71 ?_
      refine li_iconst hx hb dX9_undo_72 ?_
      obtain ⟨h_2, hw⟩ := hw
      refine r_iast hx hb I 6 lenR_6 (by decide) h_2 (by decide) dX9_undo_73 (fun H locs M73_2 eM73_2 I => ?_)
      replace hw := hw M73_2 eM73_2
      refine lv_aload_n hx hb dX9_undo_74 rfl (lv_at hl 0 rfl) ?_
      refine rg_0_8 hx hb hts wu_X9 hown I wf_X9_25 dX9_undo_75 ?_
      refine lv_bipush (v := i32 10) hx hb dX9_undo_78 (by decide) ?_
      refine lv_iload_n hx hb dX9_undo_80 rfl (lv_at hl 2 rfl) ?_
      refine li_imul hx hb dX9_undo_81 ?_
      refine lv_iload_n hx hb dX9_undo_82 rfl (lv_at hl 1 rfl) ?_
      refine li_iadd hx hb dX9_undo_83 ?_
      refine li_iconst hx hb dX9_undo_84 ?_
      obtain ⟨h_4, hw⟩ := hw
      refine r_iast hx hb I 6 lenR_6 (by decide) h_4 (by decide) dX9_undo_85 (fun H locs M85_4 eM85_4 I => ?_)
      replace hw := hw M85_4 eM85_4
      refine li_iinc (lv' := [(3, .int (i32 (x3 + 1))), (0, .ref (g.2.2.2 0)), (2, .int (i32 x2))]) hx hb dX9_undo_86 hl (k := 2) rfl (by decide) rfl (fun ls hl => ?_)
      refine lv_goto (tgt := 56) hx hb dX9_undo_89 (by decide) ?_
      obtain ⟨h_6, hw⟩ := hw
      exact ih x2 (x3 + 1) h2 h_6 _ _ _ _ hw I (lv_sub hl [1, 2, 0] rfl)
set_option maxRecDepth 100000 in
set_option maxHeartbeats 4000000 in
theorem mX9_undo (l : Launch) (g : GP) (M : Mem) (post : Int → Mem → Prop) (sz : Nat) (hw : wpX9_undo M post) : MIR l yX9_undo wtX9_undo rmX9_undo g [.ref (g.2.2.2 0)] M sz post := by
  refine Met.ofW (cc := cX9_undo) (maxL := 4) (ret := (some .int)) (by decide) rfl ?_
  intro p e s m args below meth c s₁ B hml hv
  obtain ⟨rfl, hpre⟩ := hv
  have hsz := hpre.1
  subst hsz
  have C : Cx p m c cX9_undo 4 s _ lw_g RX9 meth (some .int) := ⟨⟨B.exec, B.bytes, hml, findClass_of_methodNamed B.named, fun w h => atoms_spec (ws := wtX9_undo) B.pre w (List.mem_cons_of_mem _ h)⟩, B.returns, B.notSynchronized⟩
  obtain ⟨⟨hx, hb, hml, hown, hts⟩, hr, hlk⟩ := id C
  have I := InG.start hpre
  have hl := lv_entry ([.ref (g.2.2.2 0)]) (n := 4) (Nat.le_of_ble_eq_true rfl)
  rw [lg_entry_eq]
  generalize (lg_sl ([.ref (g.2.2.2 0)]) ++ List.replicate (4 - (lg_sl ([.ref (g.2.2.2 0)])).length) Slot.unset).toArray = ls at hl ⊢
  have hl : lv_has ls 4 [(0, .ref (g.2.2.2 0))] := hl
  show W p l e rmX9_undo s m _ below meth c s.heap [] 0 0 (QIR below _ s g post) _
  refine lv_aload_n hx hb dX9_undo_0 rfl (lv_at hl 0 rfl) ?_
  refine rg_0_10 hx hb hts wu_X9 hown I wf_X9_97 dX9_undo_1 ?_
  have h_1 := I.rng 0 10
  refine li_if_ne (tgt := 10) hx hb dX9_undo_4 (by decide) h_1 (fun c_2 => ?_) (fun c_2 => ?_)
  · replace hw := hw.1 c_2
    refine lv_aload_n hx hb dX9_undo_10 rfl (lv_at hl 0 rfl) ?_
    refine lv_dup hx hb dX9_undo_11 rfl ?_
    refine rg_0_10 hx hb hts wu_X9 hown I wf_X9_97 dX9_undo_12 ?_
    have h_3 := I.rng 0 10
    refine li_iconst hx hb dX9_undo_15 ?_
    refine li_isub hx hb dX9_undo_16 ?_
    obtain ⟨h_4, hw⟩ := hw
    refine rp_0_10 hx hb hts wu_X9 hown I wf_X9_97 h_4 dX9_undo_17 (fun H locs M17_4 eM17_4 I => ?_)
    replace hw := hw M17_4 eM17_4
    refine lv_aload_n hx hb dX9_undo_20 rfl (lv_at hl 0 rfl) ?_
    refine rg_0_11 hx hb hts wu_X9 hown I wf_X9_28 dX9_undo_21 ?_
    refine lv_aload_n hx hb dX9_undo_24 rfl (lv_at hl 0 rfl) ?_
    refine rg_0_10 hx hb hts wu_X9 hown I wf_X9_97 dX9_undo_25 ?_
    have h_6 := I.rng 0 10
    obtain ⟨h_7, hw⟩ := hw
    refine r_iald hx hb I 7 lenR_7 (by decide) h_7 dX9_undo_28 ?_
    have h_8 := I.rng 7 (M17_4 0 10)
    refine li_name (fun v29_8 ev29_8 => ?_)
    replace hw := hw v29_8 ev29_8
    have hv29_8 : inR v29_8 := ev29_8 ▸ h_8
    refine lv_istore_n (lv' := [(1, .int (i32 v29_8)), (0, .ref (g.2.2.2 0))]) hx hb dX9_undo_29 rfl hl (by decide) rfl (fun ls hl => ?_)
    refine lv_aload_n hx hb dX9_undo_30 rfl (lv_at hl 1 rfl) ?_
    refine rg_0_12 hx hb hts wu_X9 hown I wf_X9_31 dX9_undo_31 ?_
    refine lv_aload_n hx hb dX9_undo_34 rfl (lv_at hl 1 rfl) ?_
    refine rg_0_10 hx hb hts wu_X9 hown I wf_X9_97 dX9_undo_35 ?_
    have h_10 := I.rng 0 10
    obtain ⟨h_11, hw⟩ := hw
    refine r_iald hx hb I 8 lenR_8 (by decide) h_11 dX9_undo_38 ?_
    have h_12 := I.rng 8 (M17_4 0 10)
    refine li_name (fun v39_12 ev39_12 => ?_)
    replace hw := hw v39_12 ev39_12
    have hv39_12 : inR v39_12 := ev39_12 ▸ h_12
    refine lv_istore_n (lv' := [(2, .int (i32 v39_12)), (1, .int (i32 v29_8)), (0, .ref (g.2.2.2 0))]) hx hb dX9_undo_39 rfl hl (by decide) rfl (fun ls hl => ?_)
    refine lv_iload_n hx hb dX9_undo_40 rfl (lv_at hl 1 rfl) ?_
    refine li_if_ne (tgt := 95) hx hb dX9_undo_41 (by decide) hv29_8 (fun c_14 => ?_) (fun c_14 => ?_)
    · replace hw := hw.1 c_14
      refine lv_iload_n hx hb dX9_undo_95 rfl (lv_at hl 1 rfl) ?_
      refine li_iconst hx hb dX9_undo_96 ?_
      refine li_icmp_ne (tgt := 113) hx hb dX9_undo_97 (by decide) hv29_8 (by decide) (fun c_15 => ?_) (fun c_15 => ?_)
      · replace hw := hw.1 c_15
        refine lv_iload_n hx hb dX9_undo_113 rfl (lv_at hl 1 rfl) ?_
        refine li_iconst hx hb dX9_undo_114 ?_
        refine li_icmp_ne (tgt := 131) hx hb dX9_undo_115 (by decide) hv29_8 (by decide) (fun c_16 => ?_) (fun c_16 => ?_)
        · replace hw := hw.1 c_16
          refine lv_iload_n hx hb dX9_undo_131 rfl (lv_at hl 1 rfl) ?_
          refine li_iconst hx hb dX9_undo_132 ?_
          refine li_icmp_ne (tgt := 154) hx hb dX9_undo_133 (by decide) hv29_8 (by decide) (fun c_17 => ?_) (fun c_17 => ?_)
          · replace hw := hw.1 c_17
            refine lv_aload_n hx hb dX9_undo_154 rfl (lv_at hl 2 rfl) ?_
            refine rg_0_7 hx hb hts wu_X9 hown I wf_X9_22 dX9_undo_155 ?_
            refine lv_iload_n hx hb dX9_undo_158 rfl (lv_at hl 0 rfl) ?_
            refine lv_aload_n hx hb dX9_undo_159 rfl (lv_at hl 2 rfl) ?_
            refine rg_0_13 hx hb hts wu_X9 hown I wf_X9_34 dX9_undo_160 ?_
            refine lv_aload_n hx hb dX9_undo_163 rfl (lv_at hl 2 rfl) ?_
            refine rg_0_10 hx hb hts wu_X9 hown I wf_X9_97 dX9_undo_164 ?_
            have h_18 := I.rng 0 10
            obtain ⟨h_19, hw⟩ := hw
            refine r_iald hx hb I 9 lenR_9 (by decide) h_19 dX9_undo_167 ?_
            have h_20 := I.rng 9 (M17_4 0 10)
            obtain ⟨h_21, hw⟩ := hw
            refine r_iast hx hb I 5 lenR_5 (by decide) h_21 h_20 dX9_undo_168 (fun H locs M168_21 eM168_21 I => ?_)
            replace hw := hw M168_21 eM168_21
            exact bX9_undo_169 C post _ _ _ _ hw I (lv_sub hl [2] rfl)
          · replace hw := hw.2 c_17
            refine lv_aload_n hx hb dX9_undo_136 rfl (lv_at hl 2 rfl) ?_
            refine rg_0_6 hx hb hts wu_X9 hown I wf_X9_19 dX9_undo_137 ?_
            refine lv_iload_n hx hb dX9_undo_140 rfl (lv_at hl 0 rfl) ?_
            refine lv_aload_n hx hb dX9_undo_141 rfl (lv_at hl 2 rfl) ?_
            refine rg_0_13 hx hb hts wu_X9 hown I wf_X9_34 dX9_undo_142 ?_
            refine lv_aload_n hx hb dX9_undo_145 rfl (lv_at hl 2 rfl) ?_
            refine rg_0_10 hx hb hts wu_X9 hown I wf_X9_97 dX9_undo_146 ?_
            have h_23 := I.rng 0 10
            obtain ⟨h_24, hw⟩ := hw
            refine r_iald hx hb I 9 lenR_9 (by decide) h_24 dX9_undo_149 ?_
            have h_25 := I.rng 9 (M17_4 0 10)
            obtain ⟨h_26, hw⟩ := hw
            refine r_iast hx hb I 4 lenR_4 (by decide) h_26 h_25 dX9_undo_150 (fun H locs M150_26 eM150_26 I => ?_)
            replace hw := hw M150_26 eM150_26
            refine lv_goto (tgt := 169) hx hb dX9_undo_151 (by decide) ?_
            exact bX9_undo_169 C post _ _ _ _ hw I (lv_sub hl [2] rfl)
        · replace hw := hw.2 c_16
          refine lv_aload_n hx hb dX9_undo_118 rfl (lv_at hl 2 rfl) ?_
          refine lv_dup hx hb dX9_undo_119 rfl ?_
          refine rg_0_5 hx hb hts wu_X9 hown I wf_X9_94 dX9_undo_120 ?_
          have h_28 := I.rng 0 5
          refine li_iconst hx hb dX9_undo_123 ?_
          refine li_isub hx hb dX9_undo_124 ?_
          obtain ⟨h_29, hw⟩ := hw
          refine rp_0_5 hx hb hts wu_X9 hown I wf_X9_94 h_29 dX9_undo_125 (fun H locs M125_29 eM125_29 I => ?_)
          replace hw := hw M125_29 eM125_29
          refine lv_goto (tgt := 169) hx hb dX9_undo_128 (by decide) ?_
          exact bX9_undo_169 C post _ _ _ _ hw I (lv_sub hl [2] rfl)
      · replace hw := hw.2 c_15
        refine lv_aload_n hx hb dX9_undo_100 rfl (lv_at hl 2 rfl) ?_
        refine lv_dup hx hb dX9_undo_101 rfl ?_
        refine rg_0_1 hx hb hts wu_X9 hown I wf_X9_108 dX9_undo_102 ?_
        have h_31 := I.rng 0 1
        refine li_iconst hx hb dX9_undo_105 ?_
        refine li_isub hx hb dX9_undo_106 ?_
        obtain ⟨h_32, hw⟩ := hw
        refine rp_0_1 hx hb hts wu_X9 hown I wf_X9_108 h_32 dX9_undo_107 (fun H locs M107_32 eM107_32 I => ?_)
        replace hw := hw M107_32 eM107_32
        refine lv_goto (tgt := 169) hx hb dX9_undo_110 (by decide) ?_
        exact bX9_undo_169 C post _ _ _ _ hw I (lv_sub hl [2] rfl)
    · replace hw := hw.2 c_14
      refine lv_aload_n hx hb dX9_undo_44 rfl (lv_at hl 2 rfl) ?_
      refine lv_dup hx hb dX9_undo_45 rfl ?_
      refine rg_0_0 hx hb hts wu_X9 hown I wf_X9_86 dX9_undo_46 ?_
      have h_34 := I.rng 0 0
      refine li_iconst hx hb dX9_undo_49 ?_
      refine li_isub hx hb dX9_undo_50 ?_
      obtain ⟨h_35, hw⟩ := hw
      refine rp_0_0 hx hb hts wu_X9 hown I wf_X9_86 h_35 dX9_undo_51 (fun H locs M51_35 eM51_35 I => ?_)
      replace hw := hw M51_35 eM51_35
      refine li_iconst hx hb dX9_undo_54 ?_
      refine lv_istore_n (lv' := [(3, .int (i32 0)), (2, .int (i32 v39_12)), (1, .int (i32 v29_8)), (0, .ref (g.2.2.2 0))]) hx hb dX9_undo_55 rfl hl (by decide) rfl (fun ls hl => ?_)
      obtain ⟨n1, hw⟩ := hw
      exact bX9_undo_56 C post n1 v39_12 0 hv39_12 (by decide) _ _ _ _ hw I (lv_sub hl [3, 1, 0] rfl)
  · replace hw := hw.2 c_2
    refine lv_bipush (v := i32 (-4)) hx hb dX9_undo_7 (by decide) ?_
    exact g_iret hx hb hr hlk I (by decide) hw dX9_undo_9
abbrev rmX9_findFar : Room := { frames := 0, cells := 0, slots := 0, locals := 0 }
abbrev wtX9_findFar : List Cond := Cond.code yX9_findFar cX9_findFar 5 none :: lw_g
set_option maxRecDepth 100000 in
set_option maxHeartbeats 4000000 in
theorem bX9_findFar_232 {p : Program} {l : Launch} {e : Env} {s : State} {m : MethodId} {args : Array Value} {below : List Frame} {meth : Method} {c : Code} {g : GP} (C : Cx p m c cX9_findFar 5 s args lw_g RX9 meth none) (post : Mem → Prop) (k137 : Int → Mem → Prop) (k147 : Int → Int → Mem → Prop) (k157 : Int → Int → Int → Mem → Prop) (hk137 : ∀ (x1 : Int), inR x1 → ∀ (M : Mem) (H : Heap) (locs : List Loc) (ls : Array Slot), k137 x1 M → IR g s M H locs → lv_has ls 5 [(0, .ref (g.2.2.2 0)), (1, .int (i32 x1))] → W p l e rmX9_findFar s m args below meth c H locs 0 0 (QVR below args s g post) (F0 m 137 ls [])) (hk147 : ∀ (x1 x2 : Int), inR x1 → inR x2 → ∀ (M : Mem) (H : Heap) (locs : List Loc) (ls : Array Slot), k147 x1 x2 M → IR g s M H locs → lv_has ls 5 [(0, .ref (g.2.2.2 0)), (1, .int (i32 x1)), (2, .int (i32 x2))] → W p l e rmX9_findFar s m args below meth c H locs 0 0 (QVR below args s g post) (F0 m 147 ls [])) (hk157 : ∀ (x1 x2 x3 : Int), inR x1 → inR x2 → inR x3 → ∀ (M : Mem) (H : Heap) (locs : List Loc) (ls : Array Slot), k157 x1 x2 x3 M → IR g s M H locs → lv_has ls 5 [(0, .ref (g.2.2.2 0)), (1, .int (i32 x1)), (2, .int (i32 x2)), (3, .int (i32 x3))] → W p l e rmX9_findFar s m args below meth c H locs 0 0 (QVR below args s g post) (F0 m 157 ls [])) : ∀ (x1 x2 x3 t0 t1 : Int), inR x1 → inR x2 → inR x3 → inR t0 → inR t1 → ∀ (M : Mem) (H : Heap) (locs : List Loc) (ls : Array Slot), jbX9_findFar_232 post k137 k147 k157 x1 x2 x3 t0 t1 M → IR g s M H locs → lv_has ls 5 [(0, .ref (g.2.2.2 0)), (1, .int (i32 x1)), (2, .int (i32 x2)), (3, .int (i32 x3))] → W p l e rmX9_findFar s m args below meth c H locs 0 0 (QVR below args s g post) (F0 m 232 ls [.int (i32 t0), .int (i32 t1), .ref (g.2.2.2 10)]) := by
  obtain ⟨⟨hx, hb, hml, hown, hts⟩, hr, hlk⟩ := id C
  intro x1 x2 x3 t0 t1 h1 h2 h3 ht0 ht1 M H locs ls hw I hl
  obtain ⟨h_1, hw⟩ := hw
  refine r_iast hx hb I 10 lenR_10 (by decide) h_1 ht0 dX9_findFar_232 (fun H locs M232_1 eM232_1 I => ?_)
  replace hw := hw M232_1 eM232_1
  refine li_iinc (lv' := [(3, .int (i32 (x3 + 1))), (0, .ref (g.2.2.2 0)), (1, .int (i32 x1)), (2, .int (i32 x2))]) hx hb dX9_findFar_233 hl (k := 3) rfl (by decide) rfl (fun ls hl => ?_)
  refine lv_goto (tgt := 157) hx hb dX9_findFar_236 (by decide) ?_
  obtain ⟨h_3, hw⟩ := hw
  exact hk157 x1 x2 (x3 + 1) h1 h2 h_3 _ _ _ _ hw I (lv_sub hl [1, 2, 3, 0] rfl)
set_option maxRecDepth 100000 in
set_option maxHeartbeats 4000000 in
theorem bX9_findFar_157 {p : Program} {l : Launch} {e : Env} {s : State} {m : MethodId} {args : Array Value} {below : List Frame} {meth : Method} {c : Code} {g : GP} (C : Cx p m c cX9_findFar 5 s args lw_g RX9 meth none) (post : Mem → Prop) (k137 : Int → Mem → Prop) (k147 : Int → Int → Mem → Prop) (hk137 : ∀ (x1 : Int), inR x1 → ∀ (M : Mem) (H : Heap) (locs : List Loc) (ls : Array Slot), k137 x1 M → IR g s M H locs → lv_has ls 5 [(0, .ref (g.2.2.2 0)), (1, .int (i32 x1))] → W p l e rmX9_findFar s m args below meth c H locs 0 0 (QVR below args s g post) (F0 m 137 ls [])) (hk147 : ∀ (x1 x2 : Int), inR x1 → inR x2 → ∀ (M : Mem) (H : Heap) (locs : List Loc) (ls : Array Slot), k147 x1 x2 M → IR g s M H locs → lv_has ls 5 [(0, .ref (g.2.2.2 0)), (1, .int (i32 x1)), (2, .int (i32 x2))] → W p l e rmX9_findFar s m args below meth c H locs 0 0 (QVR below args s g post) (F0 m 147 ls [])) : ∀ (n : Nat), ∀ (x1 x2 x3 : Int), inR x1 → inR x2 → inR x3 → ∀ (M : Mem) (H : Heap) (locs : List Loc) (ls : Array Slot), lpX9_findFar_157 post k137 k147 n x1 x2 x3 M → IR g s M H locs → lv_has ls 5 [(0, .ref (g.2.2.2 0)), (1, .int (i32 x1)), (2, .int (i32 x2)), (3, .int (i32 x3))] → W p l e rmX9_findFar s m args below meth c H locs 0 0 (QVR below args s g post) (F0 m 157 ls []) := by
  obtain ⟨⟨hx, hb, hml, hown, hts⟩, hr, hlk⟩ := id C
  intro n
  induction n with
  | zero =>
    intro x1 x2 x3 h1 h2 h3 M H locs ls hw
    exact hw.elim
  | succ n ih =>
    intro x1 x2 x3 h1 h2 h3 M H locs ls hw I hl
    refine lv_iload_n hx hb dX9_findFar_157 rfl (lv_at hl 3 rfl) ?_
    refine lv_aload_n hx hb dX9_findFar_158 rfl (lv_at hl 0 rfl) ?_
    refine rg_0_0 hx hb hts wu_X9 hown I wf_X9_86 dX9_findFar_159 ?_
    have h_1 := I.rng 0 0
    refine li_icmp_ge (tgt := 239) hx hb dX9_findFar_162 (by decide) h3 h_1 (fun c_2 => ?_) (fun c_2 => ?_)
    · replace hw := hw.1 c_2
      refine li_iinc (lv' := [(2, .int (i32 (x2 + 1))), (0, .ref (g.2.2.2 0)), (1, .int (i32 x1)), (3, .int (i32 x3))]) hx hb dX9_findFar_239 hl (k := 2) rfl (by decide) rfl (fun ls hl => ?_)
      refine lv_goto (tgt := 147) hx hb dX9_findFar_242 (by decide) ?_
      obtain ⟨h_3, hw⟩ := hw
      exact hk147 x1 (x2 + 1) h1 h_3 _ _ _ _ hw I (lv_sub hl [1, 2, 0] rfl)
    · replace hw := hw.2 c_2
      refine lv_aload_n hx hb dX9_findFar_165 rfl (lv_at hl 0 rfl) ?_
      refine rg_0_14 hx hb hts wu_X9 hown I wf_X9_37 dX9_findFar_166 ?_
      refine lv_bipush (v := i32 10) hx hb dX9_findFar_169 (by decide) ?_
      refine lv_iload_n hx hb dX9_findFar_171 rfl (lv_at hl 2 rfl) ?_
      refine li_imul hx hb dX9_findFar_172 ?_
      refine lv_iload_n hx hb dX9_findFar_173 rfl (lv_at hl 1 rfl) ?_
      refine li_iadd hx hb dX9_findFar_174 ?_
      obtain ⟨h_4, hw⟩ := hw
      refine r_iald hx hb I 10 lenR_10 (by decide) h_4 dX9_findFar_175 ?_
      have h_5 := I.rng 10 ((10 * x2) + x1)
      refine lv_aload_n hx hb dX9_findFar_176 rfl (lv_at hl 0 rfl) ?_
      refine rg_0_14 hx hb hts wu_X9 hown I wf_X9_37 dX9_findFar_177 ?_
      refine lv_bipush (v := i32 10) hx hb dX9_findFar_180 (by decide) ?_
      refine lv_iload_n hx hb dX9_findFar_182 rfl (lv_at hl 1 rfl) ?_
      refine li_imul hx hb dX9_findFar_183 ?_
      refine lv_iload_n hx hb dX9_findFar_184 rfl (lv_at hl 3 rfl) ?_
      refine li_iadd hx hb dX9_findFar_185 ?_
      obtain ⟨h_6, hw⟩ := hw
      refine r_iald hx hb I 10 lenR_10 (by decide) h_6 dX9_findFar_186 ?_
      have h_7 := I.rng 10 ((10 * x1) + x3)
      refine li_iadd hx hb dX9_findFar_187 ?_
      obtain ⟨h_8, hw⟩ := hw
      refine li_name (fun v188_8 ev188_8 => ?_)
      replace hw := hw v188_8 ev188_8
      have hv188_8 : inR v188_8 := ev188_8 ▸ h_8
      refine lv_istore (lv' := [(4, .int (i32 v188_8)), (0, .ref (g.2.2.2 0)), (1, .int (i32 x1)), (2, .int (i32 x2)), (3, .int (i32 x3))]) hx hb dX9_findFar_188 hl (by decide) rfl (fun ls hl => ?_)
      refine lv_aload_n hx hb dX9_findFar_190 rfl (lv_at hl 1 rfl) ?_
      refine rg_0_14 hx hb hts wu_X9 hown I wf_X9_37 dX9_findFar_191 ?_
      refine lv_bipush (v := i32 10) hx hb dX9_findFar_194 (by decide) ?_
      refine lv_iload_n hx hb dX9_findFar_196 rfl (lv_at hl 3 rfl) ?_
      refine li_imul hx hb dX9_findFar_197 ?_
      refine lv_iload_n hx hb dX9_findFar_198 rfl (lv_at hl 4 rfl) ?_
      refine li_iadd hx hb dX9_findFar_199 ?_
      refine lv_iload hx hb dX9_findFar_200 (lv_at hl 0 rfl) ?_
      refine lv_aload_n hx hb dX9_findFar_202 rfl (lv_at hl 1 rfl) ?_
      refine rg_0_14 hx hb hts wu_X9 hown I wf_X9_37 dX9_findFar_203 ?_
      refine lv_bipush (v := i32 10) hx hb dX9_findFar_206 (by decide) ?_
      refine lv_iload_n hx hb dX9_findFar_208 rfl (lv_at hl 3 rfl) ?_
      refine li_imul hx hb dX9_findFar_209 ?_
      refine lv_iload_n hx hb dX9_findFar_210 rfl (lv_at hl 4 rfl) ?_
      refine li_iadd hx hb dX9_findFar_211 ?_
      obtain ⟨h_10, hw⟩ := hw
      refine r_iald hx hb I 10 lenR_10 (by decide) h_10 dX9_findFar_212 ?_
      have h_11 := I.rng 10 ((10 * x2) + x3)
      refine li_icmp_ge (tgt := 221) hx hb dX9_findFar_213 (by decide) hv188_8 h_11 (fun c_12 => ?_) (fun c_12 => ?_)
      · replace hw := hw.1 c_12
        refine lv_aload_n hx hb dX9_findFar_221 rfl (lv_at hl 1 rfl) ?_
        refine rg_0_14 hx hb hts wu_X9 hown I wf_X9_37 dX9_findFar_222 ?_
        refine lv_bipush (v := i32 10) hx hb dX9_findFar_225 (by decide) ?_
        refine lv_iload_n hx hb dX9_findFar_227 rfl (lv_at hl 3 rfl) ?_
        refine li_imul hx hb dX9_findFar_228 ?_
        refine lv_iload_n hx hb dX9_findFar_229 rfl (lv_at hl 4 rfl) ?_
        refine li_iadd hx hb dX9_findFar_230 ?_
        obtain ⟨h_13, hw⟩ := hw
        refine r_iald hx hb I 10 lenR_10 (by decide) h_13 dX9_findFar_231 ?_
        have h_14 := I.rng 10 ((10 * x2) + x3)
        obtain ⟨h_15, hw⟩ := hw
        exact bX9_findFar_232 C post k137 k147 (fun y1 y2 y3 N => lpX9_findFar_157 post k137 k147 n y1 y2 y3 N) hk137 hk147 ih x1 x2 x3 (M 10 ((10 * x2) + x3)) ((10 * x2) + x3) h1 h2 h3 h_14 h_15 _ _ _ _ hw I (lv_sub hl [1, 2, 3, 4] rfl)
      · replace hw := hw.2 c_12
        refine lv_iload hx hb dX9_findFar_216 (lv_at hl 0 rfl) ?_
        refine lv_goto (tgt := 232) hx hb dX9_findFar_218 (by decide) ?_
        obtain ⟨h_16, hw⟩ := hw
        exact bX9_findFar_232 C post k137 k147 (fun y1 y2 y3 N => lpX9_findFar_157 post k137 k147 n y1 y2 y3 N) hk137 hk147 ih x1 x2 x3 v188_8 ((10 * x2) + x3) h1 h2 h3 hv188_8 h_16 _ _ _ _ hw I (lv_sub hl [1, 2, 3, 4] rfl)
set_option maxRecDepth 100000 in
set_option maxHeartbeats 4000000 in
theorem bX9_findFar_147 {p : Program} {l : Launch} {e : Env} {s : State} {m : MethodId} {args : Array Value} {below : List Frame} {meth : Method} {c : Code} {g : GP} (C : Cx p m c cX9_findFar 5 s args lw_g RX9 meth none) (post : Mem → Prop) (k137 : Int → Mem → Prop) (hk137 : ∀ (x1 : Int), inR x1 → ∀ (M : Mem) (H : Heap) (locs : List Loc) (ls : Array Slot), k137 x1 M → IR g s M H locs → lv_has ls 5 [(0, .ref (g.2.2.2 0)), (1, .int (i32 x1))] → W p l e rmX9_findFar s m args below meth c H locs 0 0 (QVR below args s g post) (F0 m 137 ls [])) : ∀ (n : Nat), ∀ (x1 x2 : Int), inR x1 → inR x2 → ∀ (M : Mem) (H : Heap) (locs : List Loc) (ls : Array Slot), lpX9_findFar_147 post k137 n x1 x2 M → IR g s M H locs → lv_has ls 5 [(0, .ref (g.2.2.2 0)), (1, .int (i32 x1)), (2, .int (i32 x2))] → W p l e rmX9_findFar s m args below meth c H locs 0 0 (QVR below args s g post) (F0 m 147 ls []) := by
  obtain ⟨⟨hx, hb, hml, hown, hts⟩, hr, hlk⟩ := id C
  intro n
  induction n with
  | zero =>
    intro x1 x2 h1 h2 M H locs ls hw
    exact hw.elim
  | succ n ih =>
    intro x1 x2 h1 h2 M H locs ls hw I hl
    refine lv_iload_n hx hb dX9_findFar_147 rfl (lv_at hl 2 rfl) ?_
    refine lv_aload_n hx hb dX9_findFar_148 rfl (lv_at hl 0 rfl) ?_
    refine rg_0_0 hx hb hts wu_X9 hown I wf_X9_86 dX9_findFar_149 ?_
    have h_1 := I.rng 0 0
    refine li_icmp_ge (tgt := 245) hx hb dX9_findFar_152 (by decide) h2 h_1 (fun c_2 => ?_) (fun c_2 => ?_)
    · replace hw := hw.1 c_2
      refine li_iinc (lv' := [(1, .int (i32 (x1 + 1))), (0, .ref (g.2.2.2 0)), (2, .int (i32 x2))]) hx hb dX9_findFar_245 hl (k := 1) rfl (by decide) rfl (fun ls hl => ?_)
      refine lv_goto (tgt := 137) hx hb dX9_findFar_248 (by decide) ?_
      obtain ⟨h_3, hw⟩ := hw
      exact hk137 (x1 + 1) h_3 _ _ _ _ hw I (lv_sub hl [1, 0] rfl)
    · replace hw := hw.2 c_2
      refine li_iconst hx hb dX9_findFar_155 ?_
      refine lv_istore_n (lv' := [(3, .int (i32 0)), (0, .ref (g.2.2.2 0)), (1, .int (i32 x1)), (2, .int (i32 x2))]) hx hb dX9_findFar_156 rfl hl (by decide) rfl (fun ls hl => ?_)
      obtain ⟨n1, hw⟩ := hw
      exact bX9_findFar_157 C post k137 (fun y1 y2 N => lpX9_findFar_147 post k137 n y1 y2 N) hk137 ih n1 x1 x2 0 h1 h2 (by decide) _ _ _ _ hw I (lv_sub hl [1, 2, 3, 0] rfl)
set_option maxRecDepth 100000 in
set_option maxHeartbeats 4000000 in
theorem bX9_findFar_137 {p : Program} {l : Launch} {e : Env} {s : State} {m : MethodId} {args : Array Value} {below : List Frame} {meth : Method} {c : Code} {g : GP} (C : Cx p m c cX9_findFar 5 s args lw_g RX9 meth none) (post : Mem → Prop) : ∀ (n : Nat), ∀ (x1 : Int), inR x1 → ∀ (M : Mem) (H : Heap) (locs : List Loc) (ls : Array Slot), lpX9_findFar_137 post n x1 M → IR g s M H locs → lv_has ls 5 [(0, .ref (g.2.2.2 0)), (1, .int (i32 x1))] → W p l e rmX9_findFar s m args below meth c H locs 0 0 (QVR below args s g post) (F0 m 137 ls []) := by
  obtain ⟨⟨hx, hb, hml, hown, hts⟩, hr, hlk⟩ := id C
  intro n
  induction n with
  | zero =>
    intro x1 h1 M H locs ls hw
    exact hw.elim
  | succ n ih =>
    intro x1 h1 M H locs ls hw I hl
    refine lv_iload_n hx hb dX9_findFar_137 rfl (lv_at hl 1 rfl) ?_
    refine lv_aload_n hx hb dX9_findFar_138 rfl (lv_at hl 0 rfl) ?_
    refine rg_0_0 hx hb hts wu_X9 hown I wf_X9_86 dX9_findFar_139 ?_
    have h_1 := I.rng 0 0
    refine li_icmp_ge (tgt := 251) hx hb dX9_findFar_142 (by decide) h1 h_1 (fun c_2 => ?_) (fun c_2 => ?_)
    · replace hw := hw.1 c_2
      exact g_vret hx hb hr hlk I hw dX9_findFar_251
    · replace hw := hw.2 c_2
      refine li_iconst hx hb dX9_findFar_145 ?_
      refine lv_istore_n (lv' := [(2, .int (i32 0)), (0, .ref (g.2.2.2 0)), (1, .int (i32 x1))]) hx hb dX9_findFar_146 rfl hl (by decide) rfl (fun ls hl => ?_)
      obtain ⟨n1, hw⟩ := hw
      exact bX9_findFar_147 C post (fun y1 N => lpX9_findFar_137 post n y1 N) ih n1 x1 0 h1 (by decide) _ _ _ _ hw I (lv_sub hl [1, 2, 0] rfl)
set_option maxRecDepth 100000 in
set_option maxHeartbeats 4000000 in
theorem bX9_findFar_116 {p : Program} {l : Launch} {e : Env} {s : State} {m : MethodId} {args : Array Value} {below : List Frame} {meth : Method} {c : Code} {g : GP} (C : Cx p m c cX9_findFar 5 s args lw_g RX9 meth none) (post : Mem → Prop) (k39 : Int → Mem → Prop) (hk39 : ∀ (x1 : Int), inR x1 → ∀ (M : Mem) (H : Heap) (locs : List Loc) (ls : Array Slot), k39 x1 M → IR g s M H locs → lv_has ls 5 [(0, .ref (g.2.2.2 0)), (1, .int (i32 x1))] → W p l e rmX9_findFar s m args below meth c H locs 0 0 (QVR below args s g post) (F0 m 39 ls [])) : ∀ (x1 x2 x3 t0 t1 : Int), inR x1 → inR x2 → inR x3 → inR t0 → inR t1 → ∀ (M : Mem) (H : Heap) (locs : List Loc) (ls : Array Slot), jbX9_findFar_116 post k39 x1 x2 x3 t0 t1 M → IR g s M H locs → lv_has ls 5 [(0, .ref (g.2.2.2 0)), (1, .int (i32 x1)), (2, .int (i32 x2)), (3, .int (i32 x3))] → W p l e rmX9_findFar s m args below meth c H locs 0 0 (QVR below args s g post) (F0 m 116 ls [.int (i32 t0), .int (i32 t1), .ref (g.2.2.2 10)]) := by
  obtain ⟨⟨hx, hb, hml, hown, hts⟩, hr, hlk⟩ := id C
  intro x1 x2 x3 t0 t1 h1 h2 h3 ht0 ht1 M H locs ls hw I hl
  obtain ⟨h_1, hw⟩ := hw
  refine r_iast hx hb I 10 lenR_10 (by decide) h_1 ht0 dX9_findFar_116 (fun H locs M116_1 eM116_1 I => ?_)
  replace hw := hw M116_1 eM116_1
  refine lv_aload_n hx hb dX9_findFar_117 rfl (lv_at hl 0 rfl) ?_
  refine rg_0_14 hx hb hts wu_X9 hown I wf_X9_37 dX9_findFar_118 ?_
  refine lv_iload_n hx hb dX9_findFar_121 rfl (lv_at hl 3 rfl) ?_
  refine lv_aload_n hx hb dX9_findFar_122 rfl (lv_at hl 0 rfl) ?_
  refine rg_0_14 hx hb hts wu_X9 hown I wf_X9_37 dX9_findFar_123 ?_
  refine lv_iload_n hx hb dX9_findFar_126 rfl (lv_at hl 2 rfl) ?_
  obtain ⟨h_3, hw⟩ := hw
  refine r_iald hx hb I 10 lenR_10 (by decide) h_3 dX9_findFar_127 ?_
  have h_4 := I.rng 10 x2
  obtain ⟨h_5, hw⟩ := hw
  refine r_iast hx hb I 10 lenR_10 (by decide) h_5 h_4 dX9_findFar_128 (fun H locs M128_5 eM128_5 I => ?_)
  replace hw := hw M128_5 eM128_5
  refine li_iinc (lv' := [(1, .int (i32 (x1 + 1))), (0, .ref (g.2.2.2 0)), (2, .int (i32 x2)), (3, .int (i32 x3))]) hx hb dX9_findFar_129 hl (k := 1) rfl (by decide) rfl (fun ls hl => ?_)
  refine lv_goto (tgt := 39) hx hb dX9_findFar_132 (by decide) ?_
  obtain ⟨h_7, hw⟩ := hw
  exact hk39 (x1 + 1) h_7 _ _ _ _ hw I (lv_sub hl [1, 0] rfl)
set_option maxRecDepth 100000 in
set_option maxHeartbeats 4000000 in
theorem bX9_findFar_39 {p : Program} {l : Launch} {e : Env} {s : State} {m : MethodId} {args : Array Value} {below : List Frame} {meth : Method} {c : Code} {g : GP} (C : Cx p m c cX9_findFar 5 s args lw_g RX9 meth none) (post : Mem → Prop) : ∀ (n : Nat), ∀ (x1 : Int), inR x1 → ∀ (M : Mem) (H : Heap) (locs : List Loc) (ls : Array Slot), lpX9_findFar_39 post n x1 M → IR g s M H locs → lv_has ls 5 [(0, .ref (g.2.2.2 0)), (1, .int (i32 x1))] → W p l e rmX9_findFar s m args below meth c H locs 0 0 (QVR below args s g post) (F0 m 39 ls []) := by
  obtain ⟨⟨hx, hb, hml, hown, hts⟩, hr, hlk⟩ := id C
  intro n
  induction n with
  | zero =>
    intro x1 h1 M H locs ls hw
    exact hw.elim
  | succ n ih =>
    intro x1 h1 M H locs ls hw I hl
    refine lv_iload_n hx hb dX9_findFar_39 rfl (lv_at hl 1 rfl) ?_
    refine lv_aload_n hx hb dX9_findFar_40 rfl (lv_at hl 0 rfl) ?_
    refine rg_0_1 hx hb hts wu_X9 hown I wf_X9_108 dX9_findFar_41 ?_
    have h_1 := I.rng 0 1
    refine li_icmp_ge (tgt := 135) hx hb dX9_findFar_44 (by decide) h1 h_1 (fun c_2 => ?_) (fun c_2 => ?_)
    · replace hw := hw.1 c_2
      refine li_iconst hx hb dX9_findFar_135 ?_
      refine lv_istore_n (lv' := [(1, .int (i32 0)), (0, .ref (g.2.2.2 0))]) hx hb dX9_findFar_136 rfl hl (by decide) rfl (fun ls hl => ?_)
      obtain ⟨n1, hw⟩ := hw
      exact bX9_findFar_137 C post n1 0 (by decide) _ _ _ _ hw I (lv_sub hl [1, 0] rfl)
    · replace hw := hw.2 c_2
      refine lv_bipush (v := i32 10) hx hb dX9_findFar_47 (by decide) ?_
      refine lv_aload_n hx hb dX9_findFar_49 rfl (lv_at hl 0 rfl) ?_
      refine rg_0_2 hx hb hts wu_X9 hown I wf_X9_7 dX9_findFar_50 ?_
      refine lv_iload_n hx hb dX9_findFar_53 rfl (lv_at hl 1 rfl) ?_
      obtain ⟨h_3, hw⟩ := hw
      refine r_iald hx hb I 1 lenR_1 (by decide) h_3 dX9_findFar_54 ?_
      have h_4 := I.rng 1 x1
      refine li_imul hx hb dX9_findFar_55 ?_
      refine lv_aload_n hx hb dX9_findFar_56 rfl (lv_at hl 0 rfl) ?_
      refine rg_0_3 hx hb hts wu_X9 hown I wf_X9_13 dX9_findFar_57 ?_
      refine lv_iload_n hx hb dX9_findFar_60 rfl (lv_at hl 1 rfl) ?_
      obtain ⟨h_5, hw⟩ := hw
      refine r_iald hx hb I 2 lenR_2 (by decide) h_5 dX9_findFar_61 ?_
      have h_6 := I.rng 2 x1
      refine li_iadd hx hb dX9_findFar_62 ?_
      obtain ⟨h_7, hw⟩ := hw
      refine li_name (fun v63_7 ev63_7 => ?_)
      replace hw := hw v63_7 ev63_7
      have hv63_7 : inR v63_7 := ev63_7 ▸ h_7
      refine lv_istore_n (lv' := [(2, .int (i32 v63_7)), (0, .ref (g.2.2.2 0)), (1, .int (i32 x1))]) hx hb dX9_findFar_63 rfl hl (by decide) rfl (fun ls hl => ?_)
      refine lv_bipush (v := i32 10) hx hb dX9_findFar_64 (by decide) ?_
      refine lv_aload_n hx hb dX9_findFar_66 rfl (lv_at hl 1 rfl) ?_
      refine rg_0_3 hx hb hts wu_X9 hown I wf_X9_13 dX9_findFar_67 ?_
      refine lv_iload_n hx hb dX9_findFar_70 rfl (lv_at hl 2 rfl) ?_
      obtain ⟨h_9, hw⟩ := hw
      refine r_iald hx hb I 2 lenR_2 (by decide) h_9 dX9_findFar_71 ?_
      have h_10 := I.rng 2 x1
      refine li_imul hx hb dX9_findFar_72 ?_
      refine lv_aload_n hx hb dX9_findFar_73 rfl (lv_at hl 1 rfl) ?_
      refine rg_0_2 hx hb hts wu_X9 hown I wf_X9_7 dX9_findFar_74 ?_
      refine lv_iload_n hx hb dX9_findFar_77 rfl (lv_at hl 2 rfl) ?_
      obtain ⟨h_11, hw⟩ := hw
      refine r_iald hx hb I 1 lenR_1 (by decide) h_11 dX9_findFar_78 ?_
      have h_12 := I.rng 1 x1
      refine li_iadd hx hb dX9_findFar_79 ?_
      obtain ⟨h_13, hw⟩ := hw
      refine li_name (fun v80_13 ev80_13 => ?_)
      replace hw := hw v80_13 ev80_13
      have hv80_13 : inR v80_13 := ev80_13 ▸ h_13
      refine lv_istore_n (lv' := [(3, .int (i32 v80_13)), (2, .int (i32 v63_7)), (0, .ref (g.2.2.2 0)), (1, .int (i32 x1))]) hx hb dX9_findFar_80 rfl hl (by decide) rfl (fun ls hl => ?_)
      refine lv_aload_n hx hb dX9_findFar_81 rfl (lv_at hl 2 rfl) ?_
      refine rg_0_14 hx hb hts wu_X9 hown I wf_X9_37 dX9_findFar_82 ?_
      refine lv_iload_n hx hb dX9_findFar_85 rfl (lv_at hl 1 rfl) ?_
      refine lv_aload_n hx hb dX9_findFar_86 rfl (lv_at hl 2 rfl) ?_
      refine rg_0_4 hx hb hts wu_X9 hown I wf_X9_16 dX9_findFar_87 ?_
      refine lv_iload_n hx hb dX9_findFar_90 rfl (lv_at hl 3 rfl) ?_
      obtain ⟨h_15, hw⟩ := hw
      refine r_iald hx hb I 3 lenR_3 (by decide) h_15 dX9_findFar_91 ?_
      have h_16 := I.rng 3 x1
      refine lv_aload_n hx hb dX9_findFar_92 rfl (lv_at hl 2 rfl) ?_
      refine rg_0_14 hx hb hts wu_X9 hown I wf_X9_37 dX9_findFar_93 ?_
      refine lv_iload_n hx hb dX9_findFar_96 rfl (lv_at hl 1 rfl) ?_
      obtain ⟨h_17, hw⟩ := hw
      refine r_iald hx hb I 10 lenR_10 (by decide) h_17 dX9_findFar_97 ?_
      have h_18 := I.rng 10 v63_7
      refine li_icmp_ge (tgt := 110) hx hb dX9_findFar_98 (by decide) h_16 h_18 (fun c_19 => ?_) (fun c_19 => ?_)
      · replace hw := hw.1 c_19
        refine lv_aload_n hx hb dX9_findFar_110 rfl (lv_at hl 2 rfl) ?_
        refine rg_0_14 hx hb hts wu_X9 hown I wf_X9_37 dX9_findFar_111 ?_
        refine lv_iload_n hx hb dX9_findFar_114 rfl (lv_at hl 1 rfl) ?_
        obtain ⟨h_20, hw⟩ := hw
        refine r_iald hx hb I 10 lenR_10 (by decide) h_20 dX9_findFar_115 ?_
        have h_21 := I.rng 10 v63_7
        exact bX9_findFar_116 C post (fun y1 N => lpX9_findFar_39 post n y1 N) ih x1 v63_7 v80_13 (M 10 v63_7) v63_7 h1 hv63_7 hv80_13 h_21 hv63_7 _ _ _ _ hw I (lv_sub hl [2, 3, 1, 0] rfl)
      · replace hw := hw.2 c_19
        refine lv_aload_n hx hb dX9_findFar_101 rfl (lv_at hl 2 rfl) ?_
        refine rg_0_4 hx hb hts wu_X9 hown I wf_X9_16 dX9_findFar_102 ?_
        refine lv_iload_n hx hb dX9_findFar_105 rfl (lv_at hl 3 rfl) ?_
        obtain ⟨h_22, hw⟩ := hw
        refine r_iald hx hb I 3 lenR_3 (by decide) h_22 dX9_findFar_106 ?_
        have h_23 := I.rng 3 x1
        refine lv_goto (tgt := 116) hx hb dX9_findFar_107 (by decide) ?_
        exact bX9_findFar_116 C post (fun y1 N => lpX9_findFar_39 post n y1 N) ih x1 v63_7 v80_13 (M 3 x1) v63_7 h1 hv63_7 hv80_13 h_23 hv63_7 _ _ _ _ hw I (lv_sub hl [2, 3, 1, 0] rfl)
set_option maxRecDepth 100000 in
set_option maxHeartbeats 4000000 in
theorem bX9_findFar_30 {p : Program} {l : Launch} {e : Env} {s : State} {m : MethodId} {args : Array Value} {below : List Frame} {meth : Method} {c : Code} {g : GP} (C : Cx p m c cX9_findFar 5 s args lw_g RX9 meth none) (post : Mem → Prop) (k2 : Int → Mem → Prop) (hk2 : ∀ (x1 : Int), inR x1 → ∀ (M : Mem) (H : Heap) (locs : List Loc) (ls : Array Slot), k2 x1 M → IR g s M H locs → lv_has ls 5 [(0, .ref (g.2.2.2 0)), (1, .int (i32 x1))] → W p l e rmX9_findFar s m args below meth c H locs 0 0 (QVR below args s g post) (F0 m 2 ls [])) : ∀ (x1 t0 t1 : Int), inR x1 → inR t0 → inR t1 → ∀ (M : Mem) (H : Heap) (locs : List Loc) (ls : Array Slot), jbX9_findFar_30 post k2 x1 t0 t1 M → IR g s M H locs → lv_has ls 5 [(0, .ref (g.2.2.2 0)), (1, .int (i32 x1))] → W p l e rmX9_findFar s m args below meth c H locs 0 0 (QVR below args s g post) (F0 m 30 ls [.int (i32 t0), .int (i32 t1), .ref (g.2.2.2 10)]) := by
  obtain ⟨⟨hx, hb, hml, hown, hts⟩, hr, hlk⟩ := id C
  intro x1 t0 t1 h1 ht0 ht1 M H locs ls hw I hl
  obtain ⟨h_1, hw⟩ := hw
  refine r_iast hx hb I 10 lenR_10 (by decide) h_1 ht0 dX9_findFar_30 (fun H locs M30_1 eM30_1 I => ?_)
  replace hw := hw M30_1 eM30_1
  refine li_iinc (lv' := [(1, .int (i32 (x1 + 1))), (0, .ref (g.2.2.2 0))]) hx hb dX9_findFar_31 hl (k := 1) rfl (by decide) rfl (fun ls hl => ?_)
  refine lv_goto (tgt := 2) hx hb dX9_findFar_34 (by decide) ?_
  obtain ⟨h_3, hw⟩ := hw
  exact hk2 (x1 + 1) h_3 _ _ _ _ hw I (lv_sub hl [1, 0] rfl)
set_option maxRecDepth 100000 in
set_option maxHeartbeats 4000000 in
theorem bX9_findFar_2 {p : Program} {l : Launch} {e : Env} {s : State} {m : MethodId} {args : Array Value} {below : List Frame} {meth : Method} {c : Code} {g : GP} (C : Cx p m c cX9_findFar 5 s args lw_g RX9 meth none) (post : Mem → Prop) : ∀ (n : Nat), ∀ (x1 : Int), inR x1 → ∀ (M : Mem) (H : Heap) (locs : List Loc) (ls : Array Slot), lpX9_findFar_2 post n x1 M → IR g s M H locs → lv_has ls 5 [(0, .ref (g.2.2.2 0)), (1, .int (i32 x1))] → W p l e rmX9_findFar s m args below meth c H locs 0 0 (QVR below args s g post) (F0 m 2 ls []) := by
  obtain ⟨⟨hx, hb, hml, hown, hts⟩, hr, hlk⟩ := id C
  intro n
  induction n with
  | zero =>
    intro x1 h1 M H locs ls hw
    exact hw.elim
  | succ n ih =>
    intro x1 h1 M H locs ls hw I hl
    refine lv_iload_n hx hb dX9_findFar_2 rfl (lv_at hl 1 rfl) ?_
    refine lv_bipush (v := i32 100) hx hb dX9_findFar_3 (by decide) ?_
    refine li_icmp_ge (tgt := 37) hx hb dX9_findFar_5 (by decide) h1 (by decide) (fun c_1 => ?_) (fun c_1 => ?_)
    · replace hw := hw.1 c_1
      refine li_iconst hx hb dX9_findFar_37 ?_
      refine lv_istore_n (lv' := [(1, .int (i32 0)), (0, .ref (g.2.2.2 0))]) hx hb dX9_findFar_38 rfl hl (by decide) rfl (fun ls hl => ?_)
      obtain ⟨n1, hw⟩ := hw
      exact bX9_findFar_39 C post n1 0 (by decide) _ _ _ _ hw I (lv_sub hl [1, 0] rfl)
    · replace hw := hw.2 c_1
      refine lv_aload_n hx hb dX9_findFar_8 rfl (lv_at hl 0 rfl) ?_
      refine rg_0_14 hx hb hts wu_X9 hown I wf_X9_37 dX9_findFar_9 ?_
      refine lv_iload_n hx hb dX9_findFar_12 rfl (lv_at hl 1 rfl) ?_
      refine lv_iload_n hx hb dX9_findFar_13 rfl (lv_at hl 1 rfl) ?_
      refine lv_bipush (v := i32 10) hx hb dX9_findFar_14 (by decide) ?_
      obtain ⟨h_2, hw⟩ := hw
      refine li_idiv hx hb dX9_findFar_16 h1 h_2 (by decide) (by decide) ?_
      refine lv_iload_n hx hb dX9_findFar_17 rfl (lv_at hl 1 rfl) ?_
      refine lv_bipush (v := i32 10) hx hb dX9_findFar_18 (by decide) ?_
      obtain ⟨h_3, hw⟩ := hw
      refine li_irem hx hb dX9_findFar_20 h1 h_3 (by decide) (by decide) ?_
      obtain ⟨h_5, hw⟩ := hw
      obtain ⟨h_6, hw⟩ := hw
      refine li_icmp_ne (tgt := 28) hx hb dX9_findFar_21 (by decide) h_5 h_6 (fun c_4 => ?_) (fun c_4 => ?_)
      · replace hw := hw.1 c_4
        refine lv_ldc (v := i32 1000000000) hx hb hown (hts _ wk_X9_115) dX9_findFar_28 ?_
        exact bX9_findFar_30 C post (fun y1 N => lpX9_findFar_2 post n y1 N) ih x1 1000000000 x1 h1 (by decide) h1 _ _ _ _ hw I (lv_sub hl [0, 1] rfl)
      · replace hw := hw.2 c_4
        refine li_iconst hx hb dX9_findFar_24 ?_
        refine lv_goto (tgt := 30) hx hb dX9_findFar_25 (by decide) ?_
        exact bX9_findFar_30 C post (fun y1 N => lpX9_findFar_2 post n y1 N) ih x1 0 x1 h1 (by decide) h1 _ _ _ _ hw I (lv_sub hl [0, 1] rfl)
set_option maxRecDepth 100000 in
set_option maxHeartbeats 4000000 in
theorem mX9_findFar (l : Launch) (g : GP) (M : Mem) (post : Mem → Prop) (sz : Nat) (hw : wpX9_findFar M post) : MVR l yX9_findFar wtX9_findFar rmX9_findFar g [.ref (g.2.2.2 0)] M sz post := by
  refine Met.ofW (cc := cX9_findFar) (maxL := 5) (ret := none) (by decide) rfl ?_
  intro p e s m args below meth c s₁ B hml hv
  obtain ⟨rfl, hpre⟩ := hv
  have hsz := hpre.1
  subst hsz
  have C : Cx p m c cX9_findFar 5 s _ lw_g RX9 meth none := ⟨⟨B.exec, B.bytes, hml, findClass_of_methodNamed B.named, fun w h => atoms_spec (ws := wtX9_findFar) B.pre w (List.mem_cons_of_mem _ h)⟩, B.returns, B.notSynchronized⟩
  obtain ⟨⟨hx, hb, hml, hown, hts⟩, hr, hlk⟩ := id C
  have I := InG.start hpre
  have hl := lv_entry ([.ref (g.2.2.2 0)]) (n := 5) (Nat.le_of_ble_eq_true rfl)
  rw [lg_entry_eq]
  generalize (lg_sl ([.ref (g.2.2.2 0)]) ++ List.replicate (5 - (lg_sl ([.ref (g.2.2.2 0)])).length) Slot.unset).toArray = ls at hl ⊢
  have hl : lv_has ls 5 [(0, .ref (g.2.2.2 0))] := hl
  show W p l e rmX9_findFar s m _ below meth c s.heap [] 0 0 (QVR below _ s g post) _
  refine li_iconst hx hb dX9_findFar_0 ?_
  refine lv_istore_n (lv' := [(1, .int (i32 0)), (0, .ref (g.2.2.2 0))]) hx hb dX9_findFar_1 rfl hl (by decide) rfl (fun ls hl => ?_)
  obtain ⟨n1, hw⟩ := hw
  exact bX9_findFar_2 C post n1 0 (by decide) _ _ _ _ hw I (lv_sub hl [1, 0] rfl)
