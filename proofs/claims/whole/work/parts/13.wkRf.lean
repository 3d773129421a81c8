abbrev rmX9_draft : Room := { frames := 2, cells := 0, slots := 0, locals := 43 }
abbrev wtX9_draft : List Cond := Cond.code yX9_draft cX9_draft 5 (some .int) :: lw_g
set_option maxRecDepth 100000 in
set_option maxHeartbeats 4000000 in
theorem bX9_draft_16 {p : Program} {l : Launch} {e : Env} {s : State} {m : MethodId} {args : Array Value} {below : List Frame} {meth : Method} {c : Code} {g : GP} (C : Cx p m c cX9_draft 5 s args lw_g RX9 meth (some .int)) (post : Int → Mem → Prop) : ∀ (M : Mem) (H : Heap) (locs : List Loc) (ls : Array Slot), jbX9_draft_16 post  M → IR g s M H locs → lv_has ls 5 [(0, .ref (g.2.2.2 0))] → W p l e rmX9_draft s m args below meth c H locs 0 0 (QIR below args s g post) (F0 m 16 ls []) := by
  obtain ⟨⟨hx, hb, hml, hown, hts⟩, hr, hlk⟩ := id C
  intro M H locs ls hw I hl
  refine lv_bipush (v := i32 (-2)) hx hb dX9_draft_16 (by decide) ?_
  exact g_iret hx hb hr hlk I (by decide) hw dX9_draft_18
set_option maxRecDepth 100000 in
set_option maxHeartbeats 4000000 in
theorem mX9_draft (l : Launch) (g : GP) (a1 a2 a3 : Int) (ha1 : inR a1) (ha2 : inR a2) (ha3 : inR a3) (M : Mem) (post : Int → Mem → Prop) (sz : Nat) (hw : wpX9_draft a1 a2 a3 M post) : MIR l yX9_draft wtX9_draft rmX9_draft g [.ref (g.2.2.2 0), .int (i32 a1), .int (i32 a2), .int (i32 a3)] M sz post := by
  refine Met.ofW (cc := cX9_draft) (maxL := 5) (ret := (some .int)) (by decide) rfl ?_
  intro p e s m args below meth c s₁ B hml hv
  obtain ⟨rfl, hpre⟩ := hv
  have hsz := hpre.1
  subst hsz
  have C : Cx p m c cX9_draft 5 s _ lw_g RX9 meth (some .int) := ⟨⟨B.exec, B.bytes, hml, findClass_of_methodNamed B.named, fun w h => atoms_spec (ws := wtX9_draft) B.pre w (List.mem_cons_of_mem _ h)⟩, B.returns, B.notSynchronized⟩
  obtain ⟨⟨hx, hb, hml, hown, hts⟩, hr, hlk⟩ := id C
  have I := InG.start hpre
  have hl := lv_entry ([.ref (g.2.2.2 0), .int (i32 a1), .int (i32 a2), .int (i32 a3)]) (n := 5) (Nat.le_of_ble_eq_true rfl)
  rw [lg_entry_eq]
  generalize (lg_sl ([.ref (g.2.2.2 0), .int (i32 a1), .int (i32 a2), .int (i32 a3)]) ++ List.replicate (5 - (lg_sl ([.ref (g.2.2.2 0), .int (i32 a1), .int (i32 a2), .int (i32 a3)])).length) Slot.unset).toArray = ls at hl ⊢
  have hl : lv_has ls 5 [(0, .ref (g.2.2.2 0)), (1, .int (i32 a1)), (2, .int (i32 a2)), (3, .int (i32 a3))] := hl
  show W p l e rmX9_draft s m _ below meth c s.heap [] 0 0 (QIR below _ s g post) _
  refine lv_aload_n hx hb dX9_draft_0 rfl (lv_at hl 0 rfl) ?_
  refine lv_iload_n hx hb dX9_draft_1 rfl (lv_at hl 1 rfl) ?_
  refine g_callVi (o := 0) (As := [.int (i32 a1)]) (rest := []) ⟨hx, hb, hml, hown, hts⟩ I (mX9_isPlace l g a1 ha1 M _ _ hw) (cwV 1 hts (gd_V wm_X9_104 wi_X9_isPlace wl_X9_isPlace wn_X9 wc_X9_isPlace) rfl rfl rfl wd_X9_isPlace ⟨Nat.le_of_ble_eq_true rfl, Nat.le_of_ble_eq_true rfl⟩) (by omega) (by omega) obR_0 rfl rfl hl.1 rfl (Nat.le_of_ble_eq_true rfl) dX9_draft_2 ⟨Nat.zero_le _, Nat.zero_le _⟩ (fun r2_0 M2_0 H locs hr2_0 hw I => ?_)
  refine li_if_eq (tgt := 16) hx hb dX9_draft_5 (by decide) hr2_0 (fun c_2 => ?_) (fun c_2 => ?_)
  · replace hw := hw.1 c_2
    exact bX9_draft_16 C post _ _ _ _ hw I (lv_sub hl [0] rfl)
  · replace hw := hw.2 c_2
    refine lv_aload_n hx hb dX9_draft_8 rfl (lv_at hl 0 rfl) ?_
    refine lv_iload_n hx hb dX9_draft_9 rfl (lv_at hl 2 rfl) ?_
    refine g_callVi (o := 0) (As := [.int (i32 a2)]) (rest := []) ⟨hx, hb, hml, hown, hts⟩ I (mX9_isPlace l g a2 ha2 M2_0 _ _ hw) (cwV 1 hts (gd_V wm_X9_104 wi_X9_isPlace wl_X9_isPlace wn_X9 wc_X9_isPlace) rfl rfl rfl wd_X9_isPlace ⟨Nat.le_of_ble_eq_true rfl, Nat.le_of_ble_eq_true rfl⟩) (by omega) (by omega) obR_0 rfl rfl hl.1 rfl (Nat.le_of_ble_eq_true rfl) dX9_draft_10 ⟨Nat.zero_le _, Nat.zero_le _⟩ (fun r10_2 M10_2 H locs hr10_2 hw I => ?_)
    refine li_if_ne (tgt := 19) hx hb dX9_draft_13 (by decide) hr10_2 (fun c_4 => ?_) (fun c_4 => ?_)
    · replace hw := hw.1 c_4
      refine lv_iload_n hx hb dX9_draft_19 rfl (lv_at hl 3 rfl) ?_
      refine li_iconst hx hb dX9_draft_20 ?_
      refine lv_sipush (v := i32 10000) hx hb dX9_draft_21 (by decide) ?_
      refine g_callSi (As := [.int (i32 a3), .int (i32 0), .int (i32 10000)]) (rest := []) ⟨hx, hb, hml, hown, hts⟩ I (mX9_in l g a3 0 10000 ha3 (by decide) (by decide) M10_2 _ _ hw) (va_cwS 3 hts (gd_S wm_X9_90 wa_X9_in wn_X9 wc_X9_in) rfl rfl rfl wd_X9_in ⟨Nat.le_of_ble_eq_true rfl, Nat.le_of_ble_eq_true rfl⟩) rfl hl.1 rfl (Nat.le_of_ble_eq_true rfl) dX9_draft_24 ⟨Nat.zero_le _, Nat.zero_le _⟩ (fun r24_4 M24_4 H locs hr24_4 hw I => ?_)
      refine li_if_ne (tgt := 33) hx hb dX9_draft_27 (by decide) hr24_4 (fun c_6 => ?_) (fun c_6 => ?_)
      · replace hw := hw.1 c_6
        refine lv_aload_n hx hb dX9_draft_33 rfl (lv_at hl 0 rfl) ?_
        refine rg_0_8 hx hb hts wu_X9 hown I wf_X9_25 dX9_draft_34 ?_
        refine lv_bipush (v := i32 10) hx hb dX9_draft_37 (by decide) ?_
        refine lv_iload_n hx hb dX9_draft_39 rfl (lv_at hl 1 rfl) ?_
        refine li_imul hx hb dX9_draft_40 ?_
        refine lv_iload_n hx hb dX9_draft_41 rfl (lv_at hl 2 rfl) ?_
        refine li_iadd hx hb dX9_draft_42 ?_
        obtain ⟨h_7, hw⟩ := hw
        refine r_iald hx hb I 6 lenR_6 (by decide) h_7 dX9_draft_43 ?_
        have h_8 := I.rng 6 ((10 * a1) + a2)
        refine li_name (fun v44_8 ev44_8 => ?_)
        replace hw := hw v44_8 ev44_8
        have hv44_8 : inR v44_8 := ev44_8 ▸ h_8
        refine lv_istore (lv' := [(4, .int (i32 v44_8)), (0, .ref (g.2.2.2 0)), (1, .int (i32 a1)), (2, .int (i32 a2)), (3, .int (i32 a3))]) hx hb dX9_draft_44 hl (by decide) rfl (fun ls hl => ?_)
        refine lv_aload_n hx hb dX9_draft_46 rfl (lv_at hl 1 rfl) ?_
        refine rg_0_8 hx hb hts wu_X9 hown I wf_X9_25 dX9_draft_47 ?_
        refine lv_bipush (v := i32 10) hx hb dX9_draft_50 (by decide) ?_
        refine lv_iload_n hx hb dX9_draft_52 rfl (lv_at hl 2 rfl) ?_
        refine li_imul hx hb dX9_draft_53 ?_
        refine lv_iload_n hx hb dX9_draft_54 rfl (lv_at hl 3 rfl) ?_
        refine li_iadd hx hb dX9_draft_55 ?_
        refine lv_iload_n hx hb dX9_draft_56 rfl (lv_at hl 4 rfl) ?_
        obtain ⟨h_10, hw⟩ := hw
        refine r_iast hx hb I 6 lenR_6 (by decide) h_10 ha3 dX9_draft_57 (fun H locs M57_10 eM57_10 I => ?_)
        replace hw := hw M57_10 eM57_10
        refine lv_iload hx hb dX9_draft_58 (lv_at hl 0 rfl) ?_
        exact g_iret hx hb hr hlk I hv44_8 hw dX9_draft_60
      · replace hw := hw.2 c_6
        refine lv_bipush (v := i32 (-3)) hx hb dX9_draft_30 (by decide) ?_
        exact g_iret hx hb hr hlk I (by decide) hw dX9_draft_32
    · replace hw := hw.2 c_4
      exact bX9_draft_16 C post _ _ _ _ hw I (lv_sub hl [0] rfl)
abbrev rmX9_clear : Room := { frames := 0, cells := 0, slots := 0, locals := 0 }
abbrev wtX9_clear : List Cond := Cond.code yX9_clear cX9_clear 3 (some .int) :: lw_g
set_option maxRecDepth 100000 in
set_option maxHeartbeats 4000000 in
theorem bX9_clear_25 {p : Program} {l : Launch} {e : Env} {s : State} {m : MethodId} {args : Array Value} {below : List Frame} {meth : Method} {c : Code} {g : GP} (C : Cx p m c cX9_clear 3 s args lw_g RX9 meth (some .int)) (post : Int → Mem → Prop) (k4 : Int → Int → Mem → Prop) (hk4 : ∀ (x1 x2 : Int), inR x1 → inR x2 → ∀ (M : Mem) (H : Heap) (locs : List Loc) (ls : Array Slot), k4 x1 x2 M → IR g s M H locs → lv_has ls 3 [(0, .ref (g.2.2.2 0)), (1, .int (i32 x1)), (2, .int (i32 x2))] → W p l e rmX9_clear s m args below meth c H locs 0 0 (QIR below args s g post) (F0 m 4 ls [])) : ∀ (x2 t0 t1 : Int), inR x2 → inR t0 → inR t1 → ∀ (M : Mem) (H : Heap) (locs : List Loc) (ls : Array Slot), jbX9_clear_25 post k4 x2 t0 t1 M → IR g s M H locs → lv_has ls 3 [(0, .ref (g.2.2.2 0)), (2, .int (i32 x2))] → W p l e rmX9_clear s m args below meth c H locs 0 0 (QIR below args s g post) (F0 m 25 ls [.int (i32 t0), .int (i32 t1)]) := by
  obtain ⟨⟨hx, hb, hml, hown, hts⟩, hr, hlk⟩ := id C
  intro x2 t0 t1 h2 ht0 ht1 M H locs ls hw I hl
  refine li_iadd hx hb dX9_clear_25 ?_
  obtain ⟨h_1, hw⟩ := hw
  refine li_name (fun v26_1 ev26_1 => ?_)
  replace hw := hw v26_1 ev26_1
  have hv26_1 : inR v26_1 := ev26_1 ▸ h_1
  refine lv_istore_n (lv' := [(1, .int (i32 v26_1)), (0, .ref (g.2.2.2 0)), (2, .int (i32 x2))]) hx hb dX9_clear_26 rfl hl (by decide) rfl (fun ls hl => ?_)
  refine lv_aload_n hx hb dX9_clear_27 rfl (lv_at hl 1 rfl) ?_
  refine rg_0_8 hx hb hts wu_X9 hown I wf_X9_25 dX9_clear_28 ?_
  refine lv_iload_n hx hb dX9_clear_31 rfl (lv_at hl 2 rfl) ?_
  refine li_iconst hx hb dX9_clear_32 ?_
  obtain ⟨h_3, hw⟩ := hw
  refine r_iast hx hb I 6 lenR_6 (by decide) h_3 (by decide) dX9_clear_33 (fun H locs M33_3 eM33_3 I => ?_)
  replace hw := hw M33_3 eM33_3
  refine li_iinc (lv' := [(2, .int (i32 (x2 + 1))), (1, .int (i32 v26_1)), (0, .ref (g.2.2.2 0))]) hx hb dX9_clear_34 hl (k := 2) rfl (by decide) rfl (fun ls hl => ?_)
  refine lv_goto (tgt := 4) hx hb dX9_clear_37 (by decide) ?_
  obtain ⟨h_5, hw⟩ := hw
  exact hk4 v26_1 (x2 + 1) hv26_1 h_5 _ _ _ _ hw I (lv_sub hl [2, 1, 0] rfl)
set_option maxRecDepth 100000 in
set_option maxHeartbeats 4000000 in
theorem bX9_clear_4 {p : Program} {l : Launch} {e : Env} {s : State} {m : MethodId} {args : Array Value} {below : List Frame} {meth : Method} {c : Code} {g : GP} (C : Cx p m c cX9_clear 3 s args lw_g RX9 meth (some .int)) (post : Int → Mem → Prop) : ∀ (n : Nat), ∀ (x1 x2 : Int), inR x1 → inR x2 → ∀ (M : Mem) (H : Heap) (locs : List Loc) (ls : Array Slot), lpX9_clear_4 post n x1 x2 M → IR g s M H locs → lv_has ls 3 [(0, .ref (g.2.2.2 0)), (1, .int (i32 x1)), (2, .int (i32 x2))] → W p l e rmX9_clear s m args below meth c H locs 0 0 (QIR below args s g post) (F0 m 4 ls []) := by
  obtain ⟨⟨hx, hb, hml, hown, hts⟩, hr, hlk⟩ := id C
  intro n
  induction n with
  | zero =>
    intro x1 x2 h1 h2 M H locs ls hw
    exact hw.elim
  | succ n ih =>
    intro x1 x2 h1 h2 M H locs ls hw I hl
    refine lv_iload_n hx hb dX9_clear_4 rfl (lv_at hl 2 rfl) ?_
    refine lv_bipush (v := i32 100) hx hb dX9_clear_5 (by decide) ?_
    refine li_icmp_ge (tgt := 40) hx hb dX9_clear_7 (by decide) h2 (by decide) (fun c_1 => ?_) (fun c_1 => ?_)
    · replace hw := hw.1 c_1
      refine lv_iload_n hx hb dX9_clear_40 rfl (lv_at hl 1 rfl) ?_
      exact g_iret hx hb hr hlk I h1 hw dX9_clear_41
    · replace hw := hw.2 c_1
      refine lv_iload_n hx hb dX9_clear_10 rfl (lv_at hl 1 rfl) ?_
      refine lv_aload_n hx hb dX9_clear_11 rfl (lv_at hl 0 rfl) ?_
      refine rg_0_8 hx hb hts wu_X9 hown I wf_X9_25 dX9_clear_12 ?_
      refine lv_iload_n hx hb dX9_clear_15 rfl (lv_at hl 2 rfl) ?_
      obtain ⟨h_2, hw⟩ := hw
      refine r_iald hx hb I 6 lenR_6 (by decide) h_2 dX9_clear_16 ?_
      have h_3 := I.rng 6 x2
      refine li_if_eq (tgt := 24) hx hb dX9_clear_17 (by decide) h_3 (fun c_4 => ?_) (fun c_4 => ?_)
      · replace hw := hw.1 c_4
        refine li_iconst hx hb dX9_clear_24 ?_
        exact bX9_clear_25 C post (fun y1 y2 N => lpX9_clear_4 post n y1 y2 N) ih x2 0 x1 h2 (by decide) h1 _ _ _ _ hw I (lv_sub hl [0, 2] rfl)
      · replace hw := hw.2 c_4
        refine li_iconst hx hb dX9_clear_20 ?_
        refine lv_goto (tgt := 25) hx hb dX9_clear_21 (by decide) ?_
        exact bX9_clear_25 C post (fun y1 y2 N => lpX9_clear_4 post n y1 y2 N) ih x2 1 x1 h2 (by decide) h1 _ _ _ _ hw I (lv_sub hl [0, 2] rfl)
set_option maxRecDepth 100000 in
set_option maxHeartbeats 4000000 in
theorem mX9_clear (l : Launch) (g : GP) (M : Mem) (post : Int → Mem → Prop) (sz : Nat) (hw : wpX9_clear M post) : MIR l yX9_clear wtX9_clear rmX9_clear g [.ref (g.2.2.2 0)] M sz post := by
  refine Met.ofW (cc := cX9_clear) (maxL := 3) (ret := (some .int)) (by decide) rfl ?_
  intro p e s m args below meth c s₁ B hml hv
  obtain ⟨rfl, hpre⟩ := hv
  have hsz := hpre.1
  subst hsz
  have C : Cx p m c cX9_clear 3 s _ lw_g RX9 meth (some .int) := ⟨⟨B.exec, B.bytes, hml, findClass_of_methodNamed B.named, fun w h => atoms_spec (ws := wtX9_clear) B.pre w (List.mem_cons_of_mem _ h)⟩, B.returns, B.notSynchronized⟩
  obtain ⟨⟨hx, hb, hml, hown, hts⟩, hr, hlk⟩ := id C
  have I := InG.start hpre
  have hl := lv_entry ([.ref (g.2.2.2 0)]) (n := 3) (Nat.le_of_ble_eq_true rfl)
  rw [lg_entry_eq]
  generalize (lg_sl ([.ref (g.2.2.2 0)]) ++ List.replicate (3 - (lg_sl ([.ref (g.2.2.2 0)])).length) Slot.unset).toArray = ls at hl ⊢
  have hl : lv_has ls 3 [(0, .ref (g.2.2.2 0))] := hl
  show W p l e rmX9_clear s m _ below meth c s.heap [] 0 0 (QIR below _ s g post) _
  refine li_iconst hx hb dX9_clear_0 ?_
  refine lv_istore_n (lv' := [(1, .int (i32 0)), (0, .ref (g.2.2.2 0))]) hx hb dX9_clear_1 rfl hl (by decide) rfl (fun ls hl => ?_)
  refine li_iconst hx hb dX9_clear_2 ?_
  refine lv_istore_n (lv' := [(2, .int (i32 0)), (1, .int (i32 0)), (0, .ref (g.2.2.2 0))]) hx hb dX9_clear_3 rfl hl (by decide) rfl (fun ls hl => ?_)
  obtain ⟨n1, hw⟩ := hw
  exact bX9_clear_4 C post n1 0 0 (by decide) (by decide) _ _ _ _ hw I (lv_sub hl [2, 1, 0] rfl)
abbrev rmX9_copy : Room := { frames := 3, cells := 0, slots := 0, locals := 76 }
abbrev wtX9_copy : List Cond := Cond.code yX9_copy cX9_copy 6 (some .int) :: lw_g
set_option maxRecDepth 100000 in
set_option maxHeartbeats 4000000 in
theorem bX9_copy_63 {p : Program} {l : Launch} {e : Env} {s : State} {m : MethodId} {args : Array Value} {below : List Frame} {meth : Method} {c : Code} {g : GP} (C : Cx p m c cX9_copy 6 s args lw_g RX9 meth (some .int)) (post : Int → Mem → Prop) (k25 : Int → Int → Mem → Prop) (hk25 : ∀ (x4 x5 : Int), inR x4 → inR x5 → ∀ (M : Mem) (H : Heap) (locs : List Loc) (ls : Array Slot), k25 x4 x5 M → IR g s M H locs → lv_has ls 6 [(0, .ref (g.2.2.2 0)), (4, .int (i32 x4)), (5, .int (i32 x5))] → W p l e rmX9_copy s m args below meth c H locs 0 0 (QIR below args s g post) (F0 m 25 ls [])) : ∀ (x5 t0 t1 : Int), inR x5 → inR t0 → inR t1 → ∀ (M : Mem) (H : Heap) (locs : List Loc) (ls : Array Slot), jbX9_copy_63 post k25 x5 t0 t1 M → IR g s M H locs → lv_has ls 6 [(0, .ref (g.2.2.2 0)), (5, .int (i32 x5))] → W p l e rmX9_copy s m args below meth c H locs 0 0 (QIR below args s g post) (F0 m 63 ls [.int (i32 t0), .int (i32 t1)]) := by
  obtain ⟨⟨hx, hb, hml, hown, hts⟩, hr, hlk⟩ := id C
  intro x5 t0 t1 h5 ht0 ht1 M H locs ls hw I hl
  refine li_iadd hx hb dX9_copy_63 ?_
  obtain ⟨h_1, hw⟩ := hw
  refine li_name (fun v64_1 ev64_1 => ?_)
  replace hw := hw v64_1 ev64_1
  have hv64_1 : inR v64_1 := ev64_1 ▸ h_1
  refine lv_istore (lv' := [(4, .int (i32 v64_1)), (0, .ref (g.2.2.2 0)), (5, .int (i32 x5))]) hx hb dX9_copy_64 hl (by decide) rfl (fun ls hl => ?_)
  refine li_iinc (lv' := [(5, .int (i32 (x5 + 1))), (4, .int (i32 v64_1)), (0, .ref (g.2.2.2 0))]) hx hb dX9_copy_66 hl (k := 2) rfl (by decide) rfl (fun ls hl => ?_)
  refine lv_goto (tgt := 25) hx hb dX9_copy_69 (by decide) ?_
  obtain ⟨h_3, hw⟩ := hw
  exact hk25 v64_1 (x5 + 1) hv64_1 h_3 _ _ _ _ hw I (lv_sub hl [2, 1, 0] rfl)
set_option maxRecDepth 100000 in
set_option maxHeartbeats 4000000 in
theorem bX9_copy_25 {p : Program} {l : Launch} {e : Env} {s : State} {m : MethodId} {args : Array Value} {below : List Frame} {meth : Method} {c : Code} {g : GP} (C : Cx p m c cX9_copy 6 s args lw_g RX9 meth (some .int)) (post : Int → Mem → Prop) : ∀ (n : Nat), ∀ (x4 x5 : Int), inR x4 → inR x5 → ∀ (M : Mem) (H : Heap) (locs : List Loc) (ls : Array Slot), lpX9_copy_25 post n x4 x5 M → IR g s M H locs → lv_has ls 6 [(0, .ref (g.2.2.2 0)), (4, .int (i32 x4)), (5, .int (i32 x5))] → W p l e rmX9_copy s m args below meth c H locs 0 0 (QIR below args s g post) (F0 m 25 ls []) := by
  obtain ⟨⟨hx, hb, hml, hown, hts⟩, hr, hlk⟩ := id C
  intro n
  induction n with
  | zero =>
    intro x4 x5 h4 h5 M H locs ls hw
    exact hw.elim
  | succ n ih =>
    intro x4 x5 h4 h5 M H locs ls hw I hl
    refine lv_iload hx hb dX9_copy_25 (lv_at hl 2 rfl) ?_
    refine lv_bipush (v := i32 100) hx hb dX9_copy_27 (by decide) ?_
    refine li_icmp_ge (tgt := 72) hx hb dX9_copy_29 (by decide) h5 (by decide) (fun c_1 => ?_) (fun c_1 => ?_)
    · replace hw := hw.1 c_1
      refine lv_iload hx hb dX9_copy_72 (lv_at hl 1 rfl) ?_
      exact g_iret hx hb hr hlk I h4 hw dX9_copy_74
    · replace hw := hw.2 c_1
      refine lv_aload_n hx hb dX9_copy_32 rfl (lv_at hl 0 rfl) ?_
      refine rg_0_8 hx hb hts wu_X9 hown I wf_X9_25 dX9_copy_33 ?_
      refine lv_iload hx hb dX9_copy_36 (lv_at hl 2 rfl) ?_
      refine lv_aload_n hx hb dX9_copy_38 rfl (lv_at hl 0 rfl) ?_
      refine rg_0_15 hx hb hts wu_X9 hown I wf_X9_40 dX9_copy_39 ?_
      refine lv_iload hx hb dX9_copy_42 (lv_at hl 2 rfl) ?_
      obtain ⟨h_2, hw⟩ := hw
      refine r_iald hx hb I 11 lenR_11 (by decide) h_2 dX9_copy_44 ?_
      have h_3 := I.rng 11 x5
      obtain ⟨h_4, hw⟩ := hw
      refine r_iast hx hb I 6 lenR_6 (by decide) h_4 h_3 dX9_copy_45 (fun H locs M45_4 eM45_4 I => ?_)
      replace hw := hw M45_4 eM45_4
      refine lv_iload hx hb dX9_copy_46 (lv_at hl 1 rfl) ?_
      refine lv_aload_n hx hb dX9_copy_48 rfl (lv_at hl 0 rfl) ?_
      refine rg_0_15 hx hb hts wu_X9 hown I wf_X9_40 dX9_copy_49 ?_
      refine lv_iload hx hb dX9_copy_52 (lv_at hl 2 rfl) ?_
      obtain ⟨h_6, hw⟩ := hw
      refine r_iald hx hb I 11 lenR_11 (by decide) h_6 dX9_copy_54 ?_
      have h_7 := I.rng 11 x5
      refine li_if_eq (tgt := 62) hx hb dX9_copy_55 (by decide) h_7 (fun c_8 => ?_) (fun c_8 => ?_)
      · replace hw := hw.1 c_8
        refine li_iconst hx hb dX9_copy_62 ?_
        exact bX9_copy_63 C post (fun y4 y5 N => lpX9_copy_25 post n y4 y5 N) ih x5 0 x4 h5 (by decide) h4 _ _ _ _ hw I (lv_sub hl [0, 2] rfl)
      · replace hw := hw.2 c_8
        refine li_iconst hx hb dX9_copy_58 ?_
        refine lv_goto (tgt := 63) hx hb dX9_copy_59 (by decide) ?_
        exact bX9_copy_63 C post (fun y4 y5 N => lpX9_copy_25 post n y4 y5 N) ih x5 1 x4 h5 (by decide) h4 _ _ _ _ hw I (lv_sub hl [0, 2] rfl)
set_option maxRecDepth 100000 in
set_option maxHeartbeats 4000000 in
theorem mX9_copy (l : Launch) (g : GP) (a1 a2 : Int) (ha1 : inR a1) (ha2 : inR a2) (M : Mem) (post : Int → Mem → Prop) (sz : Nat) (hw : wpX9_copy a1 a2 M post) : MIR l yX9_copy wtX9_copy rmX9_copy g [.ref (g.2.2.2 0), .int (i32 a1), .int (i32 a2)] M sz post := by
  refine Met.ofW (cc := cX9_copy) (maxL := 6) (ret := (some .int)) (by decide) rfl ?_
  intro p e s m args below meth c s₁ B hml hv
  obtain ⟨rfl, hpre⟩ := hv
  have hsz := hpre.1
  subst hsz
  have C : Cx p m c cX9_copy 6 s _ lw_g RX9 meth (some .int) := ⟨⟨B.exec, B.bytes, hml, findClass_of_methodNamed B.named, fun w h => atoms_spec (ws := wtX9_copy) B.pre w (List.mem_cons_of_mem _ h)⟩, B.returns, B.notSynchronized⟩
  obtain ⟨⟨hx, hb, hml, hown, hts⟩, hr, hlk⟩ := id C
  have I := InG.start hpre
  have hl := lv_entry ([.ref (g.2.2.2 0), .int (i32 a1), .int (i32 a2)]) (n := 6) (Nat.le_of_ble_eq_true rfl)
  rw [lg_entry_eq]
  generalize (lg_sl ([.ref (g.2.2.2 0), .int (i32 a1), .int (i32 a2)]) ++ List.replicate (6 - (lg_sl ([.ref (g.2.2.2 0), .int (i32 a1), .int (i32 a2)])).length) Slot.unset).toArray = ls at hl ⊢
  have hl : lv_has ls 6 [(0, .ref (g.2.2.2 0)), (1, .int (i32 a1)), (2, .int (i32 a2))] := hl
  show W p l e rmX9_copy s m _ below meth c s.heap [] 0 0 (QIR below _ s g post) _
  refine lv_aload_n hx hb dX9_copy_0 rfl (lv_at hl 0 rfl) ?_
  refine lv_iload_n hx hb dX9_copy_1 rfl (lv_at hl 1 rfl) ?_
  refine lv_iload_n hx hb dX9_copy_2 rfl (lv_at hl 2 rfl) ?_
  refine g_callVi (o := 0) (As := [.int (i32 a1), .int (i32 a2)]) (rest := []) ⟨hx, hb, hml, hown, hts⟩ I (mX9_against l g a1 a2 ha1 ha2 M _ _ hw) (cwV 2 hts (gd_V wm_X9_146 wi_X9_against wl_X9_against wn_X9 wc_X9_against) rfl rfl rfl wd_X9_against ⟨Nat.le_of_ble_eq_true rfl, Nat.le_of_ble_eq_true rfl⟩) (by omega) (by omega) obR_0 rfl rfl hl.1 rfl (Nat.le_of_ble_eq_true rfl) dX9_copy_3 ⟨Nat.zero_le _, Nat.zero_le _⟩ (fun r3_0 M3_0 H locs hr3_0 hw I => ?_)
  refine lv_istore_n (lv' := [(3, .int (i32 r3_0)), (0, .ref (g.2.2.2 0)), (1, .int (i32 a1)), (2, .int (i32 a2))]) hx hb dX9_copy_6 rfl hl (by decide) rfl (fun ls hl => ?_)
  refine lv_iload_n hx hb dX9_copy_7 rfl (lv_at hl 0 rfl) ?_
  refine li_if_eq (tgt := 13) hx hb dX9_copy_8 (by decide) hr3_0 (fun c_2 => ?_) (fun c_2 => ?_)
  · replace hw := hw.1 c_2
    refine lv_aload_n hx hb dX9_copy_13 rfl (lv_at hl 1 rfl) ?_
    refine lv_iload_n hx hb dX9_copy_14 rfl (lv_at hl 2 rfl) ?_
    refine lv_iload_n hx hb dX9_copy_15 rfl (lv_at hl 3 rfl) ?_
    refine g_callVv (o := 0) (As := [.int (i32 a1), .int (i32 a2)]) (rest := []) ⟨hx, hb, hml, hown, hts⟩ I (mX9_findPlan l g a1 a2 ha1 ha2 M3_0 _ _ hw) (cwV 2 hts (gd_V wm_X9_169 wi_X9_findPlan wl_X9_findPlan wn_X9 wc_X9_findPlan) rfl rfl rfl wd_X9_findPlan ⟨Nat.le_of_ble_eq_true rfl, Nat.le_of_ble_eq_true rfl⟩) (by omega) (by omega) obR_0 rfl rfl hl.1 rfl (Nat.le_of_ble_eq_true rfl) dX9_copy_16 ⟨Nat.zero_le _, Nat.zero_le _⟩ (fun M16_2 H locs hw I => ?_)
    refine li_iconst hx hb dX9_copy_19 ?_
    refine lv_istore (lv' := [(4, .int (i32 0)), (3, .int (i32 r3_0)), (0, .ref (g.2.2.2 0)), (1, .int (i32 a1)), (2, .int (i32 a2))]) hx hb dX9_copy_20 hl (by decide) rfl (fun ls hl => ?_)
    refine li_iconst hx hb dX9_copy_22 ?_
    refine lv_istore (lv' := [(5, .int (i32 0)), (4, .int (i32 0)), (3, .int (i32 r3_0)), (0, .ref (g.2.2.2 0)), (1, .int (i32 a1)), (2, .int (i32 a2))]) hx hb dX9_copy_23 hl (by decide) rfl (fun ls hl => ?_)
    obtain ⟨n1, hw⟩ := hw
    exact bX9_copy_25 C post n1 0 0 (by decide) (by decide) _ _ _ _ hw I (lv_sub hl [3, 1, 0] rfl)
  · replace hw := hw.2 c_2
    refine lv_iload_n hx hb dX9_copy_11 rfl (lv_at hl 0 rfl) ?_
    exact g_iret hx hb hr hlk I hr3_0 hw dX9_copy_12
abbrev rmX9_drafted : Room := { frames := 0, cells := 0, slots := 0, locals := 0 }
abbrev wtX9_drafted : List Cond := Cond.code yX9_drafted cX9_drafted 5 (some .int) :: lw_g
set_option maxRecDepth 100000 in
set_option maxHeartbeats 4000000 in
theorem bX9_drafted_40 {p : Program} {l : Launch} {e : Env} {s : State} {m : MethodId} {args : Array Value} {below : List Frame} {meth : Method} {c : Code} {g : GP} (C : Cx p m c cX9_drafted 5 s args lw_g RX9 meth (some .int)) (post : Int → Mem → Prop) (k5 : Int → Int → Int → Int → Mem → Prop) (hk5 : ∀ (x1 x2 x3 x4 : Int), inR x1 → inR x2 → inR x3 → inR x4 → ∀ (M : Mem) (H : Heap) (locs : List Loc) (ls : Array Slot), k5 x1 x2 x3 x4 M → IR g s M H locs → lv_has ls 5 [(0, .ref (g.2.2.2 0)), (1, .int (i32 x1)), (2, .int (i32 x2)), (3, .int (i32 x3)), (4, .int (i32 x4))] → W p l e rmX9_drafted s m args below meth c H locs 0 0 (QIR below args s g post) (F0 m 5 ls [])) : ∀ (x1 x2 x4 t0 t1 : Int), inR x1 → inR x2 → inR x4 → inR t0 → inR t1 → ∀ (M : Mem) (H : Heap) (locs : List Loc) (ls : Array Slot), jbX9_drafted_40 post k5 x1 x2 x4 t0 t1 M → IR g s M H locs → lv_has ls 5 [(0, .ref (g.2.2.2 0)), (1, .int (i32 x1)), (2, .int (i32 x2)), (4, .int (i32 x4))] → W p l e rmX9_drafted s m args below meth c H locs 0 0 (QIR below args s g post) (F0 m 40 ls [.int (i32 t0), .ref (g.2.2.2 6), .int (i32 t1)]) := by
  obtain ⟨⟨hx, hb, hml, hown, hts⟩, hr, hlk⟩ := id C
  intro x1 x2 x4 t0 t1 h1 h2 h4 ht0 ht1 M H locs ls hw I hl
  obtain ⟨h_1, hw⟩ := hw
  refine r_iald hx hb I 6 lenR_6 (by decide) h_1 dX9_drafted_40 ?_
  have h_2 := I.rng 6 t0
  refine li_iadd hx hb dX9_drafted_41 ?_
  obtain ⟨h_3, hw⟩ := hw
  refine li_name (fun v42_3 ev42_3 => ?_)
  replace hw := hw v42_3 ev42_3
  have hv42_3 : inR v42_3 := ev42_3 ▸ h_3
  refine lv_istore_n (lv' := [(3, .int (i32 v42_3)), (0, .ref (g.2.2.2 0)), (1, .int (i32 x1)), (2, .int (i32 x2)), (4, .int (i32 x4))]) hx hb dX9_drafted_42 rfl hl (by decide) rfl (fun ls hl => ?_)
  refine li_iinc (lv' := [(4, .int (i32 (x4 + 1))), (3, .int (i32 v42_3)), (0, .ref (g.2.2.2 0)), (1, .int (i32 x1)), (2, .int (i32 x2))]) hx hb dX9_drafted_43 hl (k := 4) rfl (by decide) rfl (fun ls hl => ?_)
  refine lv_goto (tgt := 5) hx hb dX9_drafted_46 (by decide) ?_
  obtain ⟨h_5, hw⟩ := hw
  exact hk5 x1 x2 v42_3 (x4 + 1) h1 h2 hv42_3 h_5 _ _ _ _ hw I (lv_sub hl [2, 3, 4, 1, 0] rfl)
set_option maxRecDepth 100000 in
set_option maxHeartbeats 4000000 in
theorem bX9_drafted_5 {p : Program} {l : Launch} {e : Env} {s : State} {m : MethodId} {args : Array Value} {below : List Frame} {meth : Method} {c : Code} {g : GP} (C : Cx p m c cX9_drafted 5 s args lw_g RX9 meth (some .int)) (post : Int → Mem → Prop) : ∀ (n : Nat), ∀ (x1 x2 x3 x4 : Int), inR x1 → inR x2 → inR x3 → inR x4 → ∀ (M : Mem) (H : Heap) (locs : List Loc) (ls : Array Slot), lpX9_drafted_5 post n x1 x2 x3 x4 M → IR g s M H locs → lv_has ls 5 [(0, .ref (g.2.2.2 0)), (1, .int (i32 x1)), (2, .int (i32 x2)), (3, .int (i32 x3)), (4, .int (i32 x4))] → W p l e rmX9_drafted s m args below meth c H locs 0 0 (QIR below args s g post) (F0 m 5 ls []) := by
  obtain ⟨⟨hx, hb, hml, hown, hts⟩, hr, hlk⟩ := id C
  intro n
  induction n with
  | zero =>
    intro x1 x2 x3 x4 h1 h2 h3 h4 M H locs ls hw
    exact hw.elim
  | succ n ih =>
    intro x1 x2 x3 x4 h1 h2 h3 h4 M H locs ls hw I hl
    refine lv_iload hx hb dX9_drafted_5 (lv_at hl 4 rfl) ?_
    refine lv_aload_n hx hb dX9_drafted_7 rfl (lv_at hl 0 rfl) ?_
    refine rg_0_0 hx hb hts wu_X9 hown I wf_X9_86 dX9_drafted_8 ?_
    have h_1 := I.rng 0 0
    refine li_icmp_ge (tgt := 49) hx hb dX9_drafted_11 (by decide) h4 h_1 (fun c_2 => ?_) (fun c_2 => ?_)
    · replace hw := hw.1 c_2
      refine lv_iload_n hx hb dX9_drafted_49 rfl (lv_at hl 3 rfl) ?_
      exact g_iret hx hb hr hlk I h3 hw dX9_drafted_50
    · replace hw := hw.2 c_2
      refine lv_iload_n hx hb dX9_drafted_14 rfl (lv_at hl 3 rfl) ?_
      refine lv_aload_n hx hb dX9_drafted_15 rfl (lv_at hl 0 rfl) ?_
      refine rg_0_8 hx hb hts wu_X9 hown I wf_X9_25 dX9_drafted_16 ?_
      refine lv_iload_n hx hb dX9_drafted_19 rfl (lv_at hl 2 rfl) ?_
      refine li_if_eq (tgt := 33) hx hb dX9_drafted_20 (by decide) h2 (fun c_3 => ?_) (fun c_3 => ?_)
      · replace hw := hw.1 c_3
        refine lv_bipush (v := i32 10) hx hb dX9_drafted_33 (by decide) ?_
        refine lv_iload hx hb dX9_drafted_35 (lv_at hl 4 rfl) ?_
        refine li_imul hx hb dX9_drafted_37 ?_
        refine lv_iload_n hx hb dX9_drafted_38 rfl (lv_at hl 1 rfl) ?_
        refine li_iadd hx hb dX9_drafted_39 ?_
        obtain ⟨h_4, hw⟩ := hw
        exact bX9_drafted_40 C post (fun y1 y2 y3 y4 N => lpX9_drafted_5 post n y1 y2 y3 y4 N) ih x1 x2 x4 ((10 * x4) + x1) x3 h1 h2 h4 h_4 h3 _ _ _ _ hw I (lv_sub hl [0, 1, 2, 4] rfl)
      · replace hw := hw.2 c_3
        refine lv_bipush (v := i32 10) hx hb dX9_drafted_23 (by decide) ?_
        refine lv_iload_n hx hb dX9_drafted_25 rfl (lv_at hl 1 rfl) ?_
        refine li_imul hx hb dX9_drafted_26 ?_
        refine lv_iload hx hb dX9_drafted_27 (lv_at hl 4 rfl) ?_
        refine li_iadd hx hb dX9_drafted_29 ?_
        refine lv_goto (tgt := 40) hx hb dX9_drafted_30 (by decide) ?_
        obtain ⟨h_5, hw⟩ := hw
        exact bX9_drafted_40 C post (fun y1 y2 y3 y4 N => lpX9_drafted_5 post n y1 y2 y3 y4 N) ih x1 x2 x4 ((10 * x1) + x4) x3 h1 h2 h4 h_5 h3 _ _ _ _ hw I (lv_sub hl [0, 1, 2, 4] rfl)
set_option maxRecDepth 100000 in
set_option maxHeartbeats 4000000 in
theorem mX9_drafted (l : Launch) (g : GP) (a1 a2 : Int) (ha1 : inR a1) (ha2 : inR a2) (M : Mem) (post : Int → Mem → Prop) (sz : Nat) (hw : wpX9_drafted a1 a2 M post) : MIR l yX9_drafted wtX9_drafted rmX9_drafted g [.ref (g.2.2.2 0), .int (i32 a1), .int (i32 a2)] M sz post := by
  refine Met.ofW (cc := cX9_drafted) (maxL := 5) (ret := (some .int)) (by decide) rfl ?_
  intro p e s m args below meth c s₁ B hml hv
  obtain ⟨rfl, hpre⟩ := hv
  have hsz := hpre.1
  subst hsz
  have C : Cx p m c cX9_drafted 5 s _ lw_g RX9 meth (some .int) := ⟨⟨B.exec, B.bytes, hml, findClass_of_methodNamed B.named, fun w h => atoms_spec (ws := wtX9_drafted) B.pre w (List.mem_cons_of_mem _ h)⟩, B.returns, B.notSynchronized⟩
  obtain ⟨⟨hx, hb, hml, hown, hts⟩, hr, hlk⟩ := id C
  have I := InG.start hpre
  have hl := lv_entry ([.ref (g.2.2.2 0), .int (i32 a1), .int (i32 a2)]) (n := 5) (Nat.le_of_ble_eq_true rfl)
  rw [lg_entry_eq]
  generalize (lg_sl ([.ref (g.2.2.2 0), .int (i32 a1), .int (i32 a2)]) ++ List.replicate (5 - (lg_sl ([.ref (g.2.2.2 0), .int (i32 a1), .int (i32 a2)])).length) Slot.unset).toArray = ls at hl ⊢
  have hl : lv_has ls 5 [(0, .ref (g.2.2.2 0)), (1, .int (i32 a1)), (2, .int (i32 a2))] := hl
  show W p l e rmX9_drafted s m _ below meth c s.heap [] 0 0 (QIR below _ s g post) _
  refine li_iconst hx hb dX9_drafted_0 ?_
  refine lv_istore_n (lv' := [(3, .int (i32 0)), (0, .ref (g.2.2.2 0)), (1, .int (i32 a1)), (2, .int (i32 a2))]) hx hb dX9_drafted_1 rfl hl (by decide) rfl (fun ls hl => ?_)
  refine li_iconst hx hb dX9_drafted_2 ?_
  refine lv_istore (lv' := [(4, .int (i32 0)), (3, .int (i32 0)), (0, .ref (g.2.2.2 0)), (1, .int (i32 a1)), (2, .int (i32 a2))]) hx hb dX9_drafted_3 hl (by decide) rfl (fun ls hl => ?_)
  obtain ⟨n1, hw⟩ := hw
  exact bX9_drafted_5 C post n1 a1 a2 0 0 ha1 ha2 (by decide) (by decide) _ _ _ _ hw I (lv_sub hl [2, 3, 4, 1, 0] rfl)
abbrev rmX9_judge : Room := { frames := 3, cells := 0, slots := 0, locals := 68 }
abbrev wtX9_judge : List Cond := Cond.code yX9_judge cX9_judge 6 (some .int) :: lw_g
set_option maxRecDepth 100000 in
set_option maxHeartbeats 4000000 in
theorem bX9_judge_133 {p : Program} {l : Launch} {e : Env} {s : State} {m : MethodId} {args : Array Value} {below : List Frame} {meth : Method} {c : Code} {g : GP} (C : Cx p m c cX9_judge 6 s args lw_g RX9 meth (some .int)) (post : Int → Mem → Prop) : ∀ (t0 : Int), inR t0 → ∀ (M : Mem) (H : Heap) (locs : List Loc) (ls : Array Slot), jbX9_judge_133 post t0 M → IR g s M H locs → lv_has ls 6 [(0, .ref (g.2.2.2 0))] → W p l e rmX9_judge s m args below meth c H locs 0 0 (QIR below args s g post) (F0 m 133 ls [.int (i32 t0)]) := by
  obtain ⟨⟨hx, hb, hml, hown, hts⟩, hr, hlk⟩ := id C
  intro t0 ht0 M H locs ls hw I hl
  exact g_iret hx hb hr hlk I ht0 hw dX9_judge_133
set_option maxRecDepth 100000 in
set_option maxHeartbeats 4000000 in
theorem bX9_judge_66 {p : Program} {l : Launch} {e : Env} {s : State} {m : MethodId} {args : Array Value} {below : List Frame} {meth : Method} {c : Code} {g : GP} (C : Cx p m c cX9_judge 6 s args lw_g RX9 meth (some .int)) (post : Int → Mem → Prop) (k16 : Int → Int → Int → Mem → Prop) (k25 : Int → Int → Int → Int → Mem → Prop) (hk16 : ∀ (x1 x2 x4 : Int), inR x1 → inR x2 → inR x4 → ∀ (M : Mem) (H : Heap) (locs : List Loc) (ls : Array Slot), k16 x1 x2 x4 M → IR g s M H locs → lv_has ls 6 [(0, .ref (g.2.2.2 0)), (1, .int (i32 x1)), (2, .int (i32 x2)), (4, .int (i32 x4))] → W p l e rmX9_judge s m args below meth c H locs 0 0 (QIR below args s g post) (F0 m 16 ls [])) (hk25 : ∀ (x1 x2 x4 x5 : Int), inR x1 → inR x2 → inR x4 → inR x5 → ∀ (M : Mem) (H : Heap) (locs : List Loc) (ls : Array Slot), k25 x1 x2 x4 x5 M → IR g s M H locs → lv_has ls 6 [(0, .ref (g.2.2.2 0)), (1, .int (i32 x1)), (2, .int (i32 x2)), (4, .int (i32 x4)), (5, .int (i32 x5))] → W p l e rmX9_judge s m args below meth c H locs 0 0 (QIR below args s g post) (F0 m 25 ls [])) : ∀ (x1 x2 x4 x5 t0 t1 t2 : Int), inR x1 → inR x2 → inR x4 → inR x5 → inR t0 → inR t1 → inR t2 → ∀ (M : Mem) (H : Heap) (locs : List Loc) (ls : Array Slot), jbX9_judge_66 post k16 k25 x1 x2 x4 x5 t0 t1 t2 M → IR g s M H locs → lv_has ls 6 [(0, .ref (g.2.2.2 0)), (1, .int (i32 x1)), (2, .int (i32 x2)), (4, .int (i32 x4)), (5, .int (i32 x5))] → W p l e rmX9_judge s m args below meth c H locs 0 0 (QIR below args s g post) (F0 m 66 ls [.int (i32 t0), .int (i32 t1), .ref (g.2.2.2 4), .int (i32 t2)]) := by
  obtain ⟨⟨hx, hb, hml, hown, hts⟩, hr, hlk⟩ := id C
  intro x1 x2 x4 x5 t0 t1 t2 h1 h2 h4 h5 ht0 ht1 ht2 M H locs ls hw I hl
  refine li_imul hx hb dX9_judge_66 ?_
  refine lv_iload hx hb dX9_judge_67 (lv_at hl 4 rfl) ?_
  refine li_iadd hx hb dX9_judge_69 ?_
  obtain ⟨h_1, hw⟩ := hw
  refine r_iald hx hb I 4 lenR_4 (by decide) h_1 dX9_judge_70 ?_
  have h_2 := I.rng 4 ((t1 * t0) + x5)
  refine li_icmp_eq (tgt := 85) hx hb dX9_judge_71 (by decide) ht2 h_2 (fun c_3 => ?_) (fun c_3 => ?_)
  · replace hw := hw.1 c_3
    refine li_iinc (lv' := [(5, .int (i32 (x5 + 1))), (0, .ref (g.2.2.2 0)), (1, .int (i32 x1)), (2, .int (i32 x2)), (4, .int (i32 x4))]) hx hb dX9_judge_85 hl (k := 4) rfl (by decide) rfl (fun ls hl => ?_)
    refine lv_goto (tgt := 25) hx hb dX9_judge_88 (by decide) ?_
    obtain ⟨h_4, hw⟩ := hw
    exact hk25 x1 x2 x4 (x5 + 1) h1 h2 h4 h_4 _ _ _ _ hw I (lv_sub hl [1, 2, 3, 4, 0] rfl)
  · replace hw := hw.2 c_3
    refine lv_aload_n hx hb dX9_judge_74 rfl (lv_at hl 0 rfl) ?_
    refine lv_iload hx hb dX9_judge_75 (lv_at hl 4 rfl) ?_
    refine rp_0_9 hx hb hts wu_X9 hown I wf_X9_199 h5 dX9_judge_77 (fun H locs M77_4 eM77_4 I => ?_)
    replace hw := hw M77_4 eM77_4
    refine li_iconst hx hb dX9_judge_80 ?_
    refine lv_iload hx hb dX9_judge_81 (lv_at hl 3 rfl) ?_
    refine li_iadd hx hb dX9_judge_83 ?_
    obtain ⟨h_6, hw⟩ := hw
    exact g_iret hx hb hr hlk I h_6 hw dX9_judge_84
set_option maxRecDepth 100000 in
set_option maxHeartbeats 4000000 in
theorem bX9_judge_47 {p : Program} {l : Launch} {e : Env} {s : State} {m : MethodId} {args : Array Value} {below : List Frame} {meth : Method} {c : Code} {g : GP} (C : Cx p m c cX9_judge 6 s args lw_g RX9 meth (some .int)) (post : Int → Mem → Prop) (k16 : Int → Int → Int → Mem → Prop) (k25 : Int → Int → Int → Int → Mem → Prop) (hk16 : ∀ (x1 x2 x4 : Int), inR x1 → inR x2 → inR x4 → ∀ (M : Mem) (H : Heap) (locs : List Loc) (ls : Array Slot), k16 x1 x2 x4 M → IR g s M H locs → lv_has ls 6 [(0, .ref (g.2.2.2 0)), (1, .int (i32 x1)), (2, .int (i32 x2)), (4, .int (i32 x4))] → W p l e rmX9_judge s m args below meth c H locs 0 0 (QIR below args s g post) (F0 m 16 ls [])) (hk25 : ∀ (x1 x2 x4 x5 : Int), inR x1 → inR x2 → inR x4 → inR x5 → ∀ (M : Mem) (H : Heap) (locs : List Loc) (ls : Array Slot), k25 x1 x2 x4 x5 M → IR g s M H locs → lv_has ls 6 [(0, .ref (g.2.2.2 0)), (1, .int (i32 x1)), (2, .int (i32 x2)), (4, .int (i32 x4)), (5, .int (i32 x5))] → W p l e rmX9_judge s m args below meth c H locs 0 0 (QIR below args s g post) (F0 m 25 ls [])) : ∀ (x1 x2 x4 x5 t0 t1 : Int), inR x1 → inR x2 → inR x4 → inR x5 → inR t0 → inR t1 → ∀ (M : Mem) (H : Heap) (locs : List Loc) (ls : Array Slot), jbX9_judge_47 post k16 k25 x1 x2 x4 x5 t0 t1 M → IR g s M H locs → lv_has ls 6 [(0, .ref (g.2.2.2 0)), (1, .int (i32 x1)), (2, .int (i32 x2)), (4, .int (i32 x4)), (5, .int (i32 x5))] → W p l e rmX9_judge s m args below meth c H locs 0 0 (QIR below args s g post) (F0 m 47 ls [.int (i32 t0), .int (i32 t1), .ref (g.2.2.2 0)]) := by
  obtain ⟨⟨hx, hb, hml, hown, hts⟩, hr, hlk⟩ := id C
  intro x1 x2 x4 x5 t0 t1 h1 h2 h4 h5 ht0 ht1 M H locs ls hw I hl
  refine g_callVi (o := 0) (As := [.int (i32 t1), .int (i32 t0)]) (rest := []) ⟨hx, hb, hml, hown, hts⟩ I (mX9_drafted l g t1 t0 ht1 ht0 M _ _ hw) (cwV 2 hts (gd_V wm_X9_195 wi_X9_drafted wl_X9_drafted wn_X9 wc_X9_drafted) rfl rfl rfl wd_X9_drafted ⟨Nat.le_of_ble_eq_true rfl, Nat.le_of_ble_eq_true rfl⟩) (by omega) (by omega) obR_0 rfl rfl hl.1 rfl (Nat.le_of_ble_eq_true rfl) dX9_judge_47 ⟨Nat.zero_le _, Nat.zero_le _⟩ (fun r47_0 M47_0 H locs hr47_0 hw I => ?_)
  refine lv_aload_n hx hb dX9_judge_50 rfl (lv_at hl 0 rfl) ?_
  refine rg_0_6 hx hb hts wu_X9 hown I wf_X9_19 dX9_judge_51 ?_
  refine lv_bipush (v := i32 10) hx hb dX9_judge_54 (by decide) ?_
  refine lv_iload hx hb dX9_judge_56 (lv_at hl 3 rfl) ?_
  refine li_if_ne (tgt := 65) hx hb dX9_judge_58 (by decide) h4 (fun c_2 => ?_) (fun c_2 => ?_)
  · replace hw := hw.1 c_2
    refine lv_iload_n hx hb dX9_judge_65 rfl (lv_at hl 2 rfl) ?_
    exact bX9_judge_66 C post k16 k25 hk16 hk25 x1 x2 x4 x5 x2 10 r47_0 h1 h2 h4 h5 h2 (by decide) hr47_0 _ _ _ _ hw I (lv_sub hl [0, 1, 2, 3, 4] rfl)
  · replace hw := hw.2 c_2
    refine lv_iload_n hx hb dX9_judge_61 rfl (lv_at hl 1 rfl) ?_
    refine lv_goto (tgt := 66) hx hb dX9_judge_62 (by decide) ?_
    exact bX9_judge_66 C post k16 k25 hk16 hk25 x1 x2 x4 x5 x1 10 r47_0 h1 h2 h4 h5 h1 (by decide) hr47_0 _ _ _ _ hw I (lv_sub hl [0, 1, 2, 3, 4] rfl)
set_option maxRecDepth 100000 in
set_option maxHeartbeats 4000000 in
theorem bX9_judge_25 {p : Program} {l : Launch} {e : Env} {s : State} {m : MethodId} {args : Array Value} {below : List Frame} {meth : Method} {c : Code} {g : GP} (C : Cx p m c cX9_judge 6 s args lw_g RX9 meth (some .int)) (post : Int → Mem → Prop) (k16 : Int → Int → Int → Mem → Prop) (hk16 : ∀ (x1 x2 x4 : Int), inR x1 → inR x2 → inR x4 → ∀ (M : Mem) (H : Heap) (locs : List Loc) (ls : Array Slot), k16 x1 x2 x4 M → IR g s M H locs → lv_has ls 6 [(0, .ref (g.2.2.2 0)), (1, .int (i32 x1)), (2, .int (i32 x2)), (4, .int (i32 x4))] → W p l e rmX9_judge s m args below meth c H locs 0 0 (QIR below args s g post) (F0 m 16 ls [])) : ∀ (n : Nat), ∀ (x1 x2 x4 x5 : Int), inR x1 → inR x2 → inR x4 → inR x5 → ∀ (M : Mem) (H : Heap) (locs : List Loc) (ls : Array Slot), lpX9_judge_25 post k16 n x1 x2 x4 x5 M → IR g s M H locs → lv_has ls 6 [(0, .ref (g.2.2.2 0)), (1, .int (i32 x1)), (2, .int (i32 x2)), (4, .int (i32 x4)), (5, .int (i32 x5))] → W p l e rmX9_judge s m args below meth c H locs 0 0 (QIR below args s g post) (F0 m 25 ls []) := by
  obtain ⟨⟨hx, hb, hml, hown, hts⟩, hr, hlk⟩ := id C
  intro n
  induction n with
  | zero =>
    intro x1 x2 x4 x5 h1 h2 h4 h5 M H locs ls hw
    exact hw.elim
  | succ n ih =>
    intro x1 x2 x4 x5 h1 h2 h4 h5 M H locs ls hw I hl
    refine lv_iload hx hb dX9_judge_25 (lv_at hl 4 rfl) ?_
    refine lv_aload_n hx hb dX9_judge_27 rfl (lv_at hl 0 rfl) ?_
    refine rg_0_0 hx hb hts wu_X9 hown I wf_X9_86 dX9_judge_28 ?_
    have h_1 := I.rng 0 0
    refine li_icmp_ge (tgt := 91) hx hb dX9_judge_31 (by decide) h5 h_1 (fun c_2 => ?_) (fun c_2 => ?_)
    · replace hw := hw.1 c_2
      refine li_iinc (lv' := [(4, .int (i32 (x4 + 1))), (0, .ref (g.2.2.2 0)), (1, .int (i32 x1)), (2, .int (i32 x2)), (5, .int (i32 x5))]) hx hb dX9_judge_91 hl (k := 3) rfl (by decide) rfl (fun ls hl => ?_)
      refine lv_goto (tgt := 16) hx hb dX9_judge_94 (by decide) ?_
      obtain ⟨h_3, hw⟩ := hw
      exact hk16 x1 x2 (x4 + 1) h1 h2 h_3 _ _ _ _ hw I (lv_sub hl [1, 2, 3, 0] rfl)
    · replace hw := hw.2 c_2
      refine lv_aload_n hx hb dX9_judge_34 rfl (lv_at hl 0 rfl) ?_
      refine lv_iload hx hb dX9_judge_35 (lv_at hl 4 rfl) ?_
      refine lv_iload hx hb dX9_judge_37 (lv_at hl 3 rfl) ?_
      refine li_if_ne (tgt := 46) hx hb dX9_judge_39 (by decide) h4 (fun c_4 => ?_) (fun c_4 => ?_)
      · replace hw := hw.1 c_4
        refine li_iconst hx hb dX9_judge_46 ?_
        exact bX9_judge_47 C post k16 (fun y1 y2 y4 y5 N => lpX9_judge_25 post k16 n y1 y2 y4 y5 N) hk16 ih x1 x2 x4 x5 0 x5 h1 h2 h4 h5 (by decide) h5 _ _ _ _ hw I (lv_sub hl [0, 1, 2, 3, 4] rfl)
      · replace hw := hw.2 c_4
        refine li_iconst hx hb dX9_judge_42 ?_
        refine lv_goto (tgt := 47) hx hb dX9_judge_43 (by decide) ?_
        exact bX9_judge_47 C post k16 (fun y1 y2 y4 y5 N => lpX9_judge_25 post k16 n y1 y2 y4 y5 N) hk16 ih x1 x2 x4 x5 1 x5 h1 h2 h4 h5 (by decide) h5 _ _ _ _ hw I (lv_sub hl [0, 1, 2, 3, 4] rfl)
set_option maxRecDepth 100000 in
set_option maxHeartbeats 4000000 in
theorem bX9_judge_16 {p : Program} {l : Launch} {e : Env} {s : State} {m : MethodId} {args : Array Value} {below : List Frame} {meth : Method} {c : Code} {g : GP} (C : Cx p m c cX9_judge 6 s args lw_g RX9 meth (some .int)) (post : Int → Mem → Prop) : ∀ (n : Nat), ∀ (x1 x2 x4 : Int), inR x1 → inR x2 → inR x4 → ∀ (M : Mem) (H : Heap) (locs : List Loc) (ls : Array Slot), lpX9_judge_16 post n x1 x2 x4 M → IR g s M H locs → lv_has ls 6 [(0, .ref (g.2.2.2 0)), (1, .int (i32 x1)), (2, .int (i32 x2)), (4, .int (i32 x4))] → W p l e rmX9_judge s m args below meth c H locs 0 0 (QIR below args s g post) (F0 m 16 ls []) := by
  obtain ⟨⟨hx, hb, hml, hown, hts⟩, hr, hlk⟩ := id C
  intro n
  induction n with
  | zero =>
    intro x1 x2 x4 h1 h2 h4 M H locs ls hw
    exact hw.elim
  | succ n ih =>
    intro x1 x2 x4 h1 h2 h4 M H locs ls hw I hl
    refine lv_iload hx hb dX9_judge_16 (lv_at hl 3 rfl) ?_
    refine li_iconst hx hb dX9_judge_18 ?_
    refine li_icmp_ge (tgt := 97) hx hb dX9_judge_19 (by decide) h4 (by decide) (fun c_1 => ?_) (fun c_1 => ?_)
    · replace hw := hw.1 c_1
      refine lv_aload_n hx hb dX9_judge_97 rfl (lv_at hl 0 rfl) ?_
      refine lv_aload_n hx hb dX9_judge_98 rfl (lv_at hl 0 rfl) ?_
      refine lv_aload_n hx hb dX9_judge_99 rfl (lv_at hl 0 rfl) ?_
      refine rg_0_8 hx hb hts wu_X9 hown I wf_X9_25 dX9_judge_100 ?_
      refine g_callVi (o := 0) (As := [.ref (g.2.2.2 6)]) (rest := [.ref (g.2.2.2 0)]) ⟨hx, hb, hml, hown, hts⟩ I (mX9_costOf l g 6 M _ _ hw) (cwV 1 hts (gd_V wm_X9_138 wi_X9_costOf wl_X9_costOf wn_X9 wc_X9_costOf) rfl rfl rfl wd_X9_costOf ⟨Nat.le_of_ble_eq_true rfl, Nat.le_of_ble_eq_true rfl⟩) (by omega) (by omega) obR_0 rfl rfl hl.1 rfl (Nat.le_of_ble_eq_true rfl) dX9_judge_103 ⟨Nat.zero_le _, Nat.zero_le _⟩ (fun r103_1 M103_1 H locs hr103_1 hw I => ?_)
      refine lv_aload_n hx hb dX9_judge_106 rfl (lv_at hl 0 rfl) ?_
      refine lv_iload_n hx hb dX9_judge_107 rfl (lv_at hl 1 rfl) ?_
      refine lv_iload_n hx hb dX9_judge_108 rfl (lv_at hl 2 rfl) ?_
      refine lv_aload_n hx hb dX9_judge_109 rfl (lv_at hl 0 rfl) ?_
      refine lv_iload_n hx hb dX9_judge_110 rfl (lv_at hl 1 rfl) ?_
      refine g_callVi (o := 0) (As := [.int (i32 x1)]) (rest := [.int (i32 x2), .int (i32 x1), .ref (g.2.2.2 0), .int (i32 r103_1), .ref (g.2.2.2 0)]) ⟨hx, hb, hml, hown, hts⟩ I (mX9_sumOf l g x1 h1 M103_1 _ _ hw) (cwV 1 hts (gd_V wm_X9_123 wi_X9_sumOf wl_X9_sumOf wn_X9 wc_X9_sumOf) rfl rfl rfl wd_X9_sumOf ⟨Nat.le_of_ble_eq_true rfl, Nat.le_of_ble_eq_true rfl⟩) (by omega) (by omega) obR_0 rfl rfl hl.1 rfl (Nat.le_of_ble_eq_true rfl) dX9_judge_111 ⟨Nat.zero_le _, Nat.zero_le _⟩ (fun r111_2 M111_2 H locs hr111_2 hw I => ?_)
      refine g_callVi (o := 0) (As := [.int (i32 x1), .int (i32 x2), .int (i32 r111_2)]) (rest := [.int (i32 r103_1), .ref (g.2.2.2 0)]) ⟨hx, hb, hml, hown, hts⟩ I (mX9_solve l g x1 x2 r111_2 h1 h2 hr111_2 M111_2 _ _ hw) (cwV 3 hts (gd_V wm_X9_149 wi_X9_solve wl_X9_solve wn_X9 wc_X9_solve) rfl rfl rfl wd_X9_solve ⟨Nat.le_of_ble_eq_true rfl, Nat.le_of_ble_eq_true rfl⟩) (by omega) (by omega) obR_0 rfl rfl hl.1 rfl (Nat.le_of_ble_eq_true rfl) dX9_judge_114 ⟨Nat.zero_le _, Nat.zero_le _⟩ (fun r114_3 M114_3 H locs hr114_3 hw I => ?_)
      refine li_isub hx hb dX9_judge_117 ?_
      obtain ⟨h_5, hw⟩ := hw
      refine rp_0_9 hx hb hts wu_X9 hown I wf_X9_199 h_5 dX9_judge_118 (fun H locs M118_5 eM118_5 I => ?_)
      replace hw := hw M118_5 eM118_5
      refine lv_aload_n hx hb dX9_judge_121 rfl (lv_at hl 0 rfl) ?_
      refine rg_0_9 hx hb hts wu_X9 hown I wf_X9_199 dX9_judge_122 ?_
      have h_7 := I.rng 0 9
      refine li_if_le (tgt := 132) hx hb dX9_judge_125 (by decide) h_7 (fun c_8 => ?_) (fun c_8 => ?_)
      · replace hw := hw.1 c_8
        refine li_iconst hx hb dX9_judge_132 ?_
        exact bX9_judge_133 C post 0 (by decide) _ _ _ _ hw I (lv_sub hl [0] rfl)
      · replace hw := hw.2 c_8
        refine li_iconst hx hb dX9_judge_128 ?_
        refine lv_goto (tgt := 133) hx hb dX9_judge_129 (by decide) ?_
        exact bX9_judge_133 C post 3 (by decide) _ _ _ _ hw I (lv_sub hl [0] rfl)
    · replace hw := hw.2 c_1
      refine li_iconst hx hb dX9_judge_22 ?_
      refine lv_istore (lv' := [(5, .int (i32 0)), (0, .ref (g.2.2.2 0)), (1, .int (i32 x1)), (2, .int (i32 x2)), (4, .int (i32 x4))]) hx hb dX9_judge_23 hl (by decide) rfl (fun ls hl => ?_)
      obtain ⟨n1, hw⟩ := hw
      exact bX9_judge_25 C post (fun y1 y2 y4 N => lpX9_judge_16 post n y1 y2 y4 N) ih n1 x1 x2 x4 0 h1 h2 h4 (by decide) _ _ _ _ hw I (lv_sub hl [1, 2, 3, 4, 0] rfl)
set_option maxRecDepth 100000 in
set_option maxHeartbeats 4000000 in
theorem mX9_judge (l : Launch) (g : GP) (a1 a2 : Int) (ha1 : inR a1) (ha2 : inR a2) (M : Mem) (post : Int → Mem → Prop) (sz : Nat) (hw : wpX9_judge a1 a2 M post) : MIR l yX9_judge wtX9_judge rmX9_judge g [.ref (g.2.2.2 0), .int (i32 a1), .int (i32 a2)] M sz post := by
  refine Met.ofW (cc := cX9_judge) (maxL := 6) (ret := (some .int)) (by decide) rfl ?_
  intro p e s m args below meth c s₁ B hml hv
  obtain ⟨rfl, hpre⟩ := hv
  have hsz := hpre.1
  subst hsz
  have C : Cx p m c cX9_judge 6 s _ lw_g RX9 meth (some .int) := ⟨⟨B.exec, B.bytes, hml, findClass_of_methodNamed B.named, fun w h => atoms_spec (ws := wtX9_judge) B.pre w (List.mem_cons_of_mem _ h)⟩, B.returns, B.notSynchronized⟩
  obtain ⟨⟨hx, hb, hml, hown, hts⟩, hr, hlk⟩ := id C
  have I := InG.start hpre
  have hl := lv_entry ([.ref (g.2.2.2 0), .int (i32 a1), .int (i32 a2)]) (n := 6) (Nat.le_of_ble_eq_true rfl)
  rw [lg_entry_eq]
  generalize (lg_sl ([.ref (g.2.2.2 0), .int (i32 a1), .int (i32 a2)]) ++ List.replicate (6 - (lg_sl ([.ref (g.2.2.2 0), .int (i32 a1), .int (i32 a2)])).length) Slot.unset).toArray = ls at hl ⊢
  have hl : lv_has ls 6 [(0, .ref (g.2.2.2 0)), (1, .int (i32 a1)), (2, .int (i32 a2))] := hl
  show W p l e rmX9_judge s m _ below meth c s.heap [] 0 0 (QIR below _ s g post) _
  refine lv_aload_n hx hb dX9_judge_0 rfl (lv_at hl 0 rfl) ?_
  refine lv_iload_n hx hb dX9_judge_1 rfl (lv_at hl 1 rfl) ?_
  refine lv_iload_n hx hb dX9_judge_2 rfl (lv_at hl 2 rfl) ?_
  refine g_callVi (o := 0) (As := [.int (i32 a1), .int (i32 a2)]) (rest := []) ⟨hx, hb, hml, hown, hts⟩ I (mX9_against l g a1 a2 ha1 ha2 M _ _ hw) (cwV 2 hts (gd_V wm_X9_146 wi_X9_against wl_X9_against wn_X9 wc_X9_against) rfl rfl rfl wd_X9_against ⟨Nat.le_of_ble_eq_true rfl, Nat.le_of_ble_eq_true rfl⟩) (by omega) (by omega) obR_0 rfl rfl hl.1 rfl (Nat.le_of_ble_eq_true rfl) dX9_judge_3 ⟨Nat.zero_le _, Nat.zero_le _⟩ (fun r3_0 M3_0 H locs hr3_0 hw I => ?_)
  refine lv_istore_n (lv' := [(3, .int (i32 r3_0)), (0, .ref (g.2.2.2 0)), (1, .int (i32 a1)), (2, .int (i32 a2))]) hx hb dX9_judge_6 rfl hl (by decide) rfl (fun ls hl => ?_)
  refine lv_iload_n hx hb dX9_judge_7 rfl (lv_at hl 0 rfl) ?_
  refine li_if_eq (tgt := 13) hx hb dX9_judge_8 (by decide) hr3_0 (fun c_2 => ?_) (fun c_2 => ?_)
  · replace hw := hw.1 c_2
    refine li_iconst hx hb dX9_judge_13 ?_
    refine lv_istore (lv' := [(4, .int (i32 0)), (3, .int (i32 r3_0)), (0, .ref (g.2.2.2 0)), (1, .int (i32 a1)), (2, .int (i32 a2))]) hx hb dX9_judge_14 hl (by decide) rfl (fun ls hl => ?_)
    obtain ⟨n1, hw⟩ := hw
    exact bX9_judge_16 C post n1 a1 a2 0 ha1 ha2 (by decide) _ _ _ _ hw I (lv_sub hl [2, 3, 4, 0] rfl)
  · replace hw := hw.2 c_2
    refine lv_iload_n hx hb dX9_judge_11 rfl (lv_at hl 0 rfl) ?_
    exact g_iret hx hb hr hlk I hr3_0 hw dX9_judge_12
abbrev rmX9_beside : Room := { frames := 0, cells := 0, slots := 0, locals := 0 }
abbrev wtX9_beside : List Cond := Cond.code yX9_beside cX9_beside 1 (some .int) :: lw_g
set_option maxRecDepth 100000 in
set_option maxHeartbeats 4000000 in
theorem mX9_beside (l : Launch) (g : GP) (M : Mem) (post : Int → Mem → Prop) (sz : Nat) (hw : wpX9_beside M post) : MIR l yX9_beside wtX9_beside rmX9_beside g [.ref (g.2.2.2 0)] M sz post := by
  refine Met.ofW (cc := cX9_beside) (maxL := 1) (ret := (some .int)) (by decide) rfl ?_
  intro p e s m args below meth c s₁ B hml hv
  obtain ⟨rfl, hpre⟩ := hv
  have hsz := hpre.1
  subst hsz
  have C : Cx p m c cX9_beside 1 s _ lw_g RX9 meth (some .int) := ⟨⟨B.exec, B.bytes, hml, findClass_of_methodNamed B.named, fun w h => atoms_spec (ws := wtX9_beside) B.pre w (List.mem_cons_of_mem _ h)⟩, B.returns, B.notSynchronized⟩
  obtain ⟨⟨hx, hb, hml, hown, hts⟩, hr, hlk⟩ := id C
  have I := InG.start hpre
  have hl := lv_entry ([.ref (g.2.2.2 0)]) (n := 1) (Nat.le_of_ble_eq_true rfl)
  rw [lg_entry_eq]
  generalize (lg_sl ([.ref (g.2.2.2 0)]) ++ List.replicate (1 - (lg_sl ([.ref (g.2.2.2 0)])).length) Slot.unset).toArray = ls at hl ⊢
  have hl : lv_has ls 1 [(0, .ref (g.2.2.2 0))] := hl
  show W p l e rmX9_beside s m _ below meth c s.heap [] 0 0 (QIR below _ s g post) _
  refine lv_aload_n hx hb dX9_beside_0 rfl (lv_at hl 0 rfl) ?_
  refine rg_0_9 hx hb hts wu_X9 hown I wf_X9_199 dX9_beside_1 ?_
  have h_1 := I.rng 0 9
  exact g_iret hx hb hr hlk I h_1 hw dX9_beside_4
abbrev rmX9_count : Room := { frames := 2, cells := 0, slots := 0, locals := 46 }
abbrev wtX9_count : List Cond := Cond.code yX9_count cX9_count 4 (some .int) :: lw_g
set_option maxRecDepth 100000 in
set_option maxHeartbeats 4000000 in
theorem bX9_count_83 {p : Program} {l : Launch} {e : Env} {s : State} {m : MethodId} {args : Array Value} {below : List Frame} {meth : Method} {c : Code} {g : GP} (C : Cx p m c cX9_count 4 s args lw_g RX9 meth (some .int)) (post : Int → Mem → Prop) (k59 : Int → Int → Mem → Prop) (hk59 : ∀ (x2 x3 : Int), inR x2 → inR x3 → ∀ (M : Mem) (H : Heap) (locs : List Loc) (ls : Array Slot), k59 x2 x3 M → IR g s M H locs → lv_has ls 4 [(0, .ref (g.2.2.2 0)), (2, .int (i32 x2)), (3, .int (i32 x3))] → W p l e rmX9_count s m args below meth c H locs 0 0 (QIR below args s g post) (F0 m 59 ls [])) : ∀ (x3 t0 t1 : Int), inR x3 → inR t0 → inR t1 → ∀ (M : Mem) (H : Heap) (locs : List Loc) (ls : Array Slot), jbX9_count_83 post k59 x3 t0 t1 M → IR g s M H locs → lv_has ls 4 [(0, .ref (g.2.2.2 0)), (3, .int (i32 x3))] → W p l e rmX9_count s m args below meth c H locs 0 0 (QIR below args s g post) (F0 m 83 ls [.int (i32 t0), .int (i32 t1)]) := by
  obtain ⟨⟨hx, hb, hml, hown, hts⟩, hr, hlk⟩ := id C
  intro x3 t0 t1 h3 ht0 ht1 M H locs ls hw I hl
  refine li_iadd hx hb dX9_count_83 ?_
  obtain ⟨h_1, hw⟩ := hw
  refine li_name (fun v84_1 ev84_1 => ?_)
  replace hw := hw v84_1 ev84_1
  have hv84_1 : inR v84_1 := ev84_1 ▸ h_1
  refine lv_istore_n (lv' := [(2, .int (i32 v84_1)), (0, .ref (g.2.2.2 0)), (3, .int (i32 x3))]) hx hb dX9_count_84 rfl hl (by decide) rfl (fun ls hl => ?_)
  refine li_iinc (lv' := [(3, .int (i32 (x3 + 1))), (2, .int (i32 v84_1)), (0, .ref (g.2.2.2 0))]) hx hb dX9_count_85 hl (k := 2) rfl (by decide) rfl (fun ls hl => ?_)
  refine lv_goto (tgt := 59) hx hb dX9_count_88 (by decide) ?_
  obtain ⟨h_3, hw⟩ := hw
  exact hk59 v84_1 (x3 + 1) hv84_1 h_3 _ _ _ _ hw I (lv_sub hl [2, 1, 0] rfl)
set_option maxRecDepth 100000 in
set_option maxHeartbeats 4000000 in
theorem bX9_count_59 {p : Program} {l : Launch} {e : Env} {s : State} {m : MethodId} {args : Array Value} {below : List Frame} {meth : Method} {c : Code} {g : GP} (C : Cx p m c cX9_count 4 s args lw_g RX9 meth (some .int)) (post : Int → Mem → Prop) : ∀ (n : Nat), ∀ (x2 x3 : Int), inR x2 → inR x3 → ∀ (M : Mem) (H : Heap) (locs : List Loc) (ls : Array Slot), lpX9_count_59 post n x2 x3 M → IR g s M H locs → lv_has ls 4 [(0, .ref (g.2.2.2 0)), (2, .int (i32 x2)), (3, .int (i32 x3))] → W p l e rmX9_count s m args below meth c H locs 0 0 (QIR below args s g post) (F0 m 59 ls []) := by
  obtain ⟨⟨hx, hb, hml, hown, hts⟩, hr, hlk⟩ := id C
  intro n
  induction n with
  | zero =>
    intro x2 x3 h2 h3 M H locs ls hw
    exact hw.elim
  | succ n ih =>
    intro x2 x3 h2 h3 M H locs ls hw I hl
    refine lv_iload_n hx hb dX9_count_59 rfl (lv_at hl 2 rfl) ?_
    refine lv_aload_n hx hb dX9_count_60 rfl (lv_at hl 0 rfl) ?_
    refine rg_0_0 hx hb hts wu_X9 hown I wf_X9_86 dX9_count_61 ?_
    have h_1 := I.rng 0 0
    refine li_icmp_ge (tgt := 91) hx hb dX9_count_64 (by decide) h3 h_1 (fun c_2 => ?_) (fun c_2 => ?_)
    · replace hw := hw.1 c_2
      refine lv_iload_n hx hb dX9_count_91 rfl (lv_at hl 1 rfl) ?_
      exact g_iret hx hb hr hlk I h2 hw dX9_count_92
    · replace hw := hw.2 c_2
      refine lv_iload_n hx hb dX9_count_67 rfl (lv_at hl 1 rfl) ?_
      refine lv_aload_n hx hb dX9_count_68 rfl (lv_at hl 0 rfl) ?_
      refine rg_0_7 hx hb hts wu_X9 hown I wf_X9_22 dX9_count_69 ?_
      refine lv_iload_n hx hb dX9_count_72 rfl (lv_at hl 2 rfl) ?_
      obtain ⟨h_3, hw⟩ := hw
      refine r_iald hx hb I 5 lenR_5 (by decide) h_3 dX9_count_73 ?_
      have h_4 := I.rng 5 x3
      refine li_iconst hx hb dX9_count_74 ?_
      refine li_icmp_eq (tgt := 82) hx hb dX9_count_75 (by decide) h_4 (by decide) (fun c_5 => ?_) (fun c_5 => ?_)
      · replace hw := hw.1 c_5
        refine li_iconst hx hb dX9_count_82 ?_
        exact bX9_count_83 C post (fun y2 y3 N => lpX9_count_59 post n y2 y3 N) ih x3 0 x2 h3 (by decide) h2 _ _ _ _ hw I (lv_sub hl [0, 2] rfl)
      · replace hw := hw.2 c_5
        refine li_iconst hx hb dX9_count_78 ?_
        refine lv_goto (tgt := 83) hx hb dX9_count_79 (by decide) ?_
        exact bX9_count_83 C post (fun y2 y3 N => lpX9_count_59 post n y2 y3 N) ih x3 1 x2 h3 (by decide) h2 _ _ _ _ hw I (lv_sub hl [0, 2] rfl)
set_option maxRecDepth 100000 in
set_option maxHeartbeats 4000000 in
theorem bX9_count_110 {p : Program} {l : Launch} {e : Env} {s : State} {m : MethodId} {args : Array Value} {below : List Frame} {meth : Method} {c : Code} {g : GP} (C : Cx p m c cX9_count 4 s args lw_g RX9 meth (some .int)) (post : Int → Mem → Prop) : ∀ (t0 : Int), inR t0 → ∀ (M : Mem) (H : Heap) (locs : List Loc) (ls : Array Slot), jbX9_count_110 post t0 M → IR g s M H locs → lv_has ls 4 [(0, .ref (g.2.2.2 0))] → W p l e rmX9_count s m args below meth c H locs 0 0 (QIR below args s g post) (F0 m 110 ls [.int (i32 t0)]) := by
  obtain ⟨⟨hx, hb, hml, hown, hts⟩, hr, hlk⟩ := id C
  intro t0 ht0 M H locs ls hw I hl
  exact g_iret hx hb hr hlk I ht0 hw dX9_count_110
set_option maxRecDepth 100000 in
set_option maxHeartbeats 4000000 in
theorem mX9_count (l : Launch) (g : GP) (a1 : Int) (ha1 : inR a1) (M : Mem) (post : Int → Mem → Prop) (sz : Nat) (hw : wpX9_count a1 M post) : MIR l yX9_count wtX9_count rmX9_count g [.ref (g.2.2.2 0), .int (i32 a1)] M sz post := by
  refine Met.ofW (cc := cX9_count) (maxL := 4) (ret := (some .int)) (by decide) rfl ?_
  intro p e s m args below meth c s₁ B hml hv
  obtain ⟨rfl, hpre⟩ := hv
  have hsz := hpre.1
  subst hsz
  have C : Cx p m c cX9_count 4 s _ lw_g RX9 meth (some .int) := ⟨⟨B.exec, B.bytes, hml, findClass_of_methodNamed B.named, fun w h => atoms_spec (ws := wtX9_count) B.pre w (List.mem_cons_of_mem _ h)⟩, B.returns, B.notSynchronized⟩
  obtain ⟨⟨hx, hb, hml, hown, hts⟩, hr, hlk⟩ := id C
  have I := InG.start hpre
  have hl := lv_entry ([.ref (g.2.2.2 0), .int (i32 a1)]) (n := 4) (Nat.le_of_ble_eq_true rfl)
  rw [lg_entry_eq]
  generalize (lg_sl ([.ref (g.2.2.2 0), .int (i32 a1)]) ++ List.replicate (4 - (lg_sl ([.ref (g.2.2.2 0), .int (i32 a1)])).length) Slot.unset).toArray = ls at hl ⊢
  have hl : lv_has ls 4 [(0, .ref (g.2.2.2 0)), (1, .int (i32 a1))] := hl
  show W p l e rmX9_count s m _ below meth c s.heap [] 0 0 (QIR below _ s g post) _
  refine lv_iload_n hx hb dX9_count_0 rfl (lv_at hl 1 rfl) ?_
  by_cases q1_0 : a1 = 0
  · replace hw := hw.1 q1_0
    refine li_tabIn (tgt := 40) hx hb dX9_count_1 0 (by decide) q1_0 (by decide) (by decide) rfl (by decide) ?_
    refine lv_aload_n hx hb dX9_count_40 rfl (lv_at hl 0 rfl) ?_
    refine rg_0_0 hx hb hts wu_X9 hown I wf_X9_86 dX9_count_41 ?_
    have h_1 := I.rng 0 0
    exact g_iret hx hb hr hlk I h_1 hw dX9_count_44
  by_cases q1_1 : a1 = 1
  · replace hw := hw.2.1 q1_1
    refine li_tabIn (tgt := 45) hx hb dX9_count_1 1 (by decide) q1_1 (by decide) (by decide) rfl (by decide) ?_
    refine lv_aload_n hx hb dX9_count_45 rfl (lv_at hl 0 rfl) ?_
    refine rg_0_1 hx hb hts wu_X9 hown I wf_X9_108 dX9_count_46 ?_
    have h_2 := I.rng 0 1
    exact g_iret hx hb hr hlk I h_2 hw dX9_count_49
  by_cases q1_2 : a1 = 2
  · replace hw := hw.2.2.1 q1_2
    refine li_tabIn (tgt := 50) hx hb dX9_count_1 2 (by decide) q1_2 (by decide) (by decide) rfl (by decide) ?_
    refine lv_aload_n hx hb dX9_count_50 rfl (lv_at hl 0 rfl) ?_
    refine rg_0_5 hx hb hts wu_X9 hown I wf_X9_94 dX9_count_51 ?_
    have h_3 := I.rng 0 5
    exact g_iret hx hb hr hlk I h_3 hw dX9_count_54
  by_cases q1_3 : a1 = 3
  · replace hw := hw.2.2.2.1 q1_3
    refine li_tabIn (tgt := 55) hx hb dX9_count_1 3 (by decide) q1_3 (by decide) (by decide) rfl (by decide) ?_
    refine li_iconst hx hb dX9_count_55 ?_
    refine lv_istore_n (lv' := [(2, .int (i32 0)), (0, .ref (g.2.2.2 0)), (1, .int (i32 a1))]) hx hb dX9_count_56 rfl hl (by decide) rfl (fun ls hl => ?_)
    refine li_iconst hx hb dX9_count_57 ?_
    refine lv_istore_n (lv' := [(3, .int (i32 0)), (2, .int (i32 0)), (0, .ref (g.2.2.2 0)), (1, .int (i32 a1))]) hx hb dX9_count_58 rfl hl (by decide) rfl (fun ls hl => ?_)
    obtain ⟨n1, hw⟩ := hw
    exact bX9_count_59 C post n1 0 0 (by decide) (by decide) _ _ _ _ hw I (lv_sub hl [2, 1, 0] rfl)
  by_cases q1_4 : a1 = 4
  · replace hw := hw.2.2.2.2.1 q1_4
    refine li_tabIn (tgt := 93) hx hb dX9_count_1 4 (by decide) q1_4 (by decide) (by decide) rfl (by decide) ?_
    refine lv_aload_n hx hb dX9_count_93 rfl (lv_at hl 0 rfl) ?_
    refine rg_0_10 hx hb hts wu_X9 hown I wf_X9_97 dX9_count_94 ?_
    have h_4 := I.rng 0 10
    exact g_iret hx hb hr hlk I h_4 hw dX9_count_97
  by_cases q1_5 : a1 = 5
  · replace hw := hw.2.2.2.2.2.1 q1_5
    refine li_tabIn (tgt := 98) hx hb dX9_count_1 5 (by decide) q1_5 (by decide) (by decide) rfl (by decide) ?_
    refine lv_aload_n hx hb dX9_count_98 rfl (lv_at hl 0 rfl) ?_
    refine g_callVi (o := 0) (As := []) (rest := []) ⟨hx, hb, hml, hown, hts⟩ I (mX9_isJoined l g M _ _ hw) (cwV 0 hts (gd_V wm_X9_142 wi_X9_isJoined wl_X9_isJoined wn_X9 wc_X9_isJoined) rfl rfl rfl wd_X9_isJoined ⟨Nat.le_of_ble_eq_true rfl, Nat.le_of_ble_eq_true rfl⟩) (by omega) (by omega) obR_0 rfl rfl hl.1 rfl (Nat.le_of_ble_eq_true rfl) dX9_count_99 ⟨Nat.zero_le _, Nat.zero_le _⟩ (fun r99_4 M99_4 H locs hr99_4 hw I => ?_)
    refine li_if_eq (tgt := 109) hx hb dX9_count_102 (by decide) hr99_4 (fun c_6 => ?_) (fun c_6 => ?_)
    · replace hw := hw.1 c_6
      refine li_iconst hx hb dX9_count_109 ?_
      exact bX9_count_110 C post 0 (by decide) _ _ _ _ hw I (lv_sub hl [0] rfl)
    · replace hw := hw.2 c_6
      refine li_iconst hx hb dX9_count_105 ?_
      refine lv_goto (tgt := 110) hx hb dX9_count_106 (by decide) ?_
      exact bX9_count_110 C post 1 (by decide) _ _ _ _ hw I (lv_sub hl [0] rfl)
  have qd : a1 < 0 ∨ 5 < a1 := by omega
  replace hw := hw.2.2.2.2.2.2 qd
  refine li_tabOut (tgt := 111) hx hb dX9_count_1 ha1 qd (by decide) ?_
  refine lv_bipush (v := i32 (-3)) hx hb dX9_count_111 (by decide) ?_
  exact g_iret hx hb hr hlk I (by decide) hw dX9_count_113
