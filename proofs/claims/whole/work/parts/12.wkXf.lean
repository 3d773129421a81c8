abbrev rmX8_gated : Room := { frames := 4, cells := 0, slots := 0, locals := 100 }
abbrev wtX8_gated : List Cond := Cond.code yX8_gated cX8_gated 4 (some .int) :: lw_g
set_option maxRecDepth 100000 in
set_option maxHeartbeats 4000000 in
theorem mX8_gated (l : Launch) (g : GP) (a1 a2 : Int) (ha1 : inR a1) (ha2 : inR a2) (M : Mem) (post : Int → Mem → Prop) (sz : Nat) (hw : wpX8_gated a1 a2 M post) : MIX l yX8_gated wtX8_gated rmX8_gated g [.ref (g.2.2.2 0), .int (i32 a1), .int (i32 a2)] M sz post := by
  refine Met.ofW (cc := cX8_gated) (maxL := 4) (ret := (some .int)) (by decide) rfl ?_
  intro p e s m args below meth c s₁ B hml hv
  obtain ⟨rfl, hpre⟩ := hv
  have hsz := hpre.1
  subst hsz
  have C : Cx p m c cX8_gated 4 s _ lw_g RX8 meth (some .int) := ⟨⟨B.exec, B.bytes, hml, findClass_of_methodNamed B.named, fun w h => atoms_spec (ws := wtX8_gated) B.pre w (List.mem_cons_of_mem _ h)⟩, B.returns, B.notSynchronized⟩
  obtain ⟨⟨hx, hb, hml, hown, hts⟩, hr, hlk⟩ := id C
  have I := InG.start hpre
  have hl := lv_entry ([.ref (g.2.2.2 0), .int (i32 a1), .int (i32 a2)]) (n := 4) (Nat.le_of_ble_eq_true rfl)
  rw [lg_entry_eq]
  generalize (lg_sl ([.ref (g.2.2.2 0), .int (i32 a1), .int (i32 a2)]) ++ List.replicate (4 - (lg_sl ([.ref (g.2.2.2 0), .int (i32 a1), .int (i32 a2)])).length) Slot.unset).toArray = ls at hl ⊢
  have hl : lv_has ls 4 [(0, .ref (g.2.2.2 0)), (1, .int (i32 a1)), (2, .int (i32 a2))] := hl
  show W p l e rmX8_gated s m _ below meth c s.heap [] 0 0 (QIX below _ s g post) _
  refine lv_aload_n hx hb dX8_gated_0 rfl (lv_at hl 0 rfl) ?_
  refine lv_iload_n hx hb dX8_gated_1 rfl (lv_at hl 1 rfl) ?_
  refine lv_iload_n hx hb dX8_gated_2 rfl (lv_at hl 2 rfl) ?_
  refine g_callVi (o := 0) (As := [.int (i32 a1), .int (i32 a2)]) (rest := []) ⟨hx, hb, hml, hown, hts⟩ I (mX8_refusalOfMoving l g a1 a2 ha1 ha2 M _ _ hw) (cwV 2 hts (gd_V wm_X8_134 wi_X8_refusalOfMoving wl_X8_refusalOfMoving wn_X8 wc_X8_refusalOfMoving) rfl rfl rfl wd_X8_refusalOfMoving ⟨Nat.le_of_ble_eq_true rfl, Nat.le_of_ble_eq_true rfl⟩) (by omega) (by omega) obX_0 rfl rfl hl.1 rfl (Nat.le_of_ble_eq_true rfl) dX8_gated_3 ⟨Nat.zero_le _, Nat.zero_le _⟩ (fun r3_0 M3_0 H locs hr3_0 hw I => ?_)
  refine lv_istore_n (lv' := [(3, .int (i32 r3_0)), (0, .ref (g.2.2.2 0)), (1, .int (i32 a1)), (2, .int (i32 a2))]) hx hb dX8_gated_6 rfl hl (by decide) rfl (fun ls hl => ?_)
  refine lv_iload_n hx hb dX8_gated_7 rfl (lv_at hl 0 rfl) ?_
  refine li_if_eq (tgt := 13) hx hb dX8_gated_8 (by decide) hr3_0 (fun c_2 => ?_) (fun c_2 => ?_)
  · replace hw := hw.1 c_2
    refine lv_aload_n hx hb dX8_gated_13 rfl (lv_at hl 1 rfl) ?_
    refine xg_0_4 hx hb hts wu_X8 hown I wf_X8_40 dX8_gated_14 ?_
    refine lv_aload_n hx hb dX8_gated_17 rfl (lv_at hl 1 rfl) ?_
    refine xg_0_0 hx hb hts wu_X8 hown I wf_X8_12 dX8_gated_18 ?_
    refine lv_aload_n hx hb dX8_gated_21 rfl (lv_at hl 1 rfl) ?_
    refine xg_0_1 hx hb hts wu_X8 hown I wf_X8_19 dX8_gated_22 ?_
    refine xg_2_1 hx hb hts wu_X2 hown I wf_X8_100 dX8_gated_25 ?_
    refine lv_iload_n hx hb dX8_gated_28 rfl (lv_at hl 2 rfl) ?_
    obtain ⟨h_3, hw⟩ := hw
    refine x_aald_12 hx hb I h_3 dX8_gated_29 ?_
    refine lv_aload_n hx hb dX8_gated_30 rfl (lv_at hl 1 rfl) ?_
    refine xg_0_1 hx hb hts wu_X8 hown I wf_X8_19 dX8_gated_31 ?_
    refine xg_2_1 hx hb hts wu_X2 hown I wf_X8_100 dX8_gated_34 ?_
    refine lv_iload_n hx hb dX8_gated_37 rfl (lv_at hl 3 rfl) ?_
    obtain ⟨h_4, hw⟩ := hw
    refine x_aald_12 hx hb I h_4 dX8_gated_38 ?_
    refine g_callVi (o := 5) (As := [.ref (g.2.2.2 1), .ref (g.2.2.2 (80 + a1)), .ref (g.2.2.2 (80 + a2))]) (rest := []) ⟨hx, hb, hml, hown, hts⟩ I (mX4_cheapestThroughGates l g (80 + a1) (80 + a2) M3_0 _ _ hw) (cwV 3 hts (gd_V wm_X8_185 wi_X4_cheapestThroughGates wl_X4_cheapestThroughGates wn_X4 wc_X4_cheapestThroughGates) rfl rfl rfl wd_X4_cheapestThroughGates ⟨Nat.le_of_ble_eq_true rfl, Nat.le_of_ble_eq_true rfl⟩) (by omega) (by omega) obX_5 rfl rfl hl.1 rfl (Nat.le_of_ble_eq_true rfl) dX8_gated_39 ⟨Nat.zero_le _, Nat.zero_le _⟩ (fun r39_4 M39_4 H locs hr39_4 hw I => ?_)
    exact g_iret hx hb hr hlk I hr39_4 hw dX8_gated_42
  · replace hw := hw.2 c_2
    refine lv_iload_n hx hb dX8_gated_11 rfl (lv_at hl 0 rfl) ?_
    exact g_iret hx hb hr hlk I hr3_0 hw dX8_gated_12
abbrev rmX8_draft : Room := { frames := 1, cells := 0, slots := 0, locals := 21 }
abbrev wtX8_draft : List Cond := Cond.code yX8_draft cX8_draft 5 (some .int) :: lw_g
set_option maxRecDepth 100000 in
set_option maxHeartbeats 4000000 in
theorem bX8_draft_22 {p : Program} {l : Launch} {e : Env} {s : State} {m : MethodId} {args : Array Value} {below : List Frame} {meth : Method} {c : Code} {g : GP} (C : Cx p m c cX8_draft 5 s args lw_g RX8 meth (some .int)) (post : Int → Mem → Prop) : ∀ (M : Mem) (H : Heap) (locs : List Loc) (ls : Array Slot), jbX8_draft_22 post  M → IX g s M H locs → lv_has ls 5 [(0, .ref (g.2.2.2 0))] → W p l e rmX8_draft s m args below meth c H locs 0 0 (QIX below args s g post) (F0 m 22 ls []) := by
  obtain ⟨⟨hx, hb, hml, hown, hts⟩, hr, hlk⟩ := id C
  intro M H locs ls hw I hl
  refine lv_bipush (v := i32 (-2)) hx hb dX8_draft_22 (by decide) ?_
  exact g_iret hx hb hr hlk I (by decide) hw dX8_draft_24
set_option maxRecDepth 100000 in
set_option maxHeartbeats 4000000 in
theorem bX8_draft_36 {p : Program} {l : Launch} {e : Env} {s : State} {m : MethodId} {args : Array Value} {below : List Frame} {meth : Method} {c : Code} {g : GP} (C : Cx p m c cX8_draft 5 s args lw_g RX8 meth (some .int)) (post : Int → Mem → Prop) : ∀ (M : Mem) (H : Heap) (locs : List Loc) (ls : Array Slot), jbX8_draft_36 post  M → IX g s M H locs → lv_has ls 5 [(0, .ref (g.2.2.2 0))] → W p l e rmX8_draft s m args below meth c H locs 0 0 (QIX below args s g post) (F0 m 36 ls []) := by
  obtain ⟨⟨hx, hb, hml, hown, hts⟩, hr, hlk⟩ := id C
  intro M H locs ls hw I hl
  refine lv_bipush (v := i32 (-3)) hx hb dX8_draft_36 (by decide) ?_
  exact g_iret hx hb hr hlk I (by decide) hw dX8_draft_38
set_option maxRecDepth 100000 in
set_option maxHeartbeats 4000000 in
theorem mX8_draft (l : Launch) (g : GP) (a1 a2 a3 : Int) (ha1 : inR a1) (ha2 : inR a2) (ha3 : inR a3) (M : Mem) (post : Int → Mem → Prop) (sz : Nat) (hw : wpX8_draft a1 a2 a3 M post) : MIX l yX8_draft wtX8_draft rmX8_draft g [.ref (g.2.2.2 0), .int (i32 a1), .int (i32 a2), .int (i32 a3)] M sz post := by
  refine Met.ofW (cc := cX8_draft) (maxL := 5) (ret := (some .int)) (by decide) rfl ?_
  intro p e s m args below meth c s₁ B hml hv
  obtain ⟨rfl, hpre⟩ := hv
  have hsz := hpre.1
  subst hsz
  have C : Cx p m c cX8_draft 5 s _ lw_g RX8 meth (some .int) := ⟨⟨B.exec, B.bytes, hml, findClass_of_methodNamed B.named, fun w h => atoms_spec (ws := wtX8_draft) B.pre w (List.mem_cons_of_mem _ h)⟩, B.returns, B.notSynchronized⟩
  obtain ⟨⟨hx, hb, hml, hown, hts⟩, hr, hlk⟩ := id C
  have I := InG.start hpre
  have hl := lv_entry ([.ref (g.2.2.2 0), .int (i32 a1), .int (i32 a2), .int (i32 a3)]) (n := 5) (Nat.le_of_ble_eq_true rfl)
  rw [lg_entry_eq]
  generalize (lg_sl ([.ref (g.2.2.2 0), .int (i32 a1), .int (i32 a2), .int (i32 a3)]) ++ List.replicate (5 - (lg_sl ([.ref (g.2.2.2 0), .int (i32 a1), .int (i32 a2), .int (i32 a3)])).length) Slot.unset).toArray = ls at hl ⊢
  have hl : lv_has ls 5 [(0, .ref (g.2.2.2 0)), (1, .int (i32 a1)), (2, .int (i32 a2)), (3, .int (i32 a3))] := hl
  show W p l e rmX8_draft s m _ below meth c s.heap [] 0 0 (QIX below _ s g post) _
  refine lv_aload_n hx hb dX8_draft_0 rfl (lv_at hl 0 rfl) ?_
  refine xg_0_0 hx hb hts wu_X8 hown I wf_X8_12 dX8_draft_1 ?_
  refine lv_iload_n hx hb dX8_draft_4 rfl (lv_at hl 1 rfl) ?_
  refine g_callVi (o := 1) (As := [.int (i32 a1)]) (rest := []) ⟨hx, hb, hml, hown, hts⟩ I (mX3_has l g a1 ha1 M _ _ hw) (cwV 1 hts (gd_V wm_X8_85 wi_X3_has wl_X3_has wn_X3 wc_X3_has) rfl rfl rfl wd_X3_has ⟨Nat.le_of_ble_eq_true rfl, Nat.le_of_ble_eq_true rfl⟩) (by omega) (by omega) obX_1 rfl rfl hl.1 rfl (Nat.le_of_ble_eq_true rfl) dX8_draft_5 ⟨Nat.zero_le _, Nat.zero_le _⟩ (fun r5_0 M5_0 H locs hr5_0 hw I => ?_)
  refine li_if_eq (tgt := 22) hx hb dX8_draft_8 (by decide) hr5_0 (fun c_2 => ?_) (fun c_2 => ?_)
  · replace hw := hw.1 c_2
    exact bX8_draft_22 C post _ _ _ _ hw I (lv_sub hl [0] rfl)
  · replace hw := hw.2 c_2
    refine lv_aload_n hx hb dX8_draft_11 rfl (lv_at hl 0 rfl) ?_
    refine xg_0_0 hx hb hts wu_X8 hown I wf_X8_12 dX8_draft_12 ?_
    refine lv_iload_n hx hb dX8_draft_15 rfl (lv_at hl 2 rfl) ?_
    refine g_callVi (o := 1) (As := [.int (i32 a2)]) (rest := []) ⟨hx, hb, hml, hown, hts⟩ I (mX3_has l g a2 ha2 M5_0 _ _ hw) (cwV 1 hts (gd_V wm_X8_85 wi_X3_has wl_X3_has wn_X3 wc_X3_has) rfl rfl rfl wd_X3_has ⟨Nat.le_of_ble_eq_true rfl, Nat.le_of_ble_eq_true rfl⟩) (by omega) (by omega) obX_1 rfl rfl hl.1 rfl (Nat.le_of_ble_eq_true rfl) dX8_draft_16 ⟨Nat.zero_le _, Nat.zero_le _⟩ (fun r16_2 M16_2 H locs hr16_2 hw I => ?_)
    refine li_if_ne (tgt := 25) hx hb dX8_draft_19 (by decide) hr16_2 (fun c_4 => ?_) (fun c_4 => ?_)
    · replace hw := hw.1 c_4
      refine lv_iload_n hx hb dX8_draft_25 rfl (lv_at hl 3 rfl) ?_
      refine li_if_lt (tgt := 36) hx hb dX8_draft_26 (by decide) ha3 (fun c_5 => ?_) (fun c_5 => ?_)
      · replace hw := hw.1 c_5
        exact bX8_draft_36 C post _ _ _ _ hw I (lv_sub hl [0] rfl)
      · replace hw := hw.2 c_5
        refine lv_iload_n hx hb dX8_draft_29 rfl (lv_at hl 3 rfl) ?_
        refine lv_sipush (v := i32 10000) hx hb dX8_draft_30 (by decide) ?_
        refine li_icmp_le (tgt := 39) hx hb dX8_draft_33 (by decide) ha3 (by decide) (fun c_6 => ?_) (fun c_6 => ?_)
        · replace hw := hw.1 c_6
          refine lv_aload_n hx hb dX8_draft_39 rfl (lv_at hl 0 rfl) ?_
          refine xg_0_3 hx hb hts wu_X8 hown I wf_X8_33 dX8_draft_40 ?_
          refine xg_4_0 hx hb hts wu_X1 hown I wf_X8_189 dX8_draft_43 ?_
          refine lv_iload_n hx hb dX8_draft_46 rfl (lv_at hl 1 rfl) ?_
          obtain ⟨h_7, hw⟩ := hw
          refine x_aald_13 hx hb I h_7 dX8_draft_47 ?_
          refine lv_iload_n hx hb dX8_draft_48 rfl (lv_at hl 2 rfl) ?_
          obtain ⟨h_8, hw⟩ := hw
          refine x_iald hx hb I (60 + a1) (lenX_60 h_7) h_8 dX8_draft_49 ?_
          have h_9 := I.rng (60 + a1) a2
          refine li_name (fun v50_9 ev50_9 => ?_)
          replace hw := hw v50_9 ev50_9
          have hv50_9 : inR v50_9 := ev50_9 ▸ h_9
          refine lv_istore (lv' := [(4, .int (i32 v50_9)), (0, .ref (g.2.2.2 0)), (1, .int (i32 a1)), (2, .int (i32 a2)), (3, .int (i32 a3))]) hx hb dX8_draft_50 hl (by decide) rfl (fun ls hl => ?_)
          refine lv_aload_n hx hb dX8_draft_52 rfl (lv_at hl 1 rfl) ?_
          refine xg_0_3 hx hb hts wu_X8 hown I wf_X8_33 dX8_draft_53 ?_
          refine xg_4_0 hx hb hts wu_X1 hown I wf_X8_189 dX8_draft_56 ?_
          refine lv_iload_n hx hb dX8_draft_59 rfl (lv_at hl 2 rfl) ?_
          obtain ⟨h_11, hw⟩ := hw
          refine x_aald_13 hx hb I h_11 dX8_draft_60 ?_
          refine lv_iload_n hx hb dX8_draft_61 rfl (lv_at hl 3 rfl) ?_
          refine lv_iload_n hx hb dX8_draft_62 rfl (lv_at hl 4 rfl) ?_
          obtain ⟨h_12, hw⟩ := hw
          refine x_iast hx hb I (60 + a1) (lenX_60 h_11) h_12 ha3 dX8_draft_63 (fun H locs M63_12 eM63_12 I => ?_)
          replace hw := hw M63_12 eM63_12
          refine lv_iload hx hb dX8_draft_64 (lv_at hl 0 rfl) ?_
          exact g_iret hx hb hr hlk I hv50_9 hw dX8_draft_66
        · replace hw := hw.2 c_6
          exact bX8_draft_36 C post _ _ _ _ hw I (lv_sub hl [0] rfl)
    · replace hw := hw.2 c_4
      exact bX8_draft_22 C post _ _ _ _ hw I (lv_sub hl [0] rfl)
abbrev rmX8_clear : Room := { frames := 2, cells := 0, slots := 0, locals := 44 }
abbrev wtX8_clear : List Cond := Cond.code yX8_clear cX8_clear 2 (some .int) :: lw_g
set_option maxRecDepth 100000 in
set_option maxHeartbeats 4000000 in
theorem mX8_clear (l : Launch) (g : GP) (M : Mem) (post : Int → Mem → Prop) (sz : Nat) (hw : wpX8_clear M post) : MIX l yX8_clear wtX8_clear rmX8_clear g [.ref (g.2.2.2 0)] M sz post := by
  refine Met.ofW (cc := cX8_clear) (maxL := 2) (ret := (some .int)) (by decide) rfl ?_
  intro p e s m args below meth c s₁ B hml hv
  obtain ⟨rfl, hpre⟩ := hv
  have hsz := hpre.1
  subst hsz
  have C : Cx p m c cX8_clear 2 s _ lw_g RX8 meth (some .int) := ⟨⟨B.exec, B.bytes, hml, findClass_of_methodNamed B.named, fun w h => atoms_spec (ws := wtX8_clear) B.pre w (List.mem_cons_of_mem _ h)⟩, B.returns, B.notSynchronized⟩
  obtain ⟨⟨hx, hb, hml, hown, hts⟩, hr, hlk⟩ := id C
  have I := InG.start hpre
  have hl := lv_entry ([.ref (g.2.2.2 0)]) (n := 2) (Nat.le_of_ble_eq_true rfl)
  rw [lg_entry_eq]
  generalize (lg_sl ([.ref (g.2.2.2 0)]) ++ List.replicate (2 - (lg_sl ([.ref (g.2.2.2 0)])).length) Slot.unset).toArray = ls at hl ⊢
  have hl : lv_has ls 2 [(0, .ref (g.2.2.2 0))] := hl
  show W p l e rmX8_clear s m _ below meth c s.heap [] 0 0 (QIX below _ s g post) _
  refine lv_aload_n hx hb dX8_clear_0 rfl (lv_at hl 0 rfl) ?_
  refine xg_0_3 hx hb hts wu_X8 hown I wf_X8_33 dX8_clear_1 ?_
  refine g_callVi (o := 4) (As := []) (rest := []) ⟨hx, hb, hml, hown, hts⟩ I (mX1_others l g M _ _ hw) (cwV 0 hts (gd_V wm_X8_192 wi_X1_others wl_X1_others wn_X1 wc_X1_others) rfl rfl rfl wd_X1_others ⟨Nat.le_of_ble_eq_true rfl, Nat.le_of_ble_eq_true rfl⟩) (by omega) (by omega) obX_4 rfl rfl hl.1 rfl (Nat.le_of_ble_eq_true rfl) dX8_clear_4 ⟨Nat.zero_le _, Nat.zero_le _⟩ (fun r4_0 M4_0 H locs hr4_0 hw I => ?_)
  refine lv_istore_n (lv' := [(1, .int (i32 r4_0)), (0, .ref (g.2.2.2 0))]) hx hb dX8_clear_7 rfl hl (by decide) rfl (fun ls hl => ?_)
  refine lv_aload_n hx hb dX8_clear_8 rfl (lv_at hl 1 rfl) ?_
  refine xg_0_3 hx hb hts wu_X8 hown I wf_X8_33 dX8_clear_9 ?_
  refine g_callVv (o := 4) (As := []) (rest := []) ⟨hx, hb, hml, hown, hts⟩ I (mX1_wipe l g M4_0 _ _ hw) (cwV 0 hts (gd_V wm_X8_195 wi_X1_wipe wl_X1_wipe wn_X1 wc_X1_wipe) rfl rfl rfl wd_X1_wipe ⟨Nat.le_of_ble_eq_true rfl, Nat.le_of_ble_eq_true rfl⟩) (by omega) (by omega) obX_4 rfl rfl hl.1 rfl (Nat.le_of_ble_eq_true rfl) dX8_clear_12 ⟨Nat.zero_le _, Nat.zero_le _⟩ (fun M12_1 H locs hw I => ?_)
  refine lv_iload_n hx hb dX8_clear_15 rfl (lv_at hl 0 rfl) ?_
  exact g_iret hx hb hr hlk I hr4_0 hw dX8_clear_16
abbrev rmX8_copy : Room := { frames := 6, cells := 0, slots := 0, locals := 150 }
abbrev wtX8_copy : List Cond := Cond.code yX8_copy cX8_copy 6 (some .int) :: lw_g
set_option maxRecDepth 100000 in
set_option maxHeartbeats 4000000 in
theorem bX8_copy_37 {p : Program} {l : Launch} {e : Env} {s : State} {m : MethodId} {args : Array Value} {below : List Frame} {meth : Method} {c : Code} {g : GP} (C : Cx p m c cX8_copy 6 s args lw_g RX8 meth (some .int)) (post : Int → Mem → Prop) (k22 : Int → Mem → Prop) (hk22 : ∀ (x4 : Int), inR x4 → ∀ (M : Mem) (H : Heap) (locs : List Loc) (ls : Array Slot), k22 x4 M → IX g s M H locs → lv_has ls 6 [(0, .ref (g.2.2.2 0)), (4, .int (i32 x4))] → W p l e rmX8_copy s m args below meth c H locs 0 0 (QIX below args s g post) (F0 m 22 ls [])) : ∀ (n : Nat), ∀ (x4 x5 : Int), inR x4 → inR x5 → ∀ (M : Mem) (H : Heap) (locs : List Loc) (ls : Array Slot), lpX8_copy_37 post k22 n x4 x5 M → IX g s M H locs → lv_has ls 6 [(0, .ref (g.2.2.2 0)), (4, .int (i32 x4)), (5, .int (i32 x5))] → W p l e rmX8_copy s m args below meth c H locs 0 0 (QIX below args s g post) (F0 m 37 ls []) := by
  obtain ⟨⟨hx, hb, hml, hown, hts⟩, hr, hlk⟩ := id C
  intro n
  induction n with
  | zero =>
    intro x4 x5 h4 h5 M H locs ls hw
    exact hw.elim
  | succ n ih =>
    intro x4 x5 h4 h5 M H locs ls hw I hl
    refine lv_iload hx hb dX8_copy_37 (lv_at hl 2 rfl) ?_
    refine lv_aload_n hx hb dX8_copy_39 rfl (lv_at hl 0 rfl) ?_
    refine xg_0_0 hx hb hts wu_X8 hown I wf_X8_12 dX8_copy_40 ?_
    refine xg_1_0 hx hb hts wu_X3 hown I wf_X8_74 dX8_copy_43 ?_
    have h_1 := I.rng 1 0
    refine li_icmp_ge (tgt := 81) hx hb dX8_copy_46 (by decide) h5 h_1 (fun c_2 => ?_) (fun c_2 => ?_)
    · replace hw := hw.1 c_2
      refine li_iinc (lv' := [(4, .int (i32 (x4 + 1))), (0, .ref (g.2.2.2 0)), (5, .int (i32 x5))]) hx hb dX8_copy_81 hl (k := 1) rfl (by decide) rfl (fun ls hl => ?_)
      refine lv_goto (tgt := 22) hx hb dX8_copy_84 (by decide) ?_
      obtain ⟨h_3, hw⟩ := hw
      exact hk22 (x4 + 1) h_3 _ _ _ _ hw I (lv_sub hl [1, 0] rfl)
    · replace hw := hw.2 c_2
      refine lv_aload_n hx hb dX8_copy_49 rfl (lv_at hl 0 rfl) ?_
      refine xg_0_3 hx hb hts wu_X8 hown I wf_X8_33 dX8_copy_50 ?_
      refine xg_4_0 hx hb hts wu_X1 hown I wf_X8_189 dX8_copy_53 ?_
      refine lv_iload hx hb dX8_copy_56 (lv_at hl 1 rfl) ?_
      obtain ⟨h_4, hw⟩ := hw
      refine x_aald_13 hx hb I h_4 dX8_copy_58 ?_
      refine lv_iload hx hb dX8_copy_59 (lv_at hl 2 rfl) ?_
      refine lv_aload_n hx hb dX8_copy_61 rfl (lv_at hl 0 rfl) ?_
      refine xg_0_5 hx hb hts wu_X8 hown I wf_X8_47 dX8_copy_62 ?_
      refine xg_6_0 hx hb hts wu_X6 hown I wf_X8_148 dX8_copy_65 ?_
      refine lv_iload hx hb dX8_copy_68 (lv_at hl 1 rfl) ?_
      obtain ⟨h_5, hw⟩ := hw
      refine x_aald_14 hx hb I h_5 dX8_copy_70 ?_
      refine lv_iload hx hb dX8_copy_71 (lv_at hl 2 rfl) ?_
      obtain ⟨h_6, hw⟩ := hw
      refine x_iald hx hb I (70 + x4) (lenX_70 h_5) h_6 dX8_copy_73 ?_
      have h_7 := I.rng (70 + x4) x5
      obtain ⟨h_8, hw⟩ := hw
      refine x_iast hx hb I (60 + x4) (lenX_60 h_4) h_8 h_7 dX8_copy_74 (fun H locs M74_8 eM74_8 I => ?_)
      replace hw := hw M74_8 eM74_8
      refine li_iinc (lv' := [(5, .int (i32 (x5 + 1))), (0, .ref (g.2.2.2 0)), (4, .int (i32 x4))]) hx hb dX8_copy_75 hl (k := 2) rfl (by decide) rfl (fun ls hl => ?_)
      refine lv_goto (tgt := 37) hx hb dX8_copy_78 (by decide) ?_
      obtain ⟨h_10, hw⟩ := hw
      exact ih x4 (x5 + 1) h4 h_10 _ _ _ _ hw I (lv_sub hl [1, 2, 0] rfl)
set_option maxRecDepth 100000 in
set_option maxHeartbeats 4000000 in
theorem bX8_copy_22 {p : Program} {l : Launch} {e : Env} {s : State} {m : MethodId} {args : Array Value} {below : List Frame} {meth : Method} {c : Code} {g : GP} (C : Cx p m c cX8_copy 6 s args lw_g RX8 meth (some .int)) (post : Int → Mem → Prop) : ∀ (n : Nat), ∀ (x4 : Int), inR x4 → ∀ (M : Mem) (H : Heap) (locs : List Loc) (ls : Array Slot), lpX8_copy_22 post n x4 M → IX g s M H locs → lv_has ls 6 [(0, .ref (g.2.2.2 0)), (4, .int (i32 x4))] → W p l e rmX8_copy s m args below meth c H locs 0 0 (QIX below args s g post) (F0 m 22 ls []) := by
  obtain ⟨⟨hx, hb, hml, hown, hts⟩, hr, hlk⟩ := id C
  intro n
  induction n with
  | zero =>
    intro x4 h4 M H locs ls hw
    exact hw.elim
  | succ n ih =>
    intro x4 h4 M H locs ls hw I hl
    refine lv_iload hx hb dX8_copy_22 (lv_at hl 1 rfl) ?_
    refine lv_aload_n hx hb dX8_copy_24 rfl (lv_at hl 0 rfl) ?_
    refine xg_0_0 hx hb hts wu_X8 hown I wf_X8_12 dX8_copy_25 ?_
    refine xg_1_0 hx hb hts wu_X3 hown I wf_X8_74 dX8_copy_28 ?_
    have h_1 := I.rng 1 0
    refine li_icmp_ge (tgt := 87) hx hb dX8_copy_31 (by decide) h4 h_1 (fun c_2 => ?_) (fun c_2 => ?_)
    · replace hw := hw.1 c_2
      refine lv_aload_n hx hb dX8_copy_87 rfl (lv_at hl 0 rfl) ?_
      refine xg_0_3 hx hb hts wu_X8 hown I wf_X8_33 dX8_copy_88 ?_
      refine g_callVi (o := 4) (As := []) (rest := []) ⟨hx, hb, hml, hown, hts⟩ I (mX1_others l g M _ _ hw) (cwV 0 hts (gd_V wm_X8_192 wi_X1_others wl_X1_others wn_X1 wc_X1_others) rfl rfl rfl wd_X1_others ⟨Nat.le_of_ble_eq_true rfl, Nat.le_of_ble_eq_true rfl⟩) (by omega) (by omega) obX_4 rfl rfl hl.1 rfl (Nat.le_of_ble_eq_true rfl) dX8_copy_91 ⟨Nat.zero_le _, Nat.zero_le _⟩ (fun r91_2 M91_2 H locs hr91_2 hw I => ?_)
      exact g_iret hx hb hr hlk I hr91_2 hw dX8_copy_94
    · replace hw := hw.2 c_2
      refine li_iconst hx hb dX8_copy_34 ?_
      refine lv_istore (lv' := [(5, .int (i32 0)), (0, .ref (g.2.2.2 0)), (4, .int (i32 x4))]) hx hb dX8_copy_35 hl (by decide) rfl (fun ls hl => ?_)
      obtain ⟨n1, hw⟩ := hw
      exact bX8_copy_37 C post (fun y4 N => lpX8_copy_22 post n y4 N) ih n1 x4 0 h4 (by decide) _ _ _ _ hw I (lv_sub hl [1, 2, 0] rfl)
set_option maxRecDepth 100000 in
set_option maxHeartbeats 4000000 in
theorem mX8_copy (l : Launch) (g : GP) (a1 a2 : Int) (ha1 : inR a1) (ha2 : inR a2) (M : Mem) (post : Int → Mem → Prop) (sz : Nat) (hw : wpX8_copy a1 a2 M post) : MIX l yX8_copy wtX8_copy rmX8_copy g [.ref (g.2.2.2 0), .int (i32 a1), .int (i32 a2)] M sz post := by
  refine Met.ofW (cc := cX8_copy) (maxL := 6) (ret := (some .int)) (by decide) rfl ?_
  intro p e s m args below meth c s₁ B hml hv
  obtain ⟨rfl, hpre⟩ := hv
  have hsz := hpre.1
  subst hsz
  have C : Cx p m c cX8_copy 6 s _ lw_g RX8 meth (some .int) := ⟨⟨B.exec, B.bytes, hml, findClass_of_methodNamed B.named, fun w h => atoms_spec (ws := wtX8_copy) B.pre w (List.mem_cons_of_mem _ h)⟩, B.returns, B.notSynchronized⟩
  obtain ⟨⟨hx, hb, hml, hown, hts⟩, hr, hlk⟩ := id C
  have I := InG.start hpre
  have hl := lv_entry ([.ref (g.2.2.2 0), .int (i32 a1), .int (i32 a2)]) (n := 6) (Nat.le_of_ble_eq_true rfl)
  rw [lg_entry_eq]
  generalize (lg_sl ([.ref (g.2.2.2 0), .int (i32 a1), .int (i32 a2)]) ++ List.replicate (6 - (lg_sl ([.ref (g.2.2.2 0), .int (i32 a1), .int (i32 a2)])).length) Slot.unset).toArray = ls at hl ⊢
  have hl : lv_has ls 6 [(0, .ref (g.2.2.2 0)), (1, .int (i32 a1)), (2, .int (i32 a2))] := hl
  show W p l e rmX8_copy s m _ below meth c s.heap [] 0 0 (QIX below _ s g post) _
  refine lv_aload_n hx hb dX8_copy_0 rfl (lv_at hl 0 rfl) ?_
  refine lv_iload_n hx hb dX8_copy_1 rfl (lv_at hl 1 rfl) ?_
  refine lv_iload_n hx hb dX8_copy_2 rfl (lv_at hl 2 rfl) ?_
  refine g_callVi (o := 0) (As := [.int (i32 a1), .int (i32 a2)]) (rest := []) ⟨hx, hb, hml, hown, hts⟩ I (mX8_refusalOfMoving l g a1 a2 ha1 ha2 M _ _ hw) (cwV 2 hts (gd_V wm_X8_134 wi_X8_refusalOfMoving wl_X8_refusalOfMoving wn_X8 wc_X8_refusalOfMoving) rfl rfl rfl wd_X8_refusalOfMoving ⟨Nat.le_of_ble_eq_true rfl, Nat.le_of_ble_eq_true rfl⟩) (by omega) (by omega) obX_0 rfl rfl hl.1 rfl (Nat.le_of_ble_eq_true rfl) dX8_copy_3 ⟨Nat.zero_le _, Nat.zero_le _⟩ (fun r3_0 M3_0 H locs hr3_0 hw I => ?_)
  refine lv_istore_n (lv' := [(3, .int (i32 r3_0)), (0, .ref (g.2.2.2 0)), (1, .int (i32 a1)), (2, .int (i32 a2))]) hx hb dX8_copy_6 rfl hl (by decide) rfl (fun ls hl => ?_)
  refine lv_iload_n hx hb dX8_copy_7 rfl (lv_at hl 0 rfl) ?_
  refine li_if_eq (tgt := 13) hx hb dX8_copy_8 (by decide) hr3_0 (fun c_2 => ?_) (fun c_2 => ?_)
  · replace hw := hw.1 c_2
    refine lv_aload_n hx hb dX8_copy_13 rfl (lv_at hl 1 rfl) ?_
    refine lv_iload_n hx hb dX8_copy_14 rfl (lv_at hl 2 rfl) ?_
    refine lv_iload_n hx hb dX8_copy_15 rfl (lv_at hl 3 rfl) ?_
    refine g_callVv (o := 0) (As := [.int (i32 a1), .int (i32 a2)]) (rest := []) ⟨hx, hb, hml, hown, hts⟩ I (mX8_makePlan l g a1 a2 ha1 ha2 M3_0 _ _ hw) (cwV 2 hts (gd_V wm_X8_144 wi_X8_makePlan wl_X8_makePlan wn_X8 wc_X8_makePlan) rfl rfl rfl wd_X8_makePlan ⟨Nat.le_of_ble_eq_true rfl, Nat.le_of_ble_eq_true rfl⟩) (by omega) (by omega) obX_0 rfl rfl hl.1 rfl (Nat.le_of_ble_eq_true rfl) dX8_copy_16 ⟨Nat.zero_le _, Nat.zero_le _⟩ (fun M16_2 H locs hw I => ?_)
    refine li_iconst hx hb dX8_copy_19 ?_
    refine lv_istore (lv' := [(4, .int (i32 0)), (3, .int (i32 r3_0)), (0, .ref (g.2.2.2 0)), (1, .int (i32 a1)), (2, .int (i32 a2))]) hx hb dX8_copy_20 hl (by decide) rfl (fun ls hl => ?_)
    obtain ⟨n1, hw⟩ := hw
    exact bX8_copy_22 C post n1 0 (by decide) _ _ _ _ hw I (lv_sub hl [2, 0] rfl)
  · replace hw := hw.2 c_2
    refine lv_iload_n hx hb dX8_copy_11 rfl (lv_at hl 0 rfl) ?_
    exact g_iret hx hb hr hlk I hr3_0 hw dX8_copy_12
abbrev rmX8_judge : Room := { frames := 5, cells := 0, slots := 0, locals := 121 }
abbrev wtX8_judge : List Cond := Cond.code yX8_judge cX8_judge 5 (some .int) :: lw_g
set_option maxRecDepth 100000 in
set_option maxHeartbeats 4000000 in
theorem bX8_judge_125 {p : Program} {l : Launch} {e : Env} {s : State} {m : MethodId} {args : Array Value} {below : List Frame} {meth : Method} {c : Code} {g : GP} (C : Cx p m c cX8_judge 5 s args lw_g RX8 meth (some .int)) (post : Int → Mem → Prop) : ∀ (t0 : Int), inR t0 → ∀ (M : Mem) (H : Heap) (locs : List Loc) (ls : Array Slot), jbX8_judge_125 post t0 M → IX g s M H locs → lv_has ls 5 [(0, .ref (g.2.2.2 0))] → W p l e rmX8_judge s m args below meth c H locs 0 0 (QIX below args s g post) (F0 m 125 ls [.int (i32 t0)]) := by
  obtain ⟨⟨hx, hb, hml, hown, hts⟩, hr, hlk⟩ := id C
  intro t0 ht0 M H locs ls hw I hl
  exact g_iret hx hb hr hlk I ht0 hw dX8_judge_125
set_option maxRecDepth 100000 in
set_option maxHeartbeats 4000000 in
theorem mX8_judge (l : Launch) (g : GP) (a1 a2 : Int) (ha1 : inR a1) (ha2 : inR a2) (M : Mem) (post : Int → Mem → Prop) (sz : Nat) (hw : wpX8_judge a1 a2 M post) : MIX l yX8_judge wtX8_judge rmX8_judge g [.ref (g.2.2.2 0), .int (i32 a1), .int (i32 a2)] M sz post := by
  refine Met.ofW (cc := cX8_judge) (maxL := 5) (ret := (some .int)) (by decide) rfl ?_
  intro p e s m args below meth c s₁ B hml hv
  obtain ⟨rfl, hpre⟩ := hv
  have hsz := hpre.1
  subst hsz
  have C : Cx p m c cX8_judge 5 s _ lw_g RX8 meth (some .int) := ⟨⟨B.exec, B.bytes, hml, findClass_of_methodNamed B.named, fun w h => atoms_spec (ws := wtX8_judge) B.pre w (List.mem_cons_of_mem _ h)⟩, B.returns, B.notSynchronized⟩
  obtain ⟨⟨hx, hb, hml, hown, hts⟩, hr, hlk⟩ := id C
  have I := InG.start hpre
  have hl := lv_entry ([.ref (g.2.2.2 0), .int (i32 a1), .int (i32 a2)]) (n := 5) (Nat.le_of_ble_eq_true rfl)
  rw [lg_entry_eq]
  generalize (lg_sl ([.ref (g.2.2.2 0), .int (i32 a1), .int (i32 a2)]) ++ List.replicate (5 - (lg_sl ([.ref (g.2.2.2 0), .int (i32 a1), .int (i32 a2)])).length) Slot.unset).toArray = ls at hl ⊢
  have hl : lv_has ls 5 [(0, .ref (g.2.2.2 0)), (1, .int (i32 a1)), (2, .int (i32 a2))] := hl
  show W p l e rmX8_judge s m _ below meth c s.heap [] 0 0 (QIX below _ s g post) _
  refine lv_aload_n hx hb dX8_judge_0 rfl (lv_at hl 0 rfl) ?_
  refine lv_iload_n hx hb dX8_judge_1 rfl (lv_at hl 1 rfl) ?_
  refine lv_iload_n hx hb dX8_judge_2 rfl (lv_at hl 2 rfl) ?_
  refine g_callVi (o := 0) (As := [.int (i32 a1), .int (i32 a2)]) (rest := []) ⟨hx, hb, hml, hown, hts⟩ I (mX8_refusalOfMoving l g a1 a2 ha1 ha2 M _ _ hw) (cwV 2 hts (gd_V wm_X8_134 wi_X8_refusalOfMoving wl_X8_refusalOfMoving wn_X8 wc_X8_refusalOfMoving) rfl rfl rfl wd_X8_refusalOfMoving ⟨Nat.le_of_ble_eq_true rfl, Nat.le_of_ble_eq_true rfl⟩) (by omega) (by omega) obX_0 rfl rfl hl.1 rfl (Nat.le_of_ble_eq_true rfl) dX8_judge_3 ⟨Nat.zero_le _, Nat.zero_le _⟩ (fun r3_0 M3_0 H locs hr3_0 hw I => ?_)
  refine lv_istore_n (lv' := [(3, .int (i32 r3_0)), (0, .ref (g.2.2.2 0)), (1, .int (i32 a1)), (2, .int (i32 a2))]) hx hb dX8_judge_6 rfl hl (by decide) rfl (fun ls hl => ?_)
  refine lv_iload_n hx hb dX8_judge_7 rfl (lv_at hl 0 rfl) ?_
  refine li_if_eq (tgt := 13) hx hb dX8_judge_8 (by decide) hr3_0 (fun c_2 => ?_) (fun c_2 => ?_)
  · replace hw := hw.1 c_2
    refine lv_aload_n hx hb dX8_judge_13 rfl (lv_at hl 1 rfl) ?_
    refine xg_0_3 hx hb hts wu_X8 hown I wf_X8_33 dX8_judge_14 ?_
    refine lv_aload_n hx hb dX8_judge_17 rfl (lv_at hl 1 rfl) ?_
    refine xg_0_0 hx hb hts wu_X8 hown I wf_X8_12 dX8_judge_18 ?_
    refine xg_1_0 hx hb hts wu_X3 hown I wf_X8_74 dX8_judge_21 ?_
    have h_3 := I.rng 1 0
    refine lv_aload_n hx hb dX8_judge_24 rfl (lv_at hl 1 rfl) ?_
    refine xg_0_1 hx hb hts wu_X8 hown I wf_X8_19 dX8_judge_25 ?_
    refine xg_2_1 hx hb hts wu_X2 hown I wf_X8_100 dX8_judge_28 ?_
    refine lv_iload_n hx hb dX8_judge_31 rfl (lv_at hl 2 rfl) ?_
    obtain ⟨h_4, hw⟩ := hw
    refine x_aald_12 hx hb I h_4 dX8_judge_32 ?_
    refine g_callVi (o := 4) (As := [.int (i32 (M3_0 1 0)), .ref (g.2.2.2 (80 + a1))]) (rest := []) ⟨hx, hb, hml, hown, hts⟩ I (mX1_firstWrongFrom l g (80 + a1) (M3_0 1 0) h_3 M3_0 _ _ hw) (cwV 2 hts (gd_V wm_X8_198 wi_X1_firstWrongFrom wl_X1_firstWrongFrom wn_X1 wc_X1_firstWrongFrom) rfl rfl rfl wd_X1_firstWrongFrom ⟨Nat.le_of_ble_eq_true rfl, Nat.le_of_ble_eq_true rfl⟩) (by omega) (by omega) obX_4 rfl rfl hl.1 rfl (Nat.le_of_ble_eq_true rfl) dX8_judge_33 ⟨Nat.zero_le _, Nat.zero_le _⟩ (fun r33_4 M33_4 H locs hr33_4 hw I => ?_)
    refine lv_istore (lv' := [(4, .int (i32 r33_4)), (3, .int (i32 r3_0)), (0, .ref (g.2.2.2 0)), (1, .int (i32 a1)), (2, .int (i32 a2))]) hx hb dX8_judge_36 hl (by decide) rfl (fun ls hl => ?_)
    refine lv_iload hx hb dX8_judge_38 (lv_at hl 0 rfl) ?_
    refine li_iconst hx hb dX8_judge_40 ?_
    refine li_icmp_eq (tgt := 52) hx hb dX8_judge_41 (by decide) hr33_4 (by decide) (fun c_6 => ?_) (fun c_6 => ?_)
    · replace hw := hw.1 c_6
      refine lv_aload_n hx hb dX8_judge_52 rfl (lv_at hl 2 rfl) ?_
      refine xg_0_3 hx hb hts wu_X8 hown I wf_X8_33 dX8_judge_53 ?_
      refine lv_aload_n hx hb dX8_judge_56 rfl (lv_at hl 2 rfl) ?_
      refine xg_0_0 hx hb hts wu_X8 hown I wf_X8_12 dX8_judge_57 ?_
      refine xg_1_0 hx hb hts wu_X3 hown I wf_X8_74 dX8_judge_60 ?_
      have h_7 := I.rng 1 0
      refine lv_aload_n hx hb dX8_judge_63 rfl (lv_at hl 2 rfl) ?_
      refine xg_0_1 hx hb hts wu_X8 hown I wf_X8_19 dX8_judge_64 ?_
      refine xg_2_1 hx hb hts wu_X2 hown I wf_X8_100 dX8_judge_67 ?_
      refine lv_iload_n hx hb dX8_judge_70 rfl (lv_at hl 4 rfl) ?_
      obtain ⟨h_8, hw⟩ := hw
      refine x_aald_12 hx hb I h_8 dX8_judge_71 ?_
      refine g_callVi (o := 4) (As := [.int (i32 (M33_4 1 0)), .ref (g.2.2.2 (80 + a2))]) (rest := []) ⟨hx, hb, hml, hown, hts⟩ I (mX1_firstWrongTo l g (80 + a2) (M33_4 1 0) h_7 M33_4 _ _ hw) (cwV 2 hts (gd_V wm_X8_202 wi_X1_firstWrongTo wl_X1_firstWrongTo wn_X1 wc_X1_firstWrongTo) rfl rfl rfl wd_X1_firstWrongTo ⟨Nat.le_of_ble_eq_true rfl, Nat.le_of_ble_eq_true rfl⟩) (by omega) (by omega) obX_4 rfl rfl hl.1 rfl (Nat.le_of_ble_eq_true rfl) dX8_judge_72 ⟨Nat.zero_le _, Nat.zero_le _⟩ (fun r72_8 M72_8 H locs hr72_8 hw I => ?_)
      refine lv_istore (lv' := [(4, .int (i32 r72_8)), (3, .int (i32 r3_0)), (0, .ref (g.2.2.2 0)), (1, .int (i32 a1)), (2, .int (i32 a2))]) hx hb dX8_judge_75 hl (by decide) rfl (fun ls hl => ?_)
      refine lv_iload hx hb dX8_judge_77 (lv_at hl 0 rfl) ?_
      refine li_iconst hx hb dX8_judge_79 ?_
      refine li_icmp_eq (tgt := 91) hx hb dX8_judge_80 (by decide) hr72_8 (by decide) (fun c_10 => ?_) (fun c_10 => ?_)
      · replace hw := hw.1 c_10
        refine lv_aload_n hx hb dX8_judge_91 rfl (lv_at hl 2 rfl) ?_
        refine lv_aload_n hx hb dX8_judge_92 rfl (lv_at hl 2 rfl) ?_
        refine xg_0_3 hx hb hts wu_X8 hown I wf_X8_33 dX8_judge_93 ?_
        refine lv_aload_n hx hb dX8_judge_96 rfl (lv_at hl 2 rfl) ?_
        refine xg_0_0 hx hb hts wu_X8 hown I wf_X8_12 dX8_judge_97 ?_
        refine g_callVi (o := 4) (As := [.ref (g.2.2.2 1)]) (rest := [.ref (g.2.2.2 0)]) ⟨hx, hb, hml, hown, hts⟩ I (mX1_cost l g M72_8 _ _ hw) (cwV 1 hts (gd_V wm_X8_205 wi_X1_cost wl_X1_cost wn_X1 wc_X1_cost) rfl rfl rfl wd_X1_cost ⟨Nat.le_of_ble_eq_true rfl, Nat.le_of_ble_eq_true rfl⟩) (by omega) (by omega) obX_4 rfl rfl hl.1 rfl (Nat.le_of_ble_eq_true rfl) dX8_judge_100 ⟨Nat.zero_le _, Nat.zero_le _⟩ (fun r100_10 M100_10 H locs hr100_10 hw I => ?_)
        refine lv_aload_n hx hb dX8_judge_103 rfl (lv_at hl 2 rfl) ?_
        refine lv_iload_n hx hb dX8_judge_104 rfl (lv_at hl 3 rfl) ?_
        refine lv_iload_n hx hb dX8_judge_105 rfl (lv_at hl 4 rfl) ?_
        refine g_callVi (o := 0) (As := [.int (i32 a1), .int (i32 a2)]) (rest := [.int (i32 r100_10), .ref (g.2.2.2 0)]) ⟨hx, hb, hml, hown, hts⟩ I (mX8_leastCost l g a1 a2 ha1 ha2 M100_10 _ _ hw) (cwV 2 hts (gd_V wm_X8_137 wi_X8_leastCost wl_X8_leastCost wn_X8 wc_X8_leastCost) rfl rfl rfl wd_X8_leastCost ⟨Nat.le_of_ble_eq_true rfl, Nat.le_of_ble_eq_true rfl⟩) (by omega) (by omega) obX_0 rfl rfl hl.1 rfl (Nat.le_of_ble_eq_true rfl) dX8_judge_106 ⟨Nat.zero_le _, Nat.zero_le _⟩ (fun r106_11 M106_11 H locs hr106_11 hw I => ?_)
        refine li_isub hx hb dX8_judge_109 ?_
        obtain ⟨h_13, hw⟩ := hw
        refine xp_0_11 hx hb hts wu_X8 hown I wf_X8_71 h_13 dX8_judge_110 (fun H locs M110_13 eM110_13 I => ?_)
        replace hw := hw M110_13 eM110_13
        refine lv_aload_n hx hb dX8_judge_113 rfl (lv_at hl 2 rfl) ?_
        refine xg_0_11 hx hb hts wu_X8 hown I wf_X8_71 dX8_judge_114 ?_
        have h_15 := I.rng 0 11
        refine li_if_le (tgt := 124) hx hb dX8_judge_117 (by decide) h_15 (fun c_16 => ?_) (fun c_16 => ?_)
        · replace hw := hw.1 c_16
          refine li_iconst hx hb dX8_judge_124 ?_
          exact bX8_judge_125 C post 0 (by decide) _ _ _ _ hw I (lv_sub hl [2] rfl)
        · replace hw := hw.2 c_16
          refine li_iconst hx hb dX8_judge_120 ?_
          refine lv_goto (tgt := 125) hx hb dX8_judge_121 (by decide) ?_
          exact bX8_judge_125 C post 3 (by decide) _ _ _ _ hw I (lv_sub hl [2] rfl)
      · replace hw := hw.2 c_10
        refine lv_aload_n hx hb dX8_judge_83 rfl (lv_at hl 2 rfl) ?_
        refine lv_iload hx hb dX8_judge_84 (lv_at hl 0 rfl) ?_
        refine xp_0_11 hx hb hts wu_X8 hown I wf_X8_71 hr72_8 dX8_judge_86 (fun H locs M86_16 eM86_16 I => ?_)
        replace hw := hw M86_16 eM86_16
        refine li_iconst hx hb dX8_judge_89 ?_
        exact g_iret hx hb hr hlk I (by decide) hw dX8_judge_90
    · replace hw := hw.2 c_6
      refine lv_aload_n hx hb dX8_judge_44 rfl (lv_at hl 2 rfl) ?_
      refine lv_iload hx hb dX8_judge_45 (lv_at hl 0 rfl) ?_
      refine xp_0_11 hx hb hts wu_X8 hown I wf_X8_71 hr33_4 dX8_judge_47 (fun H locs M47_17 eM47_17 I => ?_)
      replace hw := hw M47_17 eM47_17
      refine li_iconst hx hb dX8_judge_50 ?_
      exact g_iret hx hb hr hlk I (by decide) hw dX8_judge_51
  · replace hw := hw.2 c_2
    refine lv_iload_n hx hb dX8_judge_11 rfl (lv_at hl 0 rfl) ?_
    exact g_iret hx hb hr hlk I hr3_0 hw dX8_judge_12
abbrev rmX8_beside : Room := { frames := 0, cells := 0, slots := 0, locals := 0 }
abbrev wtX8_beside : List Cond := Cond.code yX8_beside cX8_beside 1 (some .int) :: lw_g
set_option maxRecDepth 100000 in
set_option maxHeartbeats 4000000 in
theorem mX8_beside (l : Launch) (g : GP) (M : Mem) (post : Int → Mem → Prop) (sz : Nat) (hw : wpX8_beside M post) : MIX l yX8_beside wtX8_beside rmX8_beside g [.ref (g.2.2.2 0)] M sz post := by
  refine Met.ofW (cc := cX8_beside) (maxL := 1) (ret := (some .int)) (by decide) rfl ?_
  intro p e s m args below meth c s₁ B hml hv
  obtain ⟨rfl, hpre⟩ := hv
  have hsz := hpre.1
  subst hsz
  have C : Cx p m c cX8_beside 1 s _ lw_g RX8 meth (some .int) := ⟨⟨B.exec, B.bytes, hml, findClass_of_methodNamed B.named, fun w h => atoms_spec (ws := wtX8_beside) B.pre w (List.mem_cons_of_mem _ h)⟩, B.returns, B.notSynchronized⟩
  obtain ⟨⟨hx, hb, hml, hown, hts⟩, hr, hlk⟩ := id C
  have I := InG.start hpre
  have hl := lv_entry ([.ref (g.2.2.2 0)]) (n := 1) (Nat.le_of_ble_eq_true rfl)
  rw [lg_entry_eq]
  generalize (lg_sl ([.ref (g.2.2.2 0)]) ++ List.replicate (1 - (lg_sl ([.ref (g.2.2.2 0)])).length) Slot.unset).toArray = ls at hl ⊢
  have hl : lv_has ls 1 [(0, .ref (g.2.2.2 0))] := hl
  show W p l e rmX8_beside s m _ below meth c s.heap [] 0 0 (QIX below _ s g post) _
  refine lv_aload_n hx hb dX8_beside_0 rfl (lv_at hl 0 rfl) ?_
  refine xg_0_11 hx hb hts wu_X8 hown I wf_X8_71 dX8_beside_1 ?_
  have h_1 := I.rng 0 11
  exact g_iret hx hb hr hlk I h_1 hw dX8_beside_4
abbrev rmX8_count : Room := { frames := 1, cells := 0, slots := 0, locals := 22 }
abbrev wtX8_count : List Cond := Cond.code yX8_count cX8_count 2 (some .int) :: lw_g
set_option maxRecDepth 100000 in
set_option maxHeartbeats 4000000 in
theorem bX8_count_95 {p : Program} {l : Launch} {e : Env} {s : State} {m : MethodId} {args : Array Value} {below : List Frame} {meth : Method} {c : Code} {g : GP} (C : Cx p m c cX8_count 2 s args lw_g RX8 meth (some .int)) (post : Int → Mem → Prop) : ∀ (t0 : Int), inR t0 → ∀ (M : Mem) (H : Heap) (locs : List Loc) (ls : Array Slot), jbX8_count_95 post t0 M → IX g s M H locs → lv_has ls 2 [(0, .ref (g.2.2.2 0))] → W p l e rmX8_count s m args below meth c H locs 0 0 (QIX below args s g post) (F0 m 95 ls [.int (i32 t0)]) := by
  obtain ⟨⟨hx, hb, hml, hown, hts⟩, hr, hlk⟩ := id C
  intro t0 ht0 M H locs ls hw I hl
  exact g_iret hx hb hr hlk I ht0 hw dX8_count_95
set_option maxRecDepth 100000 in
set_option maxHeartbeats 4000000 in
theorem mX8_count (l : Launch) (g : GP) (a1 : Int) (ha1 : inR a1) (M : Mem) (post : Int → Mem → Prop) (sz : Nat) (hw : wpX8_count a1 M post) : MIX l yX8_count wtX8_count rmX8_count g [.ref (g.2.2.2 0), .int (i32 a1)] M sz post := by
  refine Met.ofW (cc := cX8_count) (maxL := 2) (ret := (some .int)) (by decide) rfl ?_
  intro p e s m args below meth c s₁ B hml hv
  obtain ⟨rfl, hpre⟩ := hv
  have hsz := hpre.1
  subst hsz
  have C : Cx p m c cX8_count 2 s _ lw_g RX8 meth (some .int) := ⟨⟨B.exec, B.bytes, hml, findClass_of_methodNamed B.named, fun w h => atoms_spec (ws := wtX8_count) B.pre w (List.mem_cons_of_mem _ h)⟩, B.returns, B.notSynchronized⟩
  obtain ⟨⟨hx, hb, hml, hown, hts⟩, hr, hlk⟩ := id C
  have I := InG.start hpre
  have hl := lv_entry ([.ref (g.2.2.2 0), .int (i32 a1)]) (n := 2) (Nat.le_of_ble_eq_true rfl)
  rw [lg_entry_eq]
  generalize (lg_sl ([.ref (g.2.2.2 0), .int (i32 a1)]) ++ List.replicate (2 - (lg_sl ([.ref (g.2.2.2 0), .int (i32 a1)])).length) Slot.unset).toArray = ls at hl ⊢
  have hl : lv_has ls 2 [(0, .ref (g.2.2.2 0)), (1, .int (i32 a1))] := hl
  show W p l e rmX8_count s m _ below meth c s.heap [] 0 0 (QIX below _ s g post) _
  refine lv_iload_n hx hb dX8_count_0 rfl (lv_at hl 1 rfl) ?_
  by_cases q1_0 : a1 = 0
  · replace hw := hw.1 q1_0
    refine li_tabIn (tgt := 40) hx hb dX8_count_1 0 (by decide) q1_0 (by decide) (by decide) rfl (by decide) ?_
    refine lv_aload_n hx hb dX8_count_40 rfl (lv_at hl 0 rfl) ?_
    refine xg_0_0 hx hb hts wu_X8 hown I wf_X8_12 dX8_count_41 ?_
    refine xg_1_0 hx hb hts wu_X3 hown I wf_X8_74 dX8_count_44 ?_
    have h_1 := I.rng 1 0
    exact g_iret hx hb hr hlk I h_1 hw dX8_count_47
  by_cases q1_1 : a1 = 1
  · replace hw := hw.2.1 q1_1
    refine li_tabIn (tgt := 48) hx hb dX8_count_1 1 (by decide) q1_1 (by decide) (by decide) rfl (by decide) ?_
    refine lv_aload_n hx hb dX8_count_48 rfl (lv_at hl 0 rfl) ?_
    refine xg_0_0 hx hb hts wu_X8 hown I wf_X8_12 dX8_count_49 ?_
    refine xg_1_1 hx hb hts wu_X3 hown I wf_X8_89 dX8_count_52 ?_
    have h_2 := I.rng 1 1
    exact g_iret hx hb hr hlk I h_2 hw dX8_count_55
  by_cases q1_2 : a1 = 2
  · replace hw := hw.2.2.1 q1_2
    refine li_tabIn (tgt := 56) hx hb dX8_count_1 2 (by decide) q1_2 (by decide) (by decide) rfl (by decide) ?_
    refine lv_aload_n hx hb dX8_count_56 rfl (lv_at hl 0 rfl) ?_
    refine xg_0_1 hx hb hts wu_X8 hown I wf_X8_19 dX8_count_57 ?_
    refine xg_2_0 hx hb hts wu_X2 hown I wf_X8_96 dX8_count_60 ?_
    have h_3 := I.rng 2 0
    exact g_iret hx hb hr hlk I h_3 hw dX8_count_63
  by_cases q1_3 : a1 = 3
  · replace hw := hw.2.2.2.1 q1_3
    refine li_tabIn (tgt := 64) hx hb dX8_count_1 3 (by decide) q1_3 (by decide) (by decide) rfl (by decide) ?_
    refine lv_aload_n hx hb dX8_count_64 rfl (lv_at hl 0 rfl) ?_
    refine xg_0_0 hx hb hts wu_X8 hown I wf_X8_12 dX8_count_65 ?_
    refine g_callVi (o := 1) (As := []) (rest := []) ⟨hx, hb, hml, hown, hts⟩ I (mX3_gates l g M _ _ hw) (cwV 0 hts (gd_V wm_X8_209 wi_X3_gates wl_X3_gates wn_X3 wc_X3_gates) rfl rfl rfl wd_X3_gates ⟨Nat.le_of_ble_eq_true rfl, Nat.le_of_ble_eq_true rfl⟩) (by omega) (by omega) obX_1 rfl rfl hl.1 rfl (Nat.le_of_ble_eq_true rfl) dX8_count_68 ⟨Nat.zero_le _, Nat.zero_le _⟩ (fun r68_3 M68_3 H locs hr68_3 hw I => ?_)
    exact g_iret hx hb hr hlk I hr68_3 hw dX8_count_71
  by_cases q1_4 : a1 = 4
  · replace hw := hw.2.2.2.2.1 q1_4
    refine li_tabIn (tgt := 72) hx hb dX8_count_1 4 (by decide) q1_4 (by decide) (by decide) rfl (by decide) ?_
    refine lv_aload_n hx hb dX8_count_72 rfl (lv_at hl 0 rfl) ?_
    refine xg_0_2 hx hb hts wu_X8 hown I wf_X8_26 dX8_count_73 ?_
    refine xg_3_0 hx hb hts wu_X0 hown I wf_X8_109 dX8_count_76 ?_
    have h_5 := I.rng 3 0
    exact g_iret hx hb hr hlk I h_5 hw dX8_count_79
  by_cases q1_5 : a1 = 5
  · replace hw := hw.2.2.2.2.2.1 q1_5
    refine li_tabIn (tgt := 80) hx hb dX8_count_1 5 (by decide) q1_5 (by decide) (by decide) rfl (by decide) ?_
    refine lv_aload_n hx hb dX8_count_80 rfl (lv_at hl 0 rfl) ?_
    refine xg_0_0 hx hb hts wu_X8 hown I wf_X8_12 dX8_count_81 ?_
    refine g_callVi (o := 1) (As := []) (rest := []) ⟨hx, hb, hml, hown, hts⟩ I (mX3_isJoined l g M _ _ hw) (cwV 0 hts (gd_V wm_X8_177 wi_X3_isJoined wl_X3_isJoined wn_X3 wc_X3_isJoined) rfl rfl rfl wd_X3_isJoined ⟨Nat.le_of_ble_eq_true rfl, Nat.le_of_ble_eq_true rfl⟩) (by omega) (by omega) obX_1 rfl rfl hl.1 rfl (Nat.le_of_ble_eq_true rfl) dX8_count_84 ⟨Nat.zero_le _, Nat.zero_le _⟩ (fun r84_5 M84_5 H locs hr84_5 hw I => ?_)
    refine li_if_eq (tgt := 94) hx hb dX8_count_87 (by decide) hr84_5 (fun c_7 => ?_) (fun c_7 => ?_)
    · replace hw := hw.1 c_7
      refine li_iconst hx hb dX8_count_94 ?_
      exact bX8_count_95 C post 0 (by decide) _ _ _ _ hw I (lv_sub hl [0] rfl)
    · replace hw := hw.2 c_7
      refine li_iconst hx hb dX8_count_90 ?_
      refine lv_goto (tgt := 95) hx hb dX8_count_91 (by decide) ?_
      exact bX8_count_95 C post 1 (by decide) _ _ _ _ hw I (lv_sub hl [0] rfl)
  have qd : a1 < 0 ∨ 5 < a1 := by omega
  replace hw := hw.2.2.2.2.2.2 qd
  refine li_tabOut (tgt := 96) hx hb dX8_count_1 ha1 qd (by decide) ?_
  refine lv_bipush (v := i32 (-3)) hx hb dX8_count_96 (by decide) ?_
  exact g_iret hx hb hr hlk I (by decide) hw dX8_count_98
