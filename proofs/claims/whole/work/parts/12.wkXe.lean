abbrev rmX8_gate : Room := { frames := 2, cells := 0, slots := 0, locals := 49 }
abbrev wtX8_gate : List Cond := Cond.code yX8_gate cX8_gate 4 (some .int) :: lw_g
set_option maxRecDepth 100000 in
set_option maxHeartbeats 4000000 in
theorem bX8_gate_25 {p : Program} {l : Launch} {e : Env} {s : State} {m : MethodId} {args : Array Value} {below : List Frame} {meth : Method} {c : Code} {g : GP} (C : Cx p m c cX8_gate 4 s args lw_g RX8 meth (some .int)) (post : Int → Mem → Prop) : ∀ (M : Mem) (H : Heap) (locs : List Loc) (ls : Array Slot), jbX8_gate_25 post  M → IX g s M H locs → lv_has ls 4 [(0, .ref (g.2.2.2 0))] → W p l e rmX8_gate s m args below meth c H locs 0 0 (QIX below args s g post) (F0 m 25 ls []) := by
  obtain ⟨⟨hx, hb, hml, hown, hts⟩, hr, hlk⟩ := id C
  intro M H locs ls hw I hl
  refine lv_bipush (v := i32 (-3)) hx hb dX8_gate_25 (by decide) ?_
  exact g_iret hx hb hr hlk I (by decide) hw dX8_gate_27
set_option maxRecDepth 100000 in
set_option maxHeartbeats 4000000 in
theorem mX8_gate (l : Launch) (g : GP) (a1 a2 : Int) (ha1 : inR a1) (ha2 : inR a2) (M : Mem) (post : Int → Mem → Prop) (sz : Nat) (hw : wpX8_gate a1 a2 M post) : MIX l yX8_gate wtX8_gate rmX8_gate g [.ref (g.2.2.2 0), .int (i32 a1), .int (i32 a2)] M sz post := by
  refine Met.ofW (cc := cX8_gate) (maxL := 4) (ret := (some .int)) (by decide) rfl ?_
  intro p e s m args below meth c s₁ B hml hv
  obtain ⟨rfl, hpre⟩ := hv
  have hsz := hpre.1
  subst hsz
  have C : Cx p m c cX8_gate 4 s _ lw_g RX8 meth (some .int) := ⟨⟨B.exec, B.bytes, hml, findClass_of_methodNamed B.named, fun w h => atoms_spec (ws := wtX8_gate) B.pre w (List.mem_cons_of_mem _ h)⟩, B.returns, B.notSynchronized⟩
  obtain ⟨⟨hx, hb, hml, hown, hts⟩, hr, hlk⟩ := id C
  have I := InG.start hpre
  have hl := lv_entry ([.ref (g.2.2.2 0), .int (i32 a1), .int (i32 a2)]) (n := 4) (Nat.le_of_ble_eq_true rfl)
  rw [lg_entry_eq]
  generalize (lg_sl ([.ref (g.2.2.2 0), .int (i32 a1), .int (i32 a2)]) ++ List.replicate (4 - (lg_sl ([.ref (g.2.2.2 0), .int (i32 a1), .int (i32 a2)])).length) Slot.unset).toArray = ls at hl ⊢
  have hl : lv_has ls 4 [(0, .ref (g.2.2.2 0)), (1, .int (i32 a1)), (2, .int (i32 a2))] := hl
  show W p l e rmX8_gate s m _ below meth c s.heap [] 0 0 (QIX below _ s g post) _
  refine lv_aload_n hx hb dX8_gate_0 rfl (lv_at hl 0 rfl) ?_
  refine xg_0_0 hx hb hts wu_X8 hown I wf_X8_12 dX8_gate_1 ?_
  refine lv_iload_n hx hb dX8_gate_4 rfl (lv_at hl 1 rfl) ?_
  refine g_callVi (o := 1) (As := [.int (i32 a1)]) (rest := []) ⟨hx, hb, hml, hown, hts⟩ I (mX3_has l g a1 ha1 M _ _ hw) (cwV 1 hts (gd_V wm_X8_85 wi_X3_has wl_X3_has wn_X3 wc_X3_has) rfl rfl rfl wd_X3_has ⟨Nat.le_of_ble_eq_true rfl, Nat.le_of_ble_eq_true rfl⟩) (by omega) (by omega) obX_1 rfl rfl hl.1 rfl (Nat.le_of_ble_eq_true rfl) dX8_gate_5 ⟨Nat.zero_le _, Nat.zero_le _⟩ (fun r5_0 M5_0 H locs hr5_0 hw I => ?_)
  refine li_if_ne (tgt := 14) hx hb dX8_gate_8 (by decide) hr5_0 (fun c_2 => ?_) (fun c_2 => ?_)
  · replace hw := hw.1 c_2
    refine lv_iload_n hx hb dX8_gate_14 rfl (lv_at hl 2 rfl) ?_
    refine li_iconst hx hb dX8_gate_15 ?_
    refine li_icmp_lt (tgt := 25) hx hb dX8_gate_16 (by decide) ha2 (by decide) (fun c_3 => ?_) (fun c_3 => ?_)
    · replace hw := hw.1 c_3
      exact bX8_gate_25 C post _ _ _ _ hw I (lv_sub hl [0] rfl)
    · replace hw := hw.2 c_3
      refine lv_iload_n hx hb dX8_gate_19 rfl (lv_at hl 2 rfl) ?_
      refine lv_ldc (v := i32 100000) hx hb hown (hts _ wk_X8_104) dX8_gate_20 ?_
      refine li_icmp_le (tgt := 28) hx hb dX8_gate_22 (by decide) ha2 (by decide) (fun c_4 => ?_) (fun c_4 => ?_)
      · replace hw := hw.1 c_4
        refine lv_aload_n hx hb dX8_gate_28 rfl (lv_at hl 0 rfl) ?_
        refine xg_0_0 hx hb hts wu_X8 hown I wf_X8_12 dX8_gate_29 ?_
        refine xg_1_5 hx hb hts wu_X3 hown I wf_X8_105 dX8_gate_32 ?_
        refine lv_iload_n hx hb dX8_gate_35 rfl (lv_at hl 1 rfl) ?_
        obtain ⟨h_5, hw⟩ := hw
        refine x_iald hx hb I 18 lenX_18 h_5 dX8_gate_36 ?_
        have h_6 := I.rng 18 a1
        refine li_name (fun v37_6 ev37_6 => ?_)
        replace hw := hw v37_6 ev37_6
        have hv37_6 : inR v37_6 := ev37_6 ▸ h_6
        refine lv_istore_n (lv' := [(3, .int (i32 v37_6)), (0, .ref (g.2.2.2 0)), (1, .int (i32 a1)), (2, .int (i32 a2))]) hx hb dX8_gate_37 rfl hl (by decide) rfl (fun ls hl => ?_)
        refine lv_aload_n hx hb dX8_gate_38 rfl (lv_at hl 1 rfl) ?_
        refine xg_0_0 hx hb hts wu_X8 hown I wf_X8_12 dX8_gate_39 ?_
        refine xg_1_5 hx hb hts wu_X3 hown I wf_X8_105 dX8_gate_42 ?_
        refine lv_iload_n hx hb dX8_gate_45 rfl (lv_at hl 2 rfl) ?_
        refine lv_iload_n hx hb dX8_gate_46 rfl (lv_at hl 3 rfl) ?_
        obtain ⟨h_8, hw⟩ := hw
        refine x_iast hx hb I 18 lenX_18 h_8 ha2 dX8_gate_47 (fun H locs M47_8 eM47_8 I => ?_)
        replace hw := hw M47_8 eM47_8
        refine lv_aload_n hx hb dX8_gate_48 rfl (lv_at hl 1 rfl) ?_
        refine li_iconst hx hb dX8_gate_49 ?_
        refine lv_iload_n hx hb dX8_gate_50 rfl (lv_at hl 2 rfl) ?_
        refine li_iconst hx hb dX8_gate_51 ?_
        refine lv_iload_n hx hb dX8_gate_52 rfl (lv_at hl 0 rfl) ?_
        refine g_callVv (o := 0) (As := [.int (i32 4), .int (i32 a1), .int (i32 (-1)), .int (i32 v37_6)]) (rest := []) ⟨hx, hb, hml, hown, hts⟩ I (mX8_noteChange l g 4 a1 (-1) v37_6 (by decide) ha1 (by decide) hv37_6 M47_8 _ _ hw) (cwV 4 hts (gd_V wm_X8_81 wi_X8_noteChange wl_X8_noteChange wn_X8 wc_X8_noteChange) rfl rfl rfl wd_X8_noteChange ⟨Nat.le_of_ble_eq_true rfl, Nat.le_of_ble_eq_true rfl⟩) (by omega) (by omega) obX_0 rfl rfl hl.1 rfl (Nat.le_of_ble_eq_true rfl) dX8_gate_53 ⟨Nat.zero_le _, Nat.zero_le _⟩ (fun M53_9 H locs hw I => ?_)
        refine lv_iload_n hx hb dX8_gate_56 rfl (lv_at hl 0 rfl) ?_
        exact g_iret hx hb hr hlk I hv37_6 hw dX8_gate_57
      · replace hw := hw.2 c_4
        exact bX8_gate_25 C post _ _ _ _ hw I (lv_sub hl [0] rfl)
  · replace hw := hw.2 c_2
    refine lv_bipush (v := i32 (-2)) hx hb dX8_gate_11 (by decide) ?_
    exact g_iret hx hb hr hlk I (by decide) hw dX8_gate_13
abbrev rmX8_takeBack : Room := { frames := 4, cells := 0, slots := 0, locals := 89 }
abbrev wtX8_takeBack : List Cond := Cond.code yX8_takeBack cX8_takeBack 4 none :: lw_g
set_option maxRecDepth 100000 in
set_option maxHeartbeats 4000000 in
theorem bX8_takeBack_145 {p : Program} {l : Launch} {e : Env} {s : State} {m : MethodId} {args : Array Value} {below : List Frame} {meth : Method} {c : Code} {g : GP} (C : Cx p m c cX8_takeBack 4 s args lw_g RX8 meth none) (post : Mem → Prop) : ∀ (M : Mem) (H : Heap) (locs : List Loc) (ls : Array Slot), jbX8_takeBack_145 post  M → IX g s M H locs → lv_has ls 4 [(0, .ref (g.2.2.2 0))] → W p l e rmX8_takeBack s m args below meth c H locs 0 0 (QVX below args s g post) (F0 m 145 ls []) := by
  obtain ⟨⟨hx, hb, hml, hown, hts⟩, hr, hlk⟩ := id C
  intro M H locs ls hw I hl
  exact g_vret hx hb hr hlk I hw dX8_takeBack_145
set_option maxRecDepth 100000 in
set_option maxHeartbeats 4000000 in
theorem mX8_takeBack (l : Launch) (g : GP) (a1 : Int) (ha1 : inR a1) (M : Mem) (post : Mem → Prop) (sz : Nat) (hw : wpX8_takeBack a1 M post) : MVX l yX8_takeBack wtX8_takeBack rmX8_takeBack g [.ref (g.2.2.2 0), .int (i32 a1)] M sz post := by
  refine Met.ofW (cc := cX8_takeBack) (maxL := 4) (ret := none) (by decide) rfl ?_
  intro p e s m args below meth c s₁ B hml hv
  obtain ⟨rfl, hpre⟩ := hv
  have hsz := hpre.1
  subst hsz
  have C : Cx p m c cX8_takeBack 4 s _ lw_g RX8 meth none := ⟨⟨B.exec, B.bytes, hml, findClass_of_methodNamed B.named, fun w h => atoms_spec (ws := wtX8_takeBack) B.pre w (List.mem_cons_of_mem _ h)⟩, B.returns, B.notSynchronized⟩
  obtain ⟨⟨hx, hb, hml, hown, hts⟩, hr, hlk⟩ := id C
  have I := InG.start hpre
  have hl := lv_entry ([.ref (g.2.2.2 0), .int (i32 a1)]) (n := 4) (Nat.le_of_ble_eq_true rfl)
  rw [lg_entry_eq]
  generalize (lg_sl ([.ref (g.2.2.2 0), .int (i32 a1)]) ++ List.replicate (4 - (lg_sl ([.ref (g.2.2.2 0), .int (i32 a1)])).length) Slot.unset).toArray = ls at hl ⊢
  have hl : lv_has ls 4 [(0, .ref (g.2.2.2 0)), (1, .int (i32 a1))] := hl
  show W p l e rmX8_takeBack s m _ below meth c s.heap [] 0 0 (QVX below _ s g post) _
  refine lv_aload_n hx hb dX8_takeBack_0 rfl (lv_at hl 0 rfl) ?_
  refine xg_0_2 hx hb hts wu_X8 hown I wf_X8_26 dX8_takeBack_1 ?_
  refine xg_3_3 hx hb hts wu_X0 hown I wf_X8_222 dX8_takeBack_4 ?_
  refine lv_iload_n hx hb dX8_takeBack_7 rfl (lv_at hl 1 rfl) ?_
  obtain ⟨h_1, hw⟩ := hw
  refine x_iald hx hb I 20 lenX_20 h_1 dX8_takeBack_8 ?_
  have h_2 := I.rng 20 a1
  refine li_name (fun v9_2 ev9_2 => ?_)
  replace hw := hw v9_2 ev9_2
  have hv9_2 : inR v9_2 := ev9_2 ▸ h_2
  refine lv_istore_n (lv' := [(2, .int (i32 v9_2)), (0, .ref (g.2.2.2 0)), (1, .int (i32 a1))]) hx hb dX8_takeBack_9 rfl hl (by decide) rfl (fun ls hl => ?_)
  refine lv_aload_n hx hb dX8_takeBack_10 rfl (lv_at hl 1 rfl) ?_
  refine xg_0_2 hx hb hts wu_X8 hown I wf_X8_26 dX8_takeBack_11 ?_
  refine xg_3_4 hx hb hts wu_X0 hown I wf_X8_225 dX8_takeBack_14 ?_
  refine lv_iload_n hx hb dX8_takeBack_17 rfl (lv_at hl 2 rfl) ?_
  obtain ⟨h_4, hw⟩ := hw
  refine x_iald hx hb I 21 lenX_21 h_4 dX8_takeBack_18 ?_
  have h_5 := I.rng 21 a1
  refine li_name (fun v19_5 ev19_5 => ?_)
  replace hw := hw v19_5 ev19_5
  have hv19_5 : inR v19_5 := ev19_5 ▸ h_5
  refine lv_istore_n (lv' := [(3, .int (i32 v19_5)), (2, .int (i32 v9_2)), (0, .ref (g.2.2.2 0)), (1, .int (i32 a1))]) hx hb dX8_takeBack_19 rfl hl (by decide) rfl (fun ls hl => ?_)
  refine lv_aload_n hx hb dX8_takeBack_20 rfl (lv_at hl 2 rfl) ?_
  refine xg_0_2 hx hb hts wu_X8 hown I wf_X8_26 dX8_takeBack_21 ?_
  refine xg_3_2 hx hb hts wu_X0 hown I wf_X8_228 dX8_takeBack_24 ?_
  refine lv_iload_n hx hb dX8_takeBack_27 rfl (lv_at hl 3 rfl) ?_
  obtain ⟨h_7, hw⟩ := hw
  refine x_iald hx hb I 19 lenX_19 h_7 dX8_takeBack_28 ?_
  have h_8 := I.rng 19 a1
  by_cases q29_0 : (M 19 a1) = 0
  · replace hw := hw.1 q29_0
    refine li_tabIn (tgt := 60) hx hb dX8_takeBack_29 0 (by decide) q29_0 (by decide) (by decide) rfl (by decide) ?_
    refine lv_aload_n hx hb dX8_takeBack_60 rfl (lv_at hl 2 rfl) ?_
    refine xg_0_0 hx hb hts wu_X8 hown I wf_X8_12 dX8_takeBack_61 ?_
    refine g_callVv (o := 1) (As := []) (rest := []) ⟨hx, hb, hml, hown, hts⟩ I (mX3_dropPlace l g M _ _ hw) (cwV 0 hts (gd_V wm_X8_231 wi_X3_dropPlace wl_X3_dropPlace wn_X3 wc_X3_dropPlace) rfl rfl rfl wd_X3_dropPlace ⟨Nat.le_of_ble_eq_true rfl, Nat.le_of_ble_eq_true rfl⟩) (by omega) (by omega) obX_1 rfl rfl hl.1 rfl (Nat.le_of_ble_eq_true rfl) dX8_takeBack_64 ⟨Nat.zero_le _, Nat.zero_le _⟩ (fun M64_8 H locs hw I => ?_)
    refine lv_aload_n hx hb dX8_takeBack_67 rfl (lv_at hl 2 rfl) ?_
    refine xg_0_3 hx hb hts wu_X8 hown I wf_X8_33 dX8_takeBack_68 ?_
    refine lv_iload_n hx hb dX8_takeBack_71 rfl (lv_at hl 1 rfl) ?_
    refine g_callVv (o := 4) (As := [.int (i32 v9_2)]) (rest := []) ⟨hx, hb, hml, hown, hts⟩ I (mX1_wipePlace l g v9_2 hv9_2 M64_8 _ _ hw) (cwV 1 hts (gd_V wm_X8_234 wi_X1_wipePlace wl_X1_wipePlace wn_X1 wc_X1_wipePlace) rfl rfl rfl wd_X1_wipePlace ⟨Nat.le_of_ble_eq_true rfl, Nat.le_of_ble_eq_true rfl⟩) (by omega) (by omega) obX_4 rfl rfl hl.1 rfl (Nat.le_of_ble_eq_true rfl) dX8_takeBack_72 ⟨Nat.zero_le _, Nat.zero_le _⟩ (fun M72_9 H locs hw I => ?_)
    refine lv_goto (tgt := 145) hx hb dX8_takeBack_75 (by decide) ?_
    exact bX8_takeBack_145 C post _ _ _ _ hw I (lv_sub hl [2] rfl)
  by_cases q29_1 : (M 19 a1) = 1
  · replace hw := hw.2.1 q29_1
    refine li_tabIn (tgt := 78) hx hb dX8_takeBack_29 1 (by decide) q29_1 (by decide) (by decide) rfl (by decide) ?_
    refine lv_aload_n hx hb dX8_takeBack_78 rfl (lv_at hl 2 rfl) ?_
    refine xg_0_0 hx hb hts wu_X8 hown I wf_X8_12 dX8_takeBack_79 ?_
    refine g_callVv (o := 1) (As := []) (rest := []) ⟨hx, hb, hml, hown, hts⟩ I (mX3_dropRoad l g M _ _ hw) (cwV 0 hts (gd_V wm_X8_237 wi_X3_dropRoad wl_X3_dropRoad wn_X3 wc_X3_dropRoad) rfl rfl rfl wd_X3_dropRoad ⟨Nat.le_of_ble_eq_true rfl, Nat.le_of_ble_eq_true rfl⟩) (by omega) (by omega) obX_1 rfl rfl hl.1 rfl (Nat.le_of_ble_eq_true rfl) dX8_takeBack_82 ⟨Nat.zero_le _, Nat.zero_le _⟩ (fun M82_10 H locs hw I => ?_)
    refine lv_goto (tgt := 145) hx hb dX8_takeBack_85 (by decide) ?_
    exact bX8_takeBack_145 C post _ _ _ _ hw I (lv_sub hl [2] rfl)
  by_cases q29_2 : (M 19 a1) = 2
  · replace hw := hw.2.2.1 q29_2
    refine li_tabIn (tgt := 88) hx hb dX8_takeBack_29 2 (by decide) q29_2 (by decide) (by decide) rfl (by decide) ?_
    refine lv_aload_n hx hb dX8_takeBack_88 rfl (lv_at hl 2 rfl) ?_
    refine xg_0_1 hx hb hts wu_X8 hown I wf_X8_19 dX8_takeBack_89 ?_
    refine lv_dup hx hb dX8_takeBack_92 rfl ?_
    refine xg_2_0 hx hb hts wu_X2 hown I wf_X8_96 dX8_takeBack_93 ?_
    have h_12 := I.rng 2 0
    refine li_iconst hx hb dX8_takeBack_96 ?_
    refine li_isub hx hb dX8_takeBack_97 ?_
    obtain ⟨h_13, hw⟩ := hw
    refine xp_2_0 hx hb hts wu_X2 hown I wf_X8_96 h_13 dX8_takeBack_98 (fun H locs M98_13 eM98_13 I => ?_)
    replace hw := hw M98_13 eM98_13
    refine lv_goto (tgt := 145) hx hb dX8_takeBack_101 (by decide) ?_
    exact bX8_takeBack_145 C post _ _ _ _ hw I (lv_sub hl [2] rfl)
  by_cases q29_3 : (M 19 a1) = 3
  · replace hw := hw.2.2.2.1 q29_3
    refine li_tabIn (tgt := 104) hx hb dX8_takeBack_29 3 (by decide) q29_3 (by decide) (by decide) rfl (by decide) ?_
    refine lv_aload_n hx hb dX8_takeBack_104 rfl (lv_at hl 2 rfl) ?_
    refine xg_0_1 hx hb hts wu_X8 hown I wf_X8_19 dX8_takeBack_105 ?_
    refine xg_2_1 hx hb hts wu_X2 hown I wf_X8_100 dX8_takeBack_108 ?_
    refine lv_iload_n hx hb dX8_takeBack_111 rfl (lv_at hl 1 rfl) ?_
    obtain ⟨h_15, hw⟩ := hw
    refine x_aald_12 hx hb I h_15 dX8_takeBack_112 ?_
    refine lv_iload_n hx hb dX8_takeBack_113 rfl (lv_at hl 0 rfl) ?_
    refine lv_aload_n hx hb dX8_takeBack_114 rfl (lv_at hl 2 rfl) ?_
    refine xg_0_2 hx hb hts wu_X8 hown I wf_X8_26 dX8_takeBack_115 ?_
    refine xg_3_5 hx hb hts wu_X0 hown I wf_X8_240 dX8_takeBack_118 ?_
    refine lv_iload_n hx hb dX8_takeBack_121 rfl (lv_at hl 3 rfl) ?_
    obtain ⟨h_16, hw⟩ := hw
    refine x_iald hx hb I 22 lenX_22 h_16 dX8_takeBack_122 ?_
    have h_17 := I.rng 22 a1
    obtain ⟨h_18, hw⟩ := hw
    refine x_iast hx hb I (80 + v9_2) (lenX_80 h_15) h_18 h_17 dX8_takeBack_123 (fun H locs M123_18 eM123_18 I => ?_)
    replace hw := hw M123_18 eM123_18
    refine lv_goto (tgt := 145) hx hb dX8_takeBack_124 (by decide) ?_
    exact bX8_takeBack_145 C post _ _ _ _ hw I (lv_sub hl [2] rfl)
  have qd : (M 19 a1) < 0 ∨ 3 < (M 19 a1) := by omega
  replace hw := hw.2.2.2.2 qd
  refine li_tabOut (tgt := 127) hx hb dX8_takeBack_29 h_8 qd (by decide) ?_
  refine lv_aload_n hx hb dX8_takeBack_127 rfl (lv_at hl 2 rfl) ?_
  refine xg_0_0 hx hb hts wu_X8 hown I wf_X8_12 dX8_takeBack_128 ?_
  refine xg_1_5 hx hb hts wu_X3 hown I wf_X8_105 dX8_takeBack_131 ?_
  refine lv_iload_n hx hb dX8_takeBack_134 rfl (lv_at hl 1 rfl) ?_
  refine lv_aload_n hx hb dX8_takeBack_135 rfl (lv_at hl 2 rfl) ?_
  refine xg_0_2 hx hb hts wu_X8 hown I wf_X8_26 dX8_takeBack_136 ?_
  refine xg_3_5 hx hb hts wu_X0 hown I wf_X8_240 dX8_takeBack_139 ?_
  refine lv_iload_n hx hb dX8_takeBack_142 rfl (lv_at hl 3 rfl) ?_
  obtain ⟨h_20, hw⟩ := hw
  refine x_iald hx hb I 22 lenX_22 h_20 dX8_takeBack_143 ?_
  have h_21 := I.rng 22 a1
  obtain ⟨h_22, hw⟩ := hw
  refine x_iast hx hb I 18 lenX_18 h_22 h_21 dX8_takeBack_144 (fun H locs M144_22 eM144_22 I => ?_)
  replace hw := hw M144_22 eM144_22
  exact bX8_takeBack_145 C post _ _ _ _ hw I (lv_sub hl [2] rfl)
abbrev rmX8_undo : Room := { frames := 5, cells := 0, slots := 0, locals := 112 }
abbrev wtX8_undo : List Cond := Cond.code yX8_undo cX8_undo 1 (some .int) :: lw_g
set_option maxRecDepth 100000 in
set_option maxHeartbeats 4000000 in
theorem mX8_undo (l : Launch) (g : GP) (M : Mem) (post : Int → Mem → Prop) (sz : Nat) (hw : wpX8_undo M post) : MIX l yX8_undo wtX8_undo rmX8_undo g [.ref (g.2.2.2 0)] M sz post := by
  refine Met.ofW (cc := cX8_undo) (maxL := 1) (ret := (some .int)) (by decide) rfl ?_
  intro p e s m args below meth c s₁ B hml hv
  obtain ⟨rfl, hpre⟩ := hv
  have hsz := hpre.1
  subst hsz
  have C : Cx p m c cX8_undo 1 s _ lw_g RX8 meth (some .int) := ⟨⟨B.exec, B.bytes, hml, findClass_of_methodNamed B.named, fun w h => atoms_spec (ws := wtX8_undo) B.pre w (List.mem_cons_of_mem _ h)⟩, B.returns, B.notSynchronized⟩
  obtain ⟨⟨hx, hb, hml, hown, hts⟩, hr, hlk⟩ := id C
  have I := InG.start hpre
  have hl := lv_entry ([.ref (g.2.2.2 0)]) (n := 1) (Nat.le_of_ble_eq_true rfl)
  rw [lg_entry_eq]
  generalize (lg_sl ([.ref (g.2.2.2 0)]) ++ List.replicate (1 - (lg_sl ([.ref (g.2.2.2 0)])).length) Slot.unset).toArray = ls at hl ⊢
  have hl : lv_has ls 1 [(0, .ref (g.2.2.2 0))] := hl
  show W p l e rmX8_undo s m _ below meth c s.heap [] 0 0 (QIX below _ s g post) _
  refine lv_aload_n hx hb dX8_undo_0 rfl (lv_at hl 0 rfl) ?_
  refine xg_0_2 hx hb hts wu_X8 hown I wf_X8_26 dX8_undo_1 ?_
  refine xg_3_0 hx hb hts wu_X0 hown I wf_X8_109 dX8_undo_4 ?_
  have h_1 := I.rng 3 0
  refine li_if_ne (tgt := 13) hx hb dX8_undo_7 (by decide) h_1 (fun c_2 => ?_) (fun c_2 => ?_)
  · replace hw := hw.1 c_2
    refine lv_aload_n hx hb dX8_undo_13 rfl (lv_at hl 0 rfl) ?_
    refine lv_aload_n hx hb dX8_undo_14 rfl (lv_at hl 0 rfl) ?_
    refine xg_0_2 hx hb hts wu_X8 hown I wf_X8_26 dX8_undo_15 ?_
    refine g_callVi (o := 3) (As := []) (rest := [.ref (g.2.2.2 0)]) ⟨hx, hb, hml, hown, hts⟩ I (mX0_dropLatest l g M _ _ hw) (cwV 0 hts (gd_V wm_X8_112 wi_X0_dropLatest wl_X0_dropLatest wn_X0 wc_X0_dropLatest) rfl rfl rfl wd_X0_dropLatest ⟨Nat.le_of_ble_eq_true rfl, Nat.le_of_ble_eq_true rfl⟩) (by omega) (by omega) obX_3 rfl rfl hl.1 rfl (Nat.le_of_ble_eq_true rfl) dX8_undo_18 ⟨Nat.zero_le _, Nat.zero_le _⟩ (fun r18_2 M18_2 H locs hr18_2 hw I => ?_)
    refine g_callVv (o := 0) (As := [.int (i32 r18_2)]) (rest := []) ⟨hx, hb, hml, hown, hts⟩ I (mX8_takeBack l g r18_2 hr18_2 M18_2 _ _ hw) (cwV 1 hts (gd_V wm_X8_115 wi_X8_takeBack wl_X8_takeBack wn_X8 wc_X8_takeBack) rfl rfl rfl wd_X8_takeBack ⟨Nat.le_of_ble_eq_true rfl, Nat.le_of_ble_eq_true rfl⟩) (by omega) (by omega) obX_0 rfl rfl hl.1 rfl (Nat.le_of_ble_eq_true rfl) dX8_undo_21 ⟨Nat.zero_le _, Nat.zero_le _⟩ (fun M21_3 H locs hw I => ?_)
    refine lv_aload_n hx hb dX8_undo_24 rfl (lv_at hl 0 rfl) ?_
    refine g_callVv (o := 0) (As := []) (rest := []) ⟨hx, hb, hml, hown, hts⟩ I (mX8_forgetResults l g M21_3 _ _ hw) (cwV 0 hts (gd_V wm_X8_119 wi_X8_forgetResults wl_X8_forgetResults wn_X8 wc_X8_forgetResults) rfl rfl rfl wd_X8_forgetResults ⟨Nat.le_of_ble_eq_true rfl, Nat.le_of_ble_eq_true rfl⟩) (by omega) (by omega) obX_0 rfl rfl hl.1 rfl (Nat.le_of_ble_eq_true rfl) dX8_undo_25 ⟨Nat.zero_le _, Nat.zero_le _⟩ (fun M25_4 H locs hw I => ?_)
    refine lv_aload_n hx hb dX8_undo_28 rfl (lv_at hl 0 rfl) ?_
    refine xg_0_2 hx hb hts wu_X8 hown I wf_X8_26 dX8_undo_29 ?_
    refine xg_3_0 hx hb hts wu_X0 hown I wf_X8_109 dX8_undo_32 ?_
    have h_6 := I.rng 3 0
    exact g_iret hx hb hr hlk I h_6 hw dX8_undo_35
  · replace hw := hw.2 c_2
    refine lv_bipush (v := i32 (-4)) hx hb dX8_undo_10 (by decide) ?_
    exact g_iret hx hb hr hlk I (by decide) hw dX8_undo_12
abbrev rmX8_apart : Room := { frames := 1, cells := 0, slots := 0, locals := 21 }
abbrev wtX8_apart : List Cond := Cond.code yX8_apart cX8_apart 4 (some .int) :: lw_g
set_option maxRecDepth 100000 in
set_option maxHeartbeats 4000000 in
theorem bX8_apart_22 {p : Program} {l : Launch} {e : Env} {s : State} {m : MethodId} {args : Array Value} {below : List Frame} {meth : Method} {c : Code} {g : GP} (C : Cx p m c cX8_apart 4 s args lw_g RX8 meth (some .int)) (post : Int → Mem → Prop) : ∀ (M : Mem) (H : Heap) (locs : List Loc) (ls : Array Slot), jbX8_apart_22 post  M → IX g s M H locs → lv_has ls 4 [(0, .ref (g.2.2.2 0))] → W p l e rmX8_apart s m args below meth c H locs 0 0 (QIX below args s g post) (F0 m 22 ls []) := by
  obtain ⟨⟨hx, hb, hml, hown, hts⟩, hr, hlk⟩ := id C
  intro M H locs ls hw I hl
  refine lv_bipush (v := i32 (-2)) hx hb dX8_apart_22 (by decide) ?_
  exact g_iret hx hb hr hlk I (by decide) hw dX8_apart_24
set_option maxRecDepth 100000 in
set_option maxHeartbeats 4000000 in
theorem bX8_apart_48 {p : Program} {l : Launch} {e : Env} {s : State} {m : MethodId} {args : Array Value} {below : List Frame} {meth : Method} {c : Code} {g : GP} (C : Cx p m c cX8_apart 4 s args lw_g RX8 meth (some .int)) (post : Int → Mem → Prop) : ∀ (t0 : Int), inR t0 → ∀ (M : Mem) (H : Heap) (locs : List Loc) (ls : Array Slot), jbX8_apart_48 post t0 M → IX g s M H locs → lv_has ls 4 [(0, .ref (g.2.2.2 0))] → W p l e rmX8_apart s m args below meth c H locs 0 0 (QIX below args s g post) (F0 m 48 ls [.int (i32 t0)]) := by
  obtain ⟨⟨hx, hb, hml, hown, hts⟩, hr, hlk⟩ := id C
  intro t0 ht0 M H locs ls hw I hl
  exact g_iret hx hb hr hlk I ht0 hw dX8_apart_48
set_option maxRecDepth 100000 in
set_option maxHeartbeats 4000000 in
theorem mX8_apart (l : Launch) (g : GP) (a1 a2 : Int) (ha1 : inR a1) (ha2 : inR a2) (M : Mem) (post : Int → Mem → Prop) (sz : Nat) (hw : wpX8_apart a1 a2 M post) : MIX l yX8_apart wtX8_apart rmX8_apart g [.ref (g.2.2.2 0), .int (i32 a1), .int (i32 a2)] M sz post := by
  refine Met.ofW (cc := cX8_apart) (maxL := 4) (ret := (some .int)) (by decide) rfl ?_
  intro p e s m args below meth c s₁ B hml hv
  obtain ⟨rfl, hpre⟩ := hv
  have hsz := hpre.1
  subst hsz
  have C : Cx p m c cX8_apart 4 s _ lw_g RX8 meth (some .int) := ⟨⟨B.exec, B.bytes, hml, findClass_of_methodNamed B.named, fun w h => atoms_spec (ws := wtX8_apart) B.pre w (List.mem_cons_of_mem _ h)⟩, B.returns, B.notSynchronized⟩
  obtain ⟨⟨hx, hb, hml, hown, hts⟩, hr, hlk⟩ := id C
  have I := InG.start hpre
  have hl := lv_entry ([.ref (g.2.2.2 0), .int (i32 a1), .int (i32 a2)]) (n := 4) (Nat.le_of_ble_eq_true rfl)
  rw [lg_entry_eq]
  generalize (lg_sl ([.ref (g.2.2.2 0), .int (i32 a1), .int (i32 a2)]) ++ List.replicate (4 - (lg_sl ([.ref (g.2.2.2 0), .int (i32 a1), .int (i32 a2)])).length) Slot.unset).toArray = ls at hl ⊢
  have hl : lv_has ls 4 [(0, .ref (g.2.2.2 0)), (1, .int (i32 a1)), (2, .int (i32 a2))] := hl
  show W p l e rmX8_apart s m _ below meth c s.heap [] 0 0 (QIX below _ s g post) _
  refine lv_aload_n hx hb dX8_apart_0 rfl (lv_at hl 0 rfl) ?_
  refine xg_0_0 hx hb hts wu_X8 hown I wf_X8_12 dX8_apart_1 ?_
  refine lv_iload_n hx hb dX8_apart_4 rfl (lv_at hl 1 rfl) ?_
  refine g_callVi (o := 1) (As := [.int (i32 a1)]) (rest := []) ⟨hx, hb, hml, hown, hts⟩ I (mX3_has l g a1 ha1 M _ _ hw) (cwV 1 hts (gd_V wm_X8_85 wi_X3_has wl_X3_has wn_X3 wc_X3_has) rfl rfl rfl wd_X3_has ⟨Nat.le_of_ble_eq_true rfl, Nat.le_of_ble_eq_true rfl⟩) (by omega) (by omega) obX_1 rfl rfl hl.1 rfl (Nat.le_of_ble_eq_true rfl) dX8_apart_5 ⟨Nat.zero_le _, Nat.zero_le _⟩ (fun r5_0 M5_0 H locs hr5_0 hw I => ?_)
  refine li_if_eq (tgt := 22) hx hb dX8_apart_8 (by decide) hr5_0 (fun c_2 => ?_) (fun c_2 => ?_)
  · replace hw := hw.1 c_2
    exact bX8_apart_22 C post _ _ _ _ hw I (lv_sub hl [0] rfl)
  · replace hw := hw.2 c_2
    refine lv_aload_n hx hb dX8_apart_11 rfl (lv_at hl 0 rfl) ?_
    refine xg_0_0 hx hb hts wu_X8 hown I wf_X8_12 dX8_apart_12 ?_
    refine lv_iload_n hx hb dX8_apart_15 rfl (lv_at hl 2 rfl) ?_
    refine g_callVi (o := 1) (As := [.int (i32 a2)]) (rest := []) ⟨hx, hb, hml, hown, hts⟩ I (mX3_has l g a2 ha2 M5_0 _ _ hw) (cwV 1 hts (gd_V wm_X8_85 wi_X3_has wl_X3_has wn_X3 wc_X3_has) rfl rfl rfl wd_X3_has ⟨Nat.le_of_ble_eq_true rfl, Nat.le_of_ble_eq_true rfl⟩) (by omega) (by omega) obX_1 rfl rfl hl.1 rfl (Nat.le_of_ble_eq_true rfl) dX8_apart_16 ⟨Nat.zero_le _, Nat.zero_le _⟩ (fun r16_2 M16_2 H locs hr16_2 hw I => ?_)
    refine li_if_ne (tgt := 25) hx hb dX8_apart_19 (by decide) hr16_2 (fun c_4 => ?_) (fun c_4 => ?_)
    · replace hw := hw.1 c_4
      refine lv_aload_n hx hb dX8_apart_25 rfl (lv_at hl 0 rfl) ?_
      refine xg_0_0 hx hb hts wu_X8 hown I wf_X8_12 dX8_apart_26 ?_
      refine xg_1_7 hx hb hts wu_X3 hown I wf_X8_122 dX8_apart_29 ?_
      refine lv_iload_n hx hb dX8_apart_32 rfl (lv_at hl 1 rfl) ?_
      obtain ⟨h_5, hw⟩ := hw
      refine x_aald_11 hx hb I h_5 dX8_apart_33 ?_
      refine lv_iload_n hx hb dX8_apart_34 rfl (lv_at hl 2 rfl) ?_
      obtain ⟨h_6, hw⟩ := hw
      refine x_iald hx hb I (50 + a1) (lenX_50 h_5) h_6 dX8_apart_35 ?_
      have h_7 := I.rng (50 + a1) a2
      refine li_name (fun v36_7 ev36_7 => ?_)
      replace hw := hw v36_7 ev36_7
      have hv36_7 : inR v36_7 := ev36_7 ▸ h_7
      refine lv_istore_n (lv' := [(3, .int (i32 v36_7)), (0, .ref (g.2.2.2 0)), (1, .int (i32 a1)), (2, .int (i32 a2))]) hx hb dX8_apart_36 rfl hl (by decide) rfl (fun ls hl => ?_)
      refine lv_iload_n hx hb dX8_apart_37 rfl (lv_at hl 0 rfl) ?_
      refine lv_ldc (v := i32 1000000) hx hb hown (hts _ wk_X8_125) dX8_apart_38 ?_
      refine li_icmp_ne (tgt := 47) hx hb dX8_apart_40 (by decide) hv36_7 (by decide) (fun c_9 => ?_) (fun c_9 => ?_)
      · replace hw := hw.1 c_9
        refine lv_iload_n hx hb dX8_apart_47 rfl (lv_at hl 0 rfl) ?_
        exact bX8_apart_48 C post v36_7 hv36_7 _ _ _ _ hw I (lv_sub hl [1] rfl)
      · replace hw := hw.2 c_9
        refine li_iconst hx hb dX8_apart_43 ?_
        refine lv_goto (tgt := 48) hx hb dX8_apart_44 (by decide) ?_
        exact bX8_apart_48 C post (-1) (by decide) _ _ _ _ hw I (lv_sub hl [1] rfl)
    · replace hw := hw.2 c_4
      exact bX8_apart_22 C post _ _ _ _ hw I (lv_sub hl [0] rfl)
abbrev rmX8_next : Room := { frames := 1, cells := 0, slots := 0, locals := 23 }
abbrev wtX8_next : List Cond := Cond.code yX8_next cX8_next 3 (some .int) :: lw_g
set_option maxRecDepth 100000 in
set_option maxHeartbeats 4000000 in
theorem bX8_next_22 {p : Program} {l : Launch} {e : Env} {s : State} {m : MethodId} {args : Array Value} {below : List Frame} {meth : Method} {c : Code} {g : GP} (C : Cx p m c cX8_next 3 s args lw_g RX8 meth (some .int)) (post : Int → Mem → Prop) : ∀ (M : Mem) (H : Heap) (locs : List Loc) (ls : Array Slot), jbX8_next_22 post  M → IX g s M H locs → lv_has ls 3 [(0, .ref (g.2.2.2 0))] → W p l e rmX8_next s m args below meth c H locs 0 0 (QIX below args s g post) (F0 m 22 ls []) := by
  obtain ⟨⟨hx, hb, hml, hown, hts⟩, hr, hlk⟩ := id C
  intro M H locs ls hw I hl
  refine lv_bipush (v := i32 (-2)) hx hb dX8_next_22 (by decide) ?_
  exact g_iret hx hb hr hlk I (by decide) hw dX8_next_24
set_option maxRecDepth 100000 in
set_option maxHeartbeats 4000000 in
theorem mX8_next (l : Launch) (g : GP) (a1 a2 : Int) (ha1 : inR a1) (ha2 : inR a2) (M : Mem) (post : Int → Mem → Prop) (sz : Nat) (hw : wpX8_next a1 a2 M post) : MIX l yX8_next wtX8_next rmX8_next g [.ref (g.2.2.2 0), .int (i32 a1), .int (i32 a2)] M sz post := by
  refine Met.ofW (cc := cX8_next) (maxL := 3) (ret := (some .int)) (by decide) rfl ?_
  intro p e s m args below meth c s₁ B hml hv
  obtain ⟨rfl, hpre⟩ := hv
  have hsz := hpre.1
  subst hsz
  have C : Cx p m c cX8_next 3 s _ lw_g RX8 meth (some .int) := ⟨⟨B.exec, B.bytes, hml, findClass_of_methodNamed B.named, fun w h => atoms_spec (ws := wtX8_next) B.pre w (List.mem_cons_of_mem _ h)⟩, B.returns, B.notSynchronized⟩
  obtain ⟨⟨hx, hb, hml, hown, hts⟩, hr, hlk⟩ := id C
  have I := InG.start hpre
  have hl := lv_entry ([.ref (g.2.2.2 0), .int (i32 a1), .int (i32 a2)]) (n := 3) (Nat.le_of_ble_eq_true rfl)
  rw [lg_entry_eq]
  generalize (lg_sl ([.ref (g.2.2.2 0), .int (i32 a1), .int (i32 a2)]) ++ List.replicate (3 - (lg_sl ([.ref (g.2.2.2 0), .int (i32 a1), .int (i32 a2)])).length) Slot.unset).toArray = ls at hl ⊢
  have hl : lv_has ls 3 [(0, .ref (g.2.2.2 0)), (1, .int (i32 a1)), (2, .int (i32 a2))] := hl
  show W p l e rmX8_next s m _ below meth c s.heap [] 0 0 (QIX below _ s g post) _
  refine lv_aload_n hx hb dX8_next_0 rfl (lv_at hl 0 rfl) ?_
  refine xg_0_0 hx hb hts wu_X8 hown I wf_X8_12 dX8_next_1 ?_
  refine lv_iload_n hx hb dX8_next_4 rfl (lv_at hl 1 rfl) ?_
  refine g_callVi (o := 1) (As := [.int (i32 a1)]) (rest := []) ⟨hx, hb, hml, hown, hts⟩ I (mX3_has l g a1 ha1 M _ _ hw) (cwV 1 hts (gd_V wm_X8_85 wi_X3_has wl_X3_has wn_X3 wc_X3_has) rfl rfl rfl wd_X3_has ⟨Nat.le_of_ble_eq_true rfl, Nat.le_of_ble_eq_true rfl⟩) (by omega) (by omega) obX_1 rfl rfl hl.1 rfl (Nat.le_of_ble_eq_true rfl) dX8_next_5 ⟨Nat.zero_le _, Nat.zero_le _⟩ (fun r5_0 M5_0 H locs hr5_0 hw I => ?_)
  refine li_if_eq (tgt := 22) hx hb dX8_next_8 (by decide) hr5_0 (fun c_2 => ?_) (fun c_2 => ?_)
  · replace hw := hw.1 c_2
    exact bX8_next_22 C post _ _ _ _ hw I (lv_sub hl [0] rfl)
  · replace hw := hw.2 c_2
    refine lv_aload_n hx hb dX8_next_11 rfl (lv_at hl 0 rfl) ?_
    refine xg_0_0 hx hb hts wu_X8 hown I wf_X8_12 dX8_next_12 ?_
    refine lv_iload_n hx hb dX8_next_15 rfl (lv_at hl 2 rfl) ?_
    refine g_callVi (o := 1) (As := [.int (i32 a2)]) (rest := []) ⟨hx, hb, hml, hown, hts⟩ I (mX3_has l g a2 ha2 M5_0 _ _ hw) (cwV 1 hts (gd_V wm_X8_85 wi_X3_has wl_X3_has wn_X3 wc_X3_has) rfl rfl rfl wd_X3_has ⟨Nat.le_of_ble_eq_true rfl, Nat.le_of_ble_eq_true rfl⟩) (by omega) (by omega) obX_1 rfl rfl hl.1 rfl (Nat.le_of_ble_eq_true rfl) dX8_next_16 ⟨Nat.zero_le _, Nat.zero_le _⟩ (fun r16_2 M16_2 H locs hr16_2 hw I => ?_)
    refine li_if_ne (tgt := 25) hx hb dX8_next_19 (by decide) hr16_2 (fun c_4 => ?_) (fun c_4 => ?_)
    · replace hw := hw.1 c_4
      refine lv_aload_n hx hb dX8_next_25 rfl (lv_at hl 0 rfl) ?_
      refine xg_0_0 hx hb hts wu_X8 hown I wf_X8_12 dX8_next_26 ?_
      refine lv_iload_n hx hb dX8_next_29 rfl (lv_at hl 1 rfl) ?_
      refine lv_iload_n hx hb dX8_next_30 rfl (lv_at hl 2 rfl) ?_
      refine g_callVi (o := 1) (As := [.int (i32 a1), .int (i32 a2)]) (rest := []) ⟨hx, hb, hml, hown, hts⟩ I (mX3_placeBehind l g a1 a2 ha1 ha2 M16_2 _ _ hw) (cwV 2 hts (gd_V wm_X8_126 wi_X3_placeBehind wl_X3_placeBehind wn_X3 wc_X3_placeBehind) rfl rfl rfl wd_X3_placeBehind ⟨Nat.le_of_ble_eq_true rfl, Nat.le_of_ble_eq_true rfl⟩) (by omega) (by omega) obX_1 rfl rfl hl.1 rfl (Nat.le_of_ble_eq_true rfl) dX8_next_31 ⟨Nat.zero_le _, Nat.zero_le _⟩ (fun r31_4 M31_4 H locs hr31_4 hw I => ?_)
      exact g_iret hx hb hr hlk I hr31_4 hw dX8_next_34
    · replace hw := hw.2 c_4
      exact bX8_next_22 C post _ _ _ _ hw I (lv_sub hl [0] rfl)
abbrev rmX8_amount : Room := { frames := 1, cells := 0, slots := 0, locals := 21 }
abbrev wtX8_amount : List Cond := Cond.code yX8_amount cX8_amount 3 (some .int) :: lw_g
set_option maxRecDepth 100000 in
set_option maxHeartbeats 4000000 in
theorem bX8_amount_22 {p : Program} {l : Launch} {e : Env} {s : State} {m : MethodId} {args : Array Value} {below : List Frame} {meth : Method} {c : Code} {g : GP} (C : Cx p m c cX8_amount 3 s args lw_g RX8 meth (some .int)) (post : Int → Mem → Prop) : ∀ (M : Mem) (H : Heap) (locs : List Loc) (ls : Array Slot), jbX8_amount_22 post  M → IX g s M H locs → lv_has ls 3 [(0, .ref (g.2.2.2 0))] → W p l e rmX8_amount s m args below meth c H locs 0 0 (QIX below args s g post) (F0 m 22 ls []) := by
  obtain ⟨⟨hx, hb, hml, hown, hts⟩, hr, hlk⟩ := id C
  intro M H locs ls hw I hl
  refine lv_bipush (v := i32 (-2)) hx hb dX8_amount_22 (by decide) ?_
  exact g_iret hx hb hr hlk I (by decide) hw dX8_amount_24
set_option maxRecDepth 100000 in
set_option maxHeartbeats 4000000 in
theorem mX8_amount (l : Launch) (g : GP) (a1 a2 : Int) (ha1 : inR a1) (ha2 : inR a2) (M : Mem) (post : Int → Mem → Prop) (sz : Nat) (hw : wpX8_amount a1 a2 M post) : MIX l yX8_amount wtX8_amount rmX8_amount g [.ref (g.2.2.2 0), .int (i32 a1), .int (i32 a2)] M sz post := by
  refine Met.ofW (cc := cX8_amount) (maxL := 3) (ret := (some .int)) (by decide) rfl ?_
  intro p e s m args below meth c s₁ B hml hv
  obtain ⟨rfl, hpre⟩ := hv
  have hsz := hpre.1
  subst hsz
  have C : Cx p m c cX8_amount 3 s _ lw_g RX8 meth (some .int) := ⟨⟨B.exec, B.bytes, hml, findClass_of_methodNamed B.named, fun w h => atoms_spec (ws := wtX8_amount) B.pre w (List.mem_cons_of_mem _ h)⟩, B.returns, B.notSynchronized⟩
  obtain ⟨⟨hx, hb, hml, hown, hts⟩, hr, hlk⟩ := id C
  have I := InG.start hpre
  have hl := lv_entry ([.ref (g.2.2.2 0), .int (i32 a1), .int (i32 a2)]) (n := 3) (Nat.le_of_ble_eq_true rfl)
  rw [lg_entry_eq]
  generalize (lg_sl ([.ref (g.2.2.2 0), .int (i32 a1), .int (i32 a2)]) ++ List.replicate (3 - (lg_sl ([.ref (g.2.2.2 0), .int (i32 a1), .int (i32 a2)])).length) Slot.unset).toArray = ls at hl ⊢
  have hl : lv_has ls 3 [(0, .ref (g.2.2.2 0)), (1, .int (i32 a1)), (2, .int (i32 a2))] := hl
  show W p l e rmX8_amount s m _ below meth c s.heap [] 0 0 (QIX below _ s g post) _
  refine lv_aload_n hx hb dX8_amount_0 rfl (lv_at hl 0 rfl) ?_
  refine xg_0_1 hx hb hts wu_X8 hown I wf_X8_19 dX8_amount_1 ?_
  refine lv_iload_n hx hb dX8_amount_4 rfl (lv_at hl 1 rfl) ?_
  refine g_callVi (o := 2) (As := [.int (i32 a1)]) (rest := []) ⟨hx, hb, hml, hown, hts⟩ I (mX2_has l g a1 ha1 M _ _ hw) (cwV 1 hts (gd_V wm_X8_99 wi_X2_has wl_X2_has wn_X2 wc_X2_has) rfl rfl rfl wd_X2_has ⟨Nat.le_of_ble_eq_true rfl, Nat.le_of_ble_eq_true rfl⟩) (by omega) (by omega) obX_2 rfl rfl hl.1 rfl (Nat.le_of_ble_eq_true rfl) dX8_amount_5 ⟨Nat.zero_le _, Nat.zero_le _⟩ (fun r5_0 M5_0 H locs hr5_0 hw I => ?_)
  refine li_if_eq (tgt := 22) hx hb dX8_amount_8 (by decide) hr5_0 (fun c_2 => ?_) (fun c_2 => ?_)
  · replace hw := hw.1 c_2
    exact bX8_amount_22 C post _ _ _ _ hw I (lv_sub hl [0] rfl)
  · replace hw := hw.2 c_2
    refine lv_aload_n hx hb dX8_amount_11 rfl (lv_at hl 0 rfl) ?_
    refine xg_0_0 hx hb hts wu_X8 hown I wf_X8_12 dX8_amount_12 ?_
    refine lv_iload_n hx hb dX8_amount_15 rfl (lv_at hl 2 rfl) ?_
    refine g_callVi (o := 1) (As := [.int (i32 a2)]) (rest := []) ⟨hx, hb, hml, hown, hts⟩ I (mX3_has l g a2 ha2 M5_0 _ _ hw) (cwV 1 hts (gd_V wm_X8_85 wi_X3_has wl_X3_has wn_X3 wc_X3_has) rfl rfl rfl wd_X3_has ⟨Nat.le_of_ble_eq_true rfl, Nat.le_of_ble_eq_true rfl⟩) (by omega) (by omega) obX_1 rfl rfl hl.1 rfl (Nat.le_of_ble_eq_true rfl) dX8_amount_16 ⟨Nat.zero_le _, Nat.zero_le _⟩ (fun r16_2 M16_2 H locs hr16_2 hw I => ?_)
    refine li_if_ne (tgt := 25) hx hb dX8_amount_19 (by decide) hr16_2 (fun c_4 => ?_) (fun c_4 => ?_)
    · replace hw := hw.1 c_4
      refine lv_aload_n hx hb dX8_amount_25 rfl (lv_at hl 0 rfl) ?_
      refine xg_0_1 hx hb hts wu_X8 hown I wf_X8_19 dX8_amount_26 ?_
      refine xg_2_1 hx hb hts wu_X2 hown I wf_X8_100 dX8_amount_29 ?_
      refine lv_iload_n hx hb dX8_amount_32 rfl (lv_at hl 1 rfl) ?_
      obtain ⟨h_5, hw⟩ := hw
      refine x_aald_12 hx hb I h_5 dX8_amount_33 ?_
      refine lv_iload_n hx hb dX8_amount_34 rfl (lv_at hl 2 rfl) ?_
      obtain ⟨h_6, hw⟩ := hw
      refine x_iald hx hb I (80 + a1) (lenX_80 h_5) h_6 dX8_amount_35 ?_
      have h_7 := I.rng (80 + a1) a2
      exact g_iret hx hb hr hlk I h_7 hw dX8_amount_36
    · replace hw := hw.2 c_4
      exact bX8_amount_22 C post _ _ _ _ hw I (lv_sub hl [0] rfl)
abbrev rmX8_sum : Room := { frames := 1, cells := 0, slots := 0, locals := 23 }
abbrev wtX8_sum : List Cond := Cond.code yX8_sum cX8_sum 2 (some .int) :: lw_g
set_option maxRecDepth 100000 in
set_option maxHeartbeats 4000000 in
theorem mX8_sum (l : Launch) (g : GP) (a1 : Int) (ha1 : inR a1) (M : Mem) (post : Int → Mem → Prop) (sz : Nat) (hw : wpX8_sum a1 M post) : MIX l yX8_sum wtX8_sum rmX8_sum g [.ref (g.2.2.2 0), .int (i32 a1)] M sz post := by
  refine Met.ofW (cc := cX8_sum) (maxL := 2) (ret := (some .int)) (by decide) rfl ?_
  intro p e s m args below meth c s₁ B hml hv
  obtain ⟨rfl, hpre⟩ := hv
  have hsz := hpre.1
  subst hsz
  have C : Cx p m c cX8_sum 2 s _ lw_g RX8 meth (some .int) := ⟨⟨B.exec, B.bytes, hml, findClass_of_methodNamed B.named, fun w h => atoms_spec (ws := wtX8_sum) B.pre w (List.mem_cons_of_mem _ h)⟩, B.returns, B.notSynchronized⟩
  obtain ⟨⟨hx, hb, hml, hown, hts⟩, hr, hlk⟩ := id C
  have I := InG.start hpre
  have hl := lv_entry ([.ref (g.2.2.2 0), .int (i32 a1)]) (n := 2) (Nat.le_of_ble_eq_true rfl)
  rw [lg_entry_eq]
  generalize (lg_sl ([.ref (g.2.2.2 0), .int (i32 a1)]) ++ List.replicate (2 - (lg_sl ([.ref (g.2.2.2 0), .int (i32 a1)])).length) Slot.unset).toArray = ls at hl ⊢
  have hl : lv_has ls 2 [(0, .ref (g.2.2.2 0)), (1, .int (i32 a1))] := hl
  show W p l e rmX8_sum s m _ below meth c s.heap [] 0 0 (QIX below _ s g post) _
  refine lv_aload_n hx hb dX8_sum_0 rfl (lv_at hl 0 rfl) ?_
  refine xg_0_1 hx hb hts wu_X8 hown I wf_X8_19 dX8_sum_1 ?_
  refine lv_iload_n hx hb dX8_sum_4 rfl (lv_at hl 1 rfl) ?_
  refine g_callVi (o := 2) (As := [.int (i32 a1)]) (rest := []) ⟨hx, hb, hml, hown, hts⟩ I (mX2_has l g a1 ha1 M _ _ hw) (cwV 1 hts (gd_V wm_X8_99 wi_X2_has wl_X2_has wn_X2 wc_X2_has) rfl rfl rfl wd_X2_has ⟨Nat.le_of_ble_eq_true rfl, Nat.le_of_ble_eq_true rfl⟩) (by omega) (by omega) obX_2 rfl rfl hl.1 rfl (Nat.le_of_ble_eq_true rfl) dX8_sum_5 ⟨Nat.zero_le _, Nat.zero_le _⟩ (fun r5_0 M5_0 H locs hr5_0 hw I => ?_)
  refine li_if_ne (tgt := 14) hx hb dX8_sum_8 (by decide) hr5_0 (fun c_2 => ?_) (fun c_2 => ?_)
  · replace hw := hw.1 c_2
    refine lv_aload_n hx hb dX8_sum_14 rfl (lv_at hl 0 rfl) ?_
    refine xg_0_1 hx hb hts wu_X8 hown I wf_X8_19 dX8_sum_15 ?_
    refine lv_iload_n hx hb dX8_sum_18 rfl (lv_at hl 1 rfl) ?_
    refine g_callVi (o := 2) (As := [.int (i32 a1)]) (rest := []) ⟨hx, hb, hml, hown, hts⟩ I (mX2_total l g a1 ha1 M5_0 _ _ hw) (cwV 1 hts (gd_V wm_X8_130 wi_X2_total wl_X2_total wn_X2 wc_X2_total) rfl rfl rfl wd_X2_total ⟨Nat.le_of_ble_eq_true rfl, Nat.le_of_ble_eq_true rfl⟩) (by omega) (by omega) obX_2 rfl rfl hl.1 rfl (Nat.le_of_ble_eq_true rfl) dX8_sum_19 ⟨Nat.zero_le _, Nat.zero_le _⟩ (fun r19_2 M19_2 H locs hr19_2 hw I => ?_)
    exact g_iret hx hb hr hlk I hr19_2 hw dX8_sum_22
  · replace hw := hw.2 c_2
    refine lv_bipush (v := i32 (-2)) hx hb dX8_sum_11 (by decide) ?_
    exact g_iret hx hb hr hlk I (by decide) hw dX8_sum_13
abbrev rmX8_refusalOfMoving : Room := { frames := 1, cells := 0, slots := 0, locals := 23 }
abbrev wtX8_refusalOfMoving : List Cond := Cond.code yX8_refusalOfMoving cX8_refusalOfMoving 3 (some .int) :: lw_g
set_option maxRecDepth 100000 in
set_option maxHeartbeats 4000000 in
theorem bX8_refusalOfMoving_22 {p : Program} {l : Launch} {e : Env} {s : State} {m : MethodId} {args : Array Value} {below : List Frame} {meth : Method} {c : Code} {g : GP} (C : Cx p m c cX8_refusalOfMoving 3 s args lw_g RX8 meth (some .int)) (post : Int → Mem → Prop) : ∀ (M : Mem) (H : Heap) (locs : List Loc) (ls : Array Slot), jbX8_refusalOfMoving_22 post  M → IX g s M H locs → lv_has ls 3 [(0, .ref (g.2.2.2 0))] → W p l e rmX8_refusalOfMoving s m args below meth c H locs 0 0 (QIX below args s g post) (F0 m 22 ls []) := by
  obtain ⟨⟨hx, hb, hml, hown, hts⟩, hr, hlk⟩ := id C
  intro M H locs ls hw I hl
  refine lv_bipush (v := i32 (-2)) hx hb dX8_refusalOfMoving_22 (by decide) ?_
  exact g_iret hx hb hr hlk I (by decide) hw dX8_refusalOfMoving_24
set_option maxRecDepth 100000 in
set_option maxHeartbeats 4000000 in
theorem bX8_refusalOfMoving_54 {p : Program} {l : Launch} {e : Env} {s : State} {m : MethodId} {args : Array Value} {below : List Frame} {meth : Method} {c : Code} {g : GP} (C : Cx p m c cX8_refusalOfMoving 3 s args lw_g RX8 meth (some .int)) (post : Int → Mem → Prop) : ∀ (M : Mem) (H : Heap) (locs : List Loc) (ls : Array Slot), jbX8_refusalOfMoving_54 post  M → IX g s M H locs → lv_has ls 3 [(0, .ref (g.2.2.2 0))] → W p l e rmX8_refusalOfMoving s m args below meth c H locs 0 0 (QIX below args s g post) (F0 m 54 ls []) := by
  obtain ⟨⟨hx, hb, hml, hown, hts⟩, hr, hlk⟩ := id C
  intro M H locs ls hw I hl
  refine lv_bipush (v := i32 (-4)) hx hb dX8_refusalOfMoving_54 (by decide) ?_
  exact g_iret hx hb hr hlk I (by decide) hw dX8_refusalOfMoving_56
set_option maxRecDepth 100000 in
set_option maxHeartbeats 4000000 in
theorem mX8_refusalOfMoving (l : Launch) (g : GP) (a1 a2 : Int) (ha1 : inR a1) (ha2 : inR a2) (M : Mem) (post : Int → Mem → Prop) (sz : Nat) (hw : wpX8_refusalOfMoving a1 a2 M post) : MIX l yX8_refusalOfMoving wtX8_refusalOfMoving rmX8_refusalOfMoving g [.ref (g.2.2.2 0), .int (i32 a1), .int (i32 a2)] M sz post := by
  refine Met.ofW (cc := cX8_refusalOfMoving) (maxL := 3) (ret := (some .int)) (by decide) rfl ?_
  intro p e s m args below meth c s₁ B hml hv
  obtain ⟨rfl, hpre⟩ := hv
  have hsz := hpre.1
  subst hsz
  have C : Cx p m c cX8_refusalOfMoving 3 s _ lw_g RX8 meth (some .int) := ⟨⟨B.exec, B.bytes, hml, findClass_of_methodNamed B.named, fun w h => atoms_spec (ws := wtX8_refusalOfMoving) B.pre w (List.mem_cons_of_mem _ h)⟩, B.returns, B.notSynchronized⟩
  obtain ⟨⟨hx, hb, hml, hown, hts⟩, hr, hlk⟩ := id C
  have I := InG.start hpre
  have hl := lv_entry ([.ref (g.2.2.2 0), .int (i32 a1), .int (i32 a2)]) (n := 3) (Nat.le_of_ble_eq_true rfl)
  rw [lg_entry_eq]
  generalize (lg_sl ([.ref (g.2.2.2 0), .int (i32 a1), .int (i32 a2)]) ++ List.replicate (3 - (lg_sl ([.ref (g.2.2.2 0), .int (i32 a1), .int (i32 a2)])).length) Slot.unset).toArray = ls at hl ⊢
  have hl : lv_has ls 3 [(0, .ref (g.2.2.2 0)), (1, .int (i32 a1)), (2, .int (i32 a2))] := hl
  show W p l e rmX8_refusalOfMoving s m _ below meth c s.heap [] 0 0 (QIX below _ s g post) _
  refine lv_aload_n hx hb dX8_refusalOfMoving_0 rfl (lv_at hl 0 rfl) ?_
  refine xg_0_1 hx hb hts wu_X8 hown I wf_X8_19 dX8_refusalOfMoving_1 ?_
  refine lv_iload_n hx hb dX8_refusalOfMoving_4 rfl (lv_at hl 1 rfl) ?_
  refine g_callVi (o := 2) (As := [.int (i32 a1)]) (rest := []) ⟨hx, hb, hml, hown, hts⟩ I (mX2_has l g a1 ha1 M _ _ hw) (cwV 1 hts (gd_V wm_X8_99 wi_X2_has wl_X2_has wn_X2 wc_X2_has) rfl rfl rfl wd_X2_has ⟨Nat.le_of_ble_eq_true rfl, Nat.le_of_ble_eq_true rfl⟩) (by omega) (by omega) obX_2 rfl rfl hl.1 rfl (Nat.le_of_ble_eq_true rfl) dX8_refusalOfMoving_5 ⟨Nat.zero_le _, Nat.zero_le _⟩ (fun r5_0 M5_0 H locs hr5_0 hw I => ?_)
  refine li_if_eq (tgt := 22) hx hb dX8_refusalOfMoving_8 (by decide) hr5_0 (fun c_2 => ?_) (fun c_2 => ?_)
  · replace hw := hw.1 c_2
    exact bX8_refusalOfMoving_22 C post _ _ _ _ hw I (lv_sub hl [0] rfl)
  · replace hw := hw.2 c_2
    refine lv_aload_n hx hb dX8_refusalOfMoving_11 rfl (lv_at hl 0 rfl) ?_
    refine xg_0_1 hx hb hts wu_X8 hown I wf_X8_19 dX8_refusalOfMoving_12 ?_
    refine lv_iload_n hx hb dX8_refusalOfMoving_15 rfl (lv_at hl 2 rfl) ?_
    refine g_callVi (o := 2) (As := [.int (i32 a2)]) (rest := []) ⟨hx, hb, hml, hown, hts⟩ I (mX2_has l g a2 ha2 M5_0 _ _ hw) (cwV 1 hts (gd_V wm_X8_99 wi_X2_has wl_X2_has wn_X2 wc_X2_has) rfl rfl rfl wd_X2_has ⟨Nat.le_of_ble_eq_true rfl, Nat.le_of_ble_eq_true rfl⟩) (by omega) (by omega) obX_2 rfl rfl hl.1 rfl (Nat.le_of_ble_eq_true rfl) dX8_refusalOfMoving_16 ⟨Nat.zero_le _, Nat.zero_le _⟩ (fun r16_2 M16_2 H locs hr16_2 hw I => ?_)
    refine li_if_ne (tgt := 25) hx hb dX8_refusalOfMoving_19 (by decide) hr16_2 (fun c_4 => ?_) (fun c_4 => ?_)
    · replace hw := hw.1 c_4
      refine lv_aload_n hx hb dX8_refusalOfMoving_25 rfl (lv_at hl 0 rfl) ?_
      refine xg_0_0 hx hb hts wu_X8 hown I wf_X8_12 dX8_refusalOfMoving_26 ?_
      refine g_callVi (o := 1) (As := []) (rest := []) ⟨hx, hb, hml, hown, hts⟩ I (mX3_isJoined l g M16_2 _ _ hw) (cwV 0 hts (gd_V wm_X8_177 wi_X3_isJoined wl_X3_isJoined wn_X3 wc_X3_isJoined) rfl rfl rfl wd_X3_isJoined ⟨Nat.le_of_ble_eq_true rfl, Nat.le_of_ble_eq_true rfl⟩) (by omega) (by omega) obX_1 rfl rfl hl.1 rfl (Nat.le_of_ble_eq_true rfl) dX8_refusalOfMoving_29 ⟨Nat.zero_le _, Nat.zero_le _⟩ (fun r29_4 M29_4 H locs hr29_4 hw I => ?_)
      refine li_if_eq (tgt := 54) hx hb dX8_refusalOfMoving_32 (by decide) hr29_4 (fun c_6 => ?_) (fun c_6 => ?_)
      · replace hw := hw.1 c_6
        exact bX8_refusalOfMoving_54 C post _ _ _ _ hw I (lv_sub hl [0] rfl)
      · replace hw := hw.2 c_6
        refine lv_aload_n hx hb dX8_refusalOfMoving_35 rfl (lv_at hl 0 rfl) ?_
        refine xg_0_1 hx hb hts wu_X8 hown I wf_X8_19 dX8_refusalOfMoving_36 ?_
        refine lv_iload_n hx hb dX8_refusalOfMoving_39 rfl (lv_at hl 1 rfl) ?_
        refine g_callVi (o := 2) (As := [.int (i32 a1)]) (rest := []) ⟨hx, hb, hml, hown, hts⟩ I (mX2_total l g a1 ha1 M29_4 _ _ hw) (cwV 1 hts (gd_V wm_X8_130 wi_X2_total wl_X2_total wn_X2 wc_X2_total) rfl rfl rfl wd_X2_total ⟨Nat.le_of_ble_eq_true rfl, Nat.le_of_ble_eq_true rfl⟩) (by omega) (by omega) obX_2 rfl rfl hl.1 rfl (Nat.le_of_ble_eq_true rfl) dX8_refusalOfMoving_40 ⟨Nat.zero_le _, Nat.zero_le _⟩ (fun r40_6 M40_6 H locs hr40_6 hw I => ?_)
        refine lv_aload_n hx hb dX8_refusalOfMoving_43 rfl (lv_at hl 0 rfl) ?_
        refine xg_0_1 hx hb hts wu_X8 hown I wf_X8_19 dX8_refusalOfMoving_44 ?_
        refine lv_iload_n hx hb dX8_refusalOfMoving_47 rfl (lv_at hl 2 rfl) ?_
        refine g_callVi (o := 2) (As := [.int (i32 a2)]) (rest := [.int (i32 r40_6)]) ⟨hx, hb, hml, hown, hts⟩ I (mX2_total l g a2 ha2 M40_6 _ _ hw) (cwV 1 hts (gd_V wm_X8_130 wi_X2_total wl_X2_total wn_X2 wc_X2_total) rfl rfl rfl wd_X2_total ⟨Nat.le_of_ble_eq_true rfl, Nat.le_of_ble_eq_true rfl⟩) (by omega) (by omega) obX_2 rfl rfl hl.1 rfl (Nat.le_of_ble_eq_true rfl) dX8_refusalOfMoving_48 ⟨Nat.zero_le _, Nat.zero_le _⟩ (fun r48_7 M48_7 H locs hr48_7 hw I => ?_)
        refine li_icmp_eq (tgt := 57) hx hb dX8_refusalOfMoving_51 (by decide) hr40_6 hr48_7 (fun c_9 => ?_) (fun c_9 => ?_)
        · replace hw := hw.1 c_9
          refine li_iconst hx hb dX8_refusalOfMoving_57 ?_
          exact g_iret hx hb hr hlk I (by decide) hw dX8_refusalOfMoving_58
        · replace hw := hw.2 c_9
          exact bX8_refusalOfMoving_54 C post _ _ _ _ hw I (lv_sub hl [0] rfl)
    · replace hw := hw.2 c_4
      exact bX8_refusalOfMoving_22 C post _ _ _ _ hw I (lv_sub hl [0] rfl)
abbrev rmX8_leastCost : Room := { frames := 4, cells := 0, slots := 0, locals := 99 }
abbrev wtX8_leastCost : List Cond := Cond.code yX8_leastCost cX8_leastCost 3 (some .int) :: lw_g
set_option maxRecDepth 100000 in
set_option maxHeartbeats 4000000 in
theorem mX8_leastCost (l : Launch) (g : GP) (a1 a2 : Int) (ha1 : inR a1) (ha2 : inR a2) (M : Mem) (post : Int → Mem → Prop) (sz : Nat) (hw : wpX8_leastCost a1 a2 M post) : MIX l yX8_leastCost wtX8_leastCost rmX8_leastCost g [.ref (g.2.2.2 0), .int (i32 a1), .int (i32 a2)] M sz post := by
  refine Met.ofW (cc := cX8_leastCost) (maxL := 3) (ret := (some .int)) (by decide) rfl ?_
  intro p e s m args below meth c s₁ B hml hv
  obtain ⟨rfl, hpre⟩ := hv
  have hsz := hpre.1
  subst hsz
  have C : Cx p m c cX8_leastCost 3 s _ lw_g RX8 meth (some .int) := ⟨⟨B.exec, B.bytes, hml, findClass_of_methodNamed B.named, fun w h => atoms_spec (ws := wtX8_leastCost) B.pre w (List.mem_cons_of_mem _ h)⟩, B.returns, B.notSynchronized⟩
  obtain ⟨⟨hx, hb, hml, hown, hts⟩, hr, hlk⟩ := id C
  have I := InG.start hpre
  have hl := lv_entry ([.ref (g.2.2.2 0), .int (i32 a1), .int (i32 a2)]) (n := 3) (Nat.le_of_ble_eq_true rfl)
  rw [lg_entry_eq]
  generalize (lg_sl ([.ref (g.2.2.2 0), .int (i32 a1), .int (i32 a2)]) ++ List.replicate (3 - (lg_sl ([.ref (g.2.2.2 0), .int (i32 a1), .int (i32 a2)])).length) Slot.unset).toArray = ls at hl ⊢
  have hl : lv_has ls 3 [(0, .ref (g.2.2.2 0)), (1, .int (i32 a1)), (2, .int (i32 a2))] := hl
  show W p l e rmX8_leastCost s m _ below meth c s.heap [] 0 0 (QIX below _ s g post) _
  refine lv_aload_n hx hb dX8_leastCost_0 rfl (lv_at hl 0 rfl) ?_
  refine xg_0_4 hx hb hts wu_X8 hown I wf_X8_40 dX8_leastCost_1 ?_
  refine lv_aload_n hx hb dX8_leastCost_4 rfl (lv_at hl 0 rfl) ?_
  refine xg_0_0 hx hb hts wu_X8 hown I wf_X8_12 dX8_leastCost_5 ?_
  refine lv_aload_n hx hb dX8_leastCost_8 rfl (lv_at hl 0 rfl) ?_
  refine xg_0_1 hx hb hts wu_X8 hown I wf_X8_19 dX8_leastCost_9 ?_
  refine xg_2_1 hx hb hts wu_X2 hown I wf_X8_100 dX8_leastCost_12 ?_
  refine lv_iload_n hx hb dX8_leastCost_15 rfl (lv_at hl 1 rfl) ?_
  obtain ⟨h_1, hw⟩ := hw
  refine x_aald_12 hx hb I h_1 dX8_leastCost_16 ?_
  refine lv_aload_n hx hb dX8_leastCost_17 rfl (lv_at hl 0 rfl) ?_
  refine xg_0_1 hx hb hts wu_X8 hown I wf_X8_19 dX8_leastCost_18 ?_
  refine xg_2_1 hx hb hts wu_X2 hown I wf_X8_100 dX8_leastCost_21 ?_
  refine lv_iload_n hx hb dX8_leastCost_24 rfl (lv_at hl 2 rfl) ?_
  obtain ⟨h_2, hw⟩ := hw
  refine x_aald_12 hx hb I h_2 dX8_leastCost_25 ?_
  refine lv_aload_n hx hb dX8_leastCost_26 rfl (lv_at hl 0 rfl) ?_
  refine xg_0_1 hx hb hts wu_X8 hown I wf_X8_19 dX8_leastCost_27 ?_
  refine lv_iload_n hx hb dX8_leastCost_30 rfl (lv_at hl 1 rfl) ?_
  refine g_callVi (o := 2) (As := [.int (i32 a1)]) (rest := [.ref (g.2.2.2 (80 + a2)), .ref (g.2.2.2 (80 + a1)), .ref (g.2.2.2 1), .ref (g.2.2.2 5)]) ⟨hx, hb, hml, hown, hts⟩ I (mX2_total l g a1 ha1 M _ _ hw) (cwV 1 hts (gd_V wm_X8_130 wi_X2_total wl_X2_total wn_X2 wc_X2_total) rfl rfl rfl wd_X2_total ⟨Nat.le_of_ble_eq_true rfl, Nat.le_of_ble_eq_true rfl⟩) (by omega) (by omega) obX_2 rfl rfl hl.1 rfl (Nat.le_of_ble_eq_true rfl) dX8_leastCost_31 ⟨Nat.zero_le _, Nat.zero_le _⟩ (fun r31_2 M31_2 H locs hr31_2 hw I => ?_)
  refine g_callVi (o := 5) (As := [.ref (g.2.2.2 1), .ref (g.2.2.2 (80 + a1)), .ref (g.2.2.2 (80 + a2)), .int (i32 r31_2)]) (rest := []) ⟨hx, hb, hml, hown, hts⟩ I (mX4_cheapest l g (80 + a1) (80 + a2) r31_2 hr31_2 M31_2 _ _ hw) (cwV 4 hts (gd_V wm_X8_181 wi_X4_cheapest wl_X4_cheapest wn_X4 wc_X4_cheapest) rfl rfl rfl wd_X4_cheapest ⟨Nat.le_of_ble_eq_true rfl, Nat.le_of_ble_eq_true rfl⟩) (by omega) (by omega) obX_5 rfl rfl hl.1 rfl (Nat.le_of_ble_eq_true rfl) dX8_leastCost_34 ⟨Nat.zero_le _, Nat.zero_le _⟩ (fun r34_3 M34_3 H locs hr34_3 hw I => ?_)
  exact g_iret hx hb hr hlk I hr34_3 hw dX8_leastCost_37
abbrev rmX8_least : Room := { frames := 5, cells := 0, slots := 0, locals := 121 }
abbrev wtX8_least : List Cond := Cond.code yX8_least cX8_least 4 (some .int) :: lw_g
set_option maxRecDepth 100000 in
set_option maxHeartbeats 4000000 in
theorem bX8_least_21 {p : Program} {l : Launch} {e : Env} {s : State} {m : MethodId} {args : Array Value} {below : List Frame} {meth : Method} {c : Code} {g : GP} (C : Cx p m c cX8_least 4 s args lw_g RX8 meth (some .int)) (post : Int → Mem → Prop) : ∀ (t0 : Int), inR t0 → ∀ (M : Mem) (H : Heap) (locs : List Loc) (ls : Array Slot), jbX8_least_21 post t0 M → IX g s M H locs → lv_has ls 4 [(0, .ref (g.2.2.2 0))] → W p l e rmX8_least s m args below meth c H locs 0 0 (QIX below args s g post) (F0 m 21 ls [.int (i32 t0)]) := by
  obtain ⟨⟨hx, hb, hml, hown, hts⟩, hr, hlk⟩ := id C
  intro t0 ht0 M H locs ls hw I hl
  exact g_iret hx hb hr hlk I ht0 hw dX8_least_21
set_option maxRecDepth 100000 in
set_option maxHeartbeats 4000000 in
theorem mX8_least (l : Launch) (g : GP) (a1 a2 : Int) (ha1 : inR a1) (ha2 : inR a2) (M : Mem) (post : Int → Mem → Prop) (sz : Nat) (hw : wpX8_least a1 a2 M post) : MIX l yX8_least wtX8_least rmX8_least g [.ref (g.2.2.2 0), .int (i32 a1), .int (i32 a2)] M sz post := by
  refine Met.ofW (cc := cX8_least) (maxL := 4) (ret := (some .int)) (by decide) rfl ?_
  intro p e s m args below meth c s₁ B hml hv
  obtain ⟨rfl, hpre⟩ := hv
  have hsz := hpre.1
  subst hsz
  have C : Cx p m c cX8_least 4 s _ lw_g RX8 meth (some .int) := ⟨⟨B.exec, B.bytes, hml, findClass_of_methodNamed B.named, fun w h => atoms_spec (ws := wtX8_least) B.pre w (List.mem_cons_of_mem _ h)⟩, B.returns, B.notSynchronized⟩
  obtain ⟨⟨hx, hb, hml, hown, hts⟩, hr, hlk⟩ := id C
  have I := InG.start hpre
  have hl := lv_entry ([.ref (g.2.2.2 0), .int (i32 a1), .int (i32 a2)]) (n := 4) (Nat.le_of_ble_eq_true rfl)
  rw [lg_entry_eq]
  generalize (lg_sl ([.ref (g.2.2.2 0), .int (i32 a1), .int (i32 a2)]) ++ List.replicate (4 - (lg_sl ([.ref (g.2.2.2 0), .int (i32 a1), .int (i32 a2)])).length) Slot.unset).toArray = ls at hl ⊢
  have hl : lv_has ls 4 [(0, .ref (g.2.2.2 0)), (1, .int (i32 a1)), (2, .int (i32 a2))] := hl
  show W p l e rmX8_least s m _ below meth c s.heap [] 0 0 (QIX below _ s g post) _
  refine lv_aload_n hx hb dX8_least_0 rfl (lv_at hl 0 rfl) ?_
  refine lv_iload_n hx hb dX8_least_1 rfl (lv_at hl 1 rfl) ?_
  refine lv_iload_n hx hb dX8_least_2 rfl (lv_at hl 2 rfl) ?_
  refine g_callVi (o := 0) (As := [.int (i32 a1), .int (i32 a2)]) (rest := []) ⟨hx, hb, hml, hown, hts⟩ I (mX8_refusalOfMoving l g a1 a2 ha1 ha2 M _ _ hw) (cwV 2 hts (gd_V wm_X8_134 wi_X8_refusalOfMoving wl_X8_refusalOfMoving wn_X8 wc_X8_refusalOfMoving) rfl rfl rfl wd_X8_refusalOfMoving ⟨Nat.le_of_ble_eq_true rfl, Nat.le_of_ble_eq_true rfl⟩) (by omega) (by omega) obX_0 rfl rfl hl.1 rfl (Nat.le_of_ble_eq_true rfl) dX8_least_3 ⟨Nat.zero_le _, Nat.zero_le _⟩ (fun r3_0 M3_0 H locs hr3_0 hw I => ?_)
  refine lv_istore_n (lv' := [(3, .int (i32 r3_0)), (0, .ref (g.2.2.2 0)), (1, .int (i32 a1)), (2, .int (i32 a2))]) hx hb dX8_least_6 rfl hl (by decide) rfl (fun ls hl => ?_)
  refine lv_iload_n hx hb dX8_least_7 rfl (lv_at hl 0 rfl) ?_
  refine li_if_ne (tgt := 20) hx hb dX8_least_8 (by decide) hr3_0 (fun c_2 => ?_) (fun c_2 => ?_)
  · replace hw := hw.1 c_2
    refine lv_iload_n hx hb dX8_least_20 rfl (lv_at hl 0 rfl) ?_
    exact bX8_least_21 C post r3_0 hr3_0 _ _ _ _ hw I (lv_sub hl [1] rfl)
  · replace hw := hw.2 c_2
    refine lv_aload_n hx hb dX8_least_11 rfl (lv_at hl 1 rfl) ?_
    refine lv_iload_n hx hb dX8_least_12 rfl (lv_at hl 2 rfl) ?_
    refine lv_iload_n hx hb dX8_least_13 rfl (lv_at hl 3 rfl) ?_
    refine g_callVi (o := 0) (As := [.int (i32 a1), .int (i32 a2)]) (rest := []) ⟨hx, hb, hml, hown, hts⟩ I (mX8_leastCost l g a1 a2 ha1 ha2 M3_0 _ _ hw) (cwV 2 hts (gd_V wm_X8_137 wi_X8_leastCost wl_X8_leastCost wn_X8 wc_X8_leastCost) rfl rfl rfl wd_X8_leastCost ⟨Nat.le_of_ble_eq_true rfl, Nat.le_of_ble_eq_true rfl⟩) (by omega) (by omega) obX_0 rfl rfl hl.1 rfl (Nat.le_of_ble_eq_true rfl) dX8_least_14 ⟨Nat.zero_le _, Nat.zero_le _⟩ (fun r14_2 M14_2 H locs hr14_2 hw I => ?_)
    refine lv_goto (tgt := 21) hx hb dX8_least_17 (by decide) ?_
    exact bX8_least_21 C post r14_2 hr14_2 _ _ _ _ hw I (lv_sub hl [1] rfl)
abbrev rmX8_refusalAtPlaces : Room := { frames := 2, cells := 0, slots := 0, locals := 45 }
abbrev wtX8_refusalAtPlaces : List Cond := Cond.code yX8_refusalAtPlaces cX8_refusalAtPlaces 5 (some .int) :: lw_g
set_option maxRecDepth 100000 in
set_option maxHeartbeats 4000000 in
theorem bX8_refusalAtPlaces_23 {p : Program} {l : Launch} {e : Env} {s : State} {m : MethodId} {args : Array Value} {below : List Frame} {meth : Method} {c : Code} {g : GP} (C : Cx p m c cX8_refusalAtPlaces 5 s args lw_g RX8 meth (some .int)) (post : Int → Mem → Prop) : ∀ (M : Mem) (H : Heap) (locs : List Loc) (ls : Array Slot), jbX8_refusalAtPlaces_23 post  M → IX g s M H locs → lv_has ls 5 [(0, .ref (g.2.2.2 0))] → W p l e rmX8_refusalAtPlaces s m args below meth c H locs 0 0 (QIX below args s g post) (F0 m 23 ls []) := by
  obtain ⟨⟨hx, hb, hml, hown, hts⟩, hr, hlk⟩ := id C
  intro M H locs ls hw I hl
  refine lv_bipush (v := i32 (-2)) hx hb dX8_refusalAtPlaces_23 (by decide) ?_
  exact g_iret hx hb hr hlk I (by decide) hw dX8_refusalAtPlaces_25
set_option maxRecDepth 100000 in
set_option maxHeartbeats 4000000 in
theorem mX8_refusalAtPlaces (l : Launch) (g : GP) (a1 a2 a3 a4 : Int) (ha1 : inR a1) (ha2 : inR a2) (ha3 : inR a3) (ha4 : inR a4) (M : Mem) (post : Int → Mem → Prop) (sz : Nat) (hw : wpX8_refusalAtPlaces a1 a2 a3 a4 M post) : MIX l yX8_refusalAtPlaces wtX8_refusalAtPlaces rmX8_refusalAtPlaces g [.ref (g.2.2.2 0), .int (i32 a1), .int (i32 a2), .int (i32 a3), .int (i32 a4)] M sz post := by
  refine Met.ofW (cc := cX8_refusalAtPlaces) (maxL := 5) (ret := (some .int)) (by decide) rfl ?_
  intro p e s m args below meth c s₁ B hml hv
  obtain ⟨rfl, hpre⟩ := hv
  have hsz := hpre.1
  subst hsz
  have C : Cx p m c cX8_refusalAtPlaces 5 s _ lw_g RX8 meth (some .int) := ⟨⟨B.exec, B.bytes, hml, findClass_of_methodNamed B.named, fun w h => atoms_spec (ws := wtX8_refusalAtPlaces) B.pre w (List.mem_cons_of_mem _ h)⟩, B.returns, B.notSynchronized⟩
  obtain ⟨⟨hx, hb, hml, hown, hts⟩, hr, hlk⟩ := id C
  have I := InG.start hpre
  have hl := lv_entry ([.ref (g.2.2.2 0), .int (i32 a1), .int (i32 a2), .int (i32 a3), .int (i32 a4)]) (n := 5) (Nat.le_of_ble_eq_true rfl)
  rw [lg_entry_eq]
  generalize (lg_sl ([.ref (g.2.2.2 0), .int (i32 a1), .int (i32 a2), .int (i32 a3), .int (i32 a4)]) ++ List.replicate (5 - (lg_sl ([.ref (g.2.2.2 0), .int (i32 a1), .int (i32 a2), .int (i32 a3), .int (i32 a4)])).length) Slot.unset).toArray = ls at hl ⊢
  have hl : lv_has ls 5 [(0, .ref (g.2.2.2 0)), (1, .int (i32 a1)), (2, .int (i32 a2)), (3, .int (i32 a3)), (4, .int (i32 a4))] := hl
  show W p l e rmX8_refusalAtPlaces s m _ below meth c s.heap [] 0 0 (QIX below _ s g post) _
  refine lv_aload_n hx hb dX8_refusalAtPlaces_0 rfl (lv_at hl 0 rfl) ?_
  refine xg_0_0 hx hb hts wu_X8 hown I wf_X8_12 dX8_refusalAtPlaces_1 ?_
  refine lv_iload_n hx hb dX8_refusalAtPlaces_4 rfl (lv_at hl 3 rfl) ?_
  refine g_callVi (o := 1) (As := [.int (i32 a3)]) (rest := []) ⟨hx, hb, hml, hown, hts⟩ I (mX3_has l g a3 ha3 M _ _ hw) (cwV 1 hts (gd_V wm_X8_85 wi_X3_has wl_X3_has wn_X3 wc_X3_has) rfl rfl rfl wd_X3_has ⟨Nat.le_of_ble_eq_true rfl, Nat.le_of_ble_eq_true rfl⟩) (by omega) (by omega) obX_1 rfl rfl hl.1 rfl (Nat.le_of_ble_eq_true rfl) dX8_refusalAtPlaces_5 ⟨Nat.zero_le _, Nat.zero_le _⟩ (fun r5_0 M5_0 H locs hr5_0 hw I => ?_)
  refine li_if_eq (tgt := 23) hx hb dX8_refusalAtPlaces_8 (by decide) hr5_0 (fun c_2 => ?_) (fun c_2 => ?_)
  · replace hw := hw.1 c_2
    exact bX8_refusalAtPlaces_23 C post _ _ _ _ hw I (lv_sub hl [0] rfl)
  · replace hw := hw.2 c_2
    refine lv_aload_n hx hb dX8_refusalAtPlaces_11 rfl (lv_at hl 0 rfl) ?_
    refine xg_0_0 hx hb hts wu_X8 hown I wf_X8_12 dX8_refusalAtPlaces_12 ?_
    refine lv_iload hx hb dX8_refusalAtPlaces_15 (lv_at hl 4 rfl) ?_
    refine g_callVi (o := 1) (As := [.int (i32 a4)]) (rest := []) ⟨hx, hb, hml, hown, hts⟩ I (mX3_has l g a4 ha4 M5_0 _ _ hw) (cwV 1 hts (gd_V wm_X8_85 wi_X3_has wl_X3_has wn_X3 wc_X3_has) rfl rfl rfl wd_X3_has ⟨Nat.le_of_ble_eq_true rfl, Nat.le_of_ble_eq_true rfl⟩) (by omega) (by omega) obX_1 rfl rfl hl.1 rfl (Nat.le_of_ble_eq_true rfl) dX8_refusalAtPlaces_17 ⟨Nat.zero_le _, Nat.zero_le _⟩ (fun r17_2 M17_2 H locs hr17_2 hw I => ?_)
    refine li_if_ne (tgt := 26) hx hb dX8_refusalAtPlaces_20 (by decide) hr17_2 (fun c_4 => ?_) (fun c_4 => ?_)
    · replace hw := hw.1 c_4
      refine lv_aload_n hx hb dX8_refusalAtPlaces_26 rfl (lv_at hl 0 rfl) ?_
      refine lv_iload_n hx hb dX8_refusalAtPlaces_27 rfl (lv_at hl 1 rfl) ?_
      refine lv_iload_n hx hb dX8_refusalAtPlaces_28 rfl (lv_at hl 2 rfl) ?_
      refine g_callVi (o := 0) (As := [.int (i32 a1), .int (i32 a2)]) (rest := []) ⟨hx, hb, hml, hown, hts⟩ I (mX8_refusalOfMoving l g a1 a2 ha1 ha2 M17_2 _ _ hw) (cwV 2 hts (gd_V wm_X8_134 wi_X8_refusalOfMoving wl_X8_refusalOfMoving wn_X8 wc_X8_refusalOfMoving) rfl rfl rfl wd_X8_refusalOfMoving ⟨Nat.le_of_ble_eq_true rfl, Nat.le_of_ble_eq_true rfl⟩) (by omega) (by omega) obX_0 rfl rfl hl.1 rfl (Nat.le_of_ble_eq_true rfl) dX8_refusalAtPlaces_29 ⟨Nat.zero_le _, Nat.zero_le _⟩ (fun r29_4 M29_4 H locs hr29_4 hw I => ?_)
      exact g_iret hx hb hr hlk I hr29_4 hw dX8_refusalAtPlaces_32
    · replace hw := hw.2 c_4
      exact bX8_refusalAtPlaces_23 C post _ _ _ _ hw I (lv_sub hl [0] rfl)
abbrev rmX8_makePlan : Room := { frames := 5, cells := 0, slots := 0, locals := 128 }
abbrev wtX8_makePlan : List Cond := Cond.code yX8_makePlan cX8_makePlan 3 none :: lw_g
set_option maxRecDepth 100000 in
set_option maxHeartbeats 4000000 in
theorem bX8_makePlan_17 {p : Program} {l : Launch} {e : Env} {s : State} {m : MethodId} {args : Array Value} {below : List Frame} {meth : Method} {c : Code} {g : GP} (C : Cx p m c cX8_makePlan 3 s args lw_g RX8 meth none) (post : Mem → Prop) : ∀ (x1 x2 : Int), inR x1 → inR x2 → ∀ (M : Mem) (H : Heap) (locs : List Loc) (ls : Array Slot), jbX8_makePlan_17 post x1 x2 M → IX g s M H locs → lv_has ls 3 [(0, .ref (g.2.2.2 0)), (1, .int (i32 x1)), (2, .int (i32 x2))] → W p l e rmX8_makePlan s m args below meth c H locs 0 0 (QVX below args s g post) (F0 m 17 ls []) := by
  obtain ⟨⟨hx, hb, hml, hown, hts⟩, hr, hlk⟩ := id C
  intro x1 x2 h1 h2 M H locs ls hw I hl
  refine lv_aload_n hx hb dX8_makePlan_17 rfl (lv_at hl 0 rfl) ?_
  refine xg_0_5 hx hb hts wu_X8 hown I wf_X8_47 dX8_makePlan_18 ?_
  refine lv_aload_n hx hb dX8_makePlan_21 rfl (lv_at hl 0 rfl) ?_
  refine xg_0_0 hx hb hts wu_X8 hown I wf_X8_12 dX8_makePlan_22 ?_
  refine lv_aload_n hx hb dX8_makePlan_25 rfl (lv_at hl 0 rfl) ?_
  refine xg_0_4 hx hb hts wu_X8 hown I wf_X8_40 dX8_makePlan_26 ?_
  refine lv_aload_n hx hb dX8_makePlan_29 rfl (lv_at hl 0 rfl) ?_
  refine xg_0_1 hx hb hts wu_X8 hown I wf_X8_19 dX8_makePlan_30 ?_
  refine xg_2_1 hx hb hts wu_X2 hown I wf_X8_100 dX8_makePlan_33 ?_
  refine lv_iload_n hx hb dX8_makePlan_36 rfl (lv_at hl 1 rfl) ?_
  obtain ⟨h_1, hw⟩ := hw
  refine x_aald_12 hx hb I h_1 dX8_makePlan_37 ?_
  refine lv_aload_n hx hb dX8_makePlan_38 rfl (lv_at hl 0 rfl) ?_
  refine xg_0_1 hx hb hts wu_X8 hown I wf_X8_19 dX8_makePlan_39 ?_
  refine xg_2_1 hx hb hts wu_X2 hown I wf_X8_100 dX8_makePlan_42 ?_
  refine lv_iload_n hx hb dX8_makePlan_45 rfl (lv_at hl 2 rfl) ?_
  obtain ⟨h_2, hw⟩ := hw
  refine x_aald_12 hx hb I h_2 dX8_makePlan_46 ?_
  refine lv_aload_n hx hb dX8_makePlan_47 rfl (lv_at hl 0 rfl) ?_
  refine xg_0_1 hx hb hts wu_X8 hown I wf_X8_19 dX8_makePlan_48 ?_
  refine lv_iload_n hx hb dX8_makePlan_51 rfl (lv_at hl 1 rfl) ?_
  refine g_callVi (o := 2) (As := [.int (i32 x1)]) (rest := [.ref (g.2.2.2 (80 + x2)), .ref (g.2.2.2 (80 + x1)), .ref (g.2.2.2 5), .ref (g.2.2.2 1), .ref (g.2.2.2 6)]) ⟨hx, hb, hml, hown, hts⟩ I (mX2_total l g x1 h1 M _ _ hw) (cwV 1 hts (gd_V wm_X8_130 wi_X2_total wl_X2_total wn_X2 wc_X2_total) rfl rfl rfl wd_X2_total ⟨Nat.le_of_ble_eq_true rfl, Nat.le_of_ble_eq_true rfl⟩) (by omega) (by omega) obX_2 rfl rfl hl.1 rfl (Nat.le_of_ble_eq_true rfl) dX8_makePlan_52 ⟨Nat.zero_le _, Nat.zero_le _⟩ (fun r52_2 M52_2 H locs hr52_2 hw I => ?_)
  refine g_callVv (o := 6) (As := [.ref (g.2.2.2 1), .ref (g.2.2.2 5), .ref (g.2.2.2 (80 + x1)), .ref (g.2.2.2 (80 + x2)), .int (i32 r52_2)]) (rest := []) ⟨hx, hb, hml, hown, hts⟩ I (mX6_make l g (80 + x1) (80 + x2) r52_2 hr52_2 M52_2 _ _ hw) (cwV 5 hts (gd_V wm_X8_212 wi_X6_make wl_X6_make wn_X6 wc_X6_make) rfl rfl rfl wd_X6_make ⟨Nat.le_of_ble_eq_true rfl, Nat.le_of_ble_eq_true rfl⟩) (by omega) (by omega) obX_6 rfl rfl hl.1 rfl (Nat.le_of_ble_eq_true rfl) dX8_makePlan_55 ⟨Nat.zero_le _, Nat.zero_le _⟩ (fun M55_3 H locs hw I => ?_)
  refine lv_aload_n hx hb dX8_makePlan_58 rfl (lv_at hl 0 rfl) ?_
  refine lv_iload_n hx hb dX8_makePlan_59 rfl (lv_at hl 1 rfl) ?_
  refine xp_0_7 hx hb hts wu_X8 hown I wf_X8_58 h1 dX8_makePlan_60 (fun H locs M60_4 eM60_4 I => ?_)
  replace hw := hw M60_4 eM60_4
  refine lv_aload_n hx hb dX8_makePlan_63 rfl (lv_at hl 0 rfl) ?_
  refine lv_iload_n hx hb dX8_makePlan_64 rfl (lv_at hl 2 rfl) ?_
  refine xp_0_8 hx hb hts wu_X8 hown I wf_X8_62 h2 dX8_makePlan_65 (fun H locs M65_5 eM65_5 I => ?_)
  replace hw := hw M65_5 eM65_5
  exact g_vret hx hb hr hlk I hw dX8_makePlan_68
set_option maxRecDepth 100000 in
set_option maxHeartbeats 4000000 in
theorem mX8_makePlan (l : Launch) (g : GP) (a1 a2 : Int) (ha1 : inR a1) (ha2 : inR a2) (M : Mem) (post : Mem → Prop) (sz : Nat) (hw : wpX8_makePlan a1 a2 M post) : MVX l yX8_makePlan wtX8_makePlan rmX8_makePlan g [.ref (g.2.2.2 0), .int (i32 a1), .int (i32 a2)] M sz post := by
  refine Met.ofW (cc := cX8_makePlan) (maxL := 3) (ret := none) (by decide) rfl ?_
  intro p e s m args below meth c s₁ B hml hv
  obtain ⟨rfl, hpre⟩ := hv
  have hsz := hpre.1
  subst hsz
  have C : Cx p m c cX8_makePlan 3 s _ lw_g RX8 meth none := ⟨⟨B.exec, B.bytes, hml, findClass_of_methodNamed B.named, fun w h => atoms_spec (ws := wtX8_makePlan) B.pre w (List.mem_cons_of_mem _ h)⟩, B.returns, B.notSynchronized⟩
  obtain ⟨⟨hx, hb, hml, hown, hts⟩, hr, hlk⟩ := id C
  have I := InG.start hpre
  have hl := lv_entry ([.ref (g.2.2.2 0), .int (i32 a1), .int (i32 a2)]) (n := 3) (Nat.le_of_ble_eq_true rfl)
  rw [lg_entry_eq]
  generalize (lg_sl ([.ref (g.2.2.2 0), .int (i32 a1), .int (i32 a2)]) ++ List.replicate (3 - (lg_sl ([.ref (g.2.2.2 0), .int (i32 a1), .int (i32 a2)])).length) Slot.unset).toArray = ls at hl ⊢
  have hl : lv_has ls 3 [(0, .ref (g.2.2.2 0)), (1, .int (i32 a1)), (2, .int (i32 a2))] := hl
  show W p l e rmX8_makePlan s m _ below meth c s.heap [] 0 0 (QVX below _ s g post) _
  refine lv_aload_n hx hb dX8_makePlan_0 rfl (lv_at hl 0 rfl) ?_
  refine xg_0_7 hx hb hts wu_X8 hown I wf_X8_58 dX8_makePlan_1 ?_
  have h_1 := I.rng 0 7
  refine lv_iload_n hx hb dX8_makePlan_4 rfl (lv_at hl 1 rfl) ?_
  refine li_icmp_ne (tgt := 17) hx hb dX8_makePlan_5 (by decide) h_1 ha1 (fun c_2 => ?_) (fun c_2 => ?_)
  · replace hw := hw.1 c_2
    exact bX8_makePlan_17 C post a1 a2 ha1 ha2 _ _ _ _ hw I (lv_sub hl [0, 1, 2] rfl)
  · replace hw := hw.2 c_2
    refine lv_aload_n hx hb dX8_makePlan_8 rfl (lv_at hl 0 rfl) ?_
    refine xg_0_8 hx hb hts wu_X8 hown I wf_X8_62 dX8_makePlan_9 ?_
    have h_3 := I.rng 0 8
    refine lv_iload_n hx hb dX8_makePlan_12 rfl (lv_at hl 2 rfl) ?_
    refine li_icmp_ne (tgt := 17) hx hb dX8_makePlan_13 (by decide) h_3 ha2 (fun c_4 => ?_) (fun c_4 => ?_)
    · replace hw := hw.1 c_4
      exact bX8_makePlan_17 C post a1 a2 ha1 ha2 _ _ _ _ hw I (lv_sub hl [0, 1, 2] rfl)
    · replace hw := hw.2 c_4
      exact g_vret hx hb hr hlk I hw dX8_makePlan_16
abbrev rmX8_plan : Room := { frames := 6, cells := 0, slots := 0, locals := 150 }
abbrev wtX8_plan : List Cond := Cond.code yX8_plan cX8_plan 6 (some .int) :: lw_g
set_option maxRecDepth 100000 in
set_option maxHeartbeats 4000000 in
theorem mX8_plan (l : Launch) (g : GP) (a1 a2 a3 a4 : Int) (ha1 : inR a1) (ha2 : inR a2) (ha3 : inR a3) (ha4 : inR a4) (M : Mem) (post : Int → Mem → Prop) (sz : Nat) (hw : wpX8_plan a1 a2 a3 a4 M post) : MIX l yX8_plan wtX8_plan rmX8_plan g [.ref (g.2.2.2 0), .int (i32 a1), .int (i32 a2), .int (i32 a3), .int (i32 a4)] M sz post := by
  refine Met.ofW (cc := cX8_plan) (maxL := 6) (ret := (some .int)) (by decide) rfl ?_
  intro p e s m args below meth c s₁ B hml hv
  obtain ⟨rfl, hpre⟩ := hv
  have hsz := hpre.1
  subst hsz
  have C : Cx p m c cX8_plan 6 s _ lw_g RX8 meth (some .int) := ⟨⟨B.exec, B.bytes, hml, findClass_of_methodNamed B.named, fun w h => atoms_spec (ws := wtX8_plan) B.pre w (List.mem_cons_of_mem _ h)⟩, B.returns, B.notSynchronized⟩
  obtain ⟨⟨hx, hb, hml, hown, hts⟩, hr, hlk⟩ := id C
  have I := InG.start hpre
  have hl := lv_entry ([.ref (g.2.2.2 0), .int (i32 a1), .int (i32 a2), .int (i32 a3), .int (i32 a4)]) (n := 6) (Nat.le_of_ble_eq_true rfl)
  rw [lg_entry_eq]
  generalize (lg_sl ([.ref (g.2.2.2 0), .int (i32 a1), .int (i32 a2), .int (i32 a3), .int (i32 a4)]) ++ List.replicate (6 - (lg_sl ([.ref (g.2.2.2 0), .int (i32 a1), .int (i32 a2), .int (i32 a3), .int (i32 a4)])).length) Slot.unset).toArray = ls at hl ⊢
  have hl : lv_has ls 6 [(0, .ref (g.2.2.2 0)), (1, .int (i32 a1)), (2, .int (i32 a2)), (3, .int (i32 a3)), (4, .int (i32 a4))] := hl
  show W p l e rmX8_plan s m _ below meth c s.heap [] 0 0 (QIX below _ s g post) _
  refine lv_aload_n hx hb dX8_plan_0 rfl (lv_at hl 0 rfl) ?_
  refine lv_iload_n hx hb dX8_plan_1 rfl (lv_at hl 1 rfl) ?_
  refine lv_iload_n hx hb dX8_plan_2 rfl (lv_at hl 2 rfl) ?_
  refine lv_iload_n hx hb dX8_plan_3 rfl (lv_at hl 3 rfl) ?_
  refine lv_iload hx hb dX8_plan_4 (lv_at hl 4 rfl) ?_
  refine g_callVi (o := 0) (As := [.int (i32 a1), .int (i32 a2), .int (i32 a3), .int (i32 a4)]) (rest := []) ⟨hx, hb, hml, hown, hts⟩ I (mX8_refusalAtPlaces l g a1 a2 a3 a4 ha1 ha2 ha3 ha4 M _ _ hw) (cwV 4 hts (gd_V wm_X8_140 wi_X8_refusalAtPlaces wl_X8_refusalAtPlaces wn_X8 wc_X8_refusalAtPlaces) rfl rfl rfl wd_X8_refusalAtPlaces ⟨Nat.le_of_ble_eq_true rfl, Nat.le_of_ble_eq_true rfl⟩) (by omega) (by omega) obX_0 rfl rfl hl.1 rfl (Nat.le_of_ble_eq_true rfl) dX8_plan_6 ⟨Nat.zero_le _, Nat.zero_le _⟩ (fun r6_0 M6_0 H locs hr6_0 hw I => ?_)
  refine lv_istore (lv' := [(5, .int (i32 r6_0)), (0, .ref (g.2.2.2 0)), (1, .int (i32 a1)), (2, .int (i32 a2)), (3, .int (i32 a3)), (4, .int (i32 a4))]) hx hb dX8_plan_9 hl (by decide) rfl (fun ls hl => ?_)
  refine lv_iload hx hb dX8_plan_11 (lv_at hl 0 rfl) ?_
  refine li_if_eq (tgt := 19) hx hb dX8_plan_13 (by decide) hr6_0 (fun c_2 => ?_) (fun c_2 => ?_)
  · replace hw := hw.1 c_2
    refine lv_aload_n hx hb dX8_plan_19 rfl (lv_at hl 1 rfl) ?_
    refine lv_iload_n hx hb dX8_plan_20 rfl (lv_at hl 2 rfl) ?_
    refine lv_iload_n hx hb dX8_plan_21 rfl (lv_at hl 3 rfl) ?_
    refine g_callVv (o := 0) (As := [.int (i32 a1), .int (i32 a2)]) (rest := []) ⟨hx, hb, hml, hown, hts⟩ I (mX8_makePlan l g a1 a2 ha1 ha2 M6_0 _ _ hw) (cwV 2 hts (gd_V wm_X8_144 wi_X8_makePlan wl_X8_makePlan wn_X8 wc_X8_makePlan) rfl rfl rfl wd_X8_makePlan ⟨Nat.le_of_ble_eq_true rfl, Nat.le_of_ble_eq_true rfl⟩) (by omega) (by omega) obX_0 rfl rfl hl.1 rfl (Nat.le_of_ble_eq_true rfl) dX8_plan_22 ⟨Nat.zero_le _, Nat.zero_le _⟩ (fun M22_2 H locs hw I => ?_)
    refine lv_aload_n hx hb dX8_plan_25 rfl (lv_at hl 1 rfl) ?_
    refine xg_0_5 hx hb hts wu_X8 hown I wf_X8_47 dX8_plan_26 ?_
    refine xg_6_0 hx hb hts wu_X6 hown I wf_X8_148 dX8_plan_29 ?_
    refine lv_iload_n hx hb dX8_plan_32 rfl (lv_at hl 4 rfl) ?_
    obtain ⟨h_4, hw⟩ := hw
    refine x_aald_14 hx hb I h_4 dX8_plan_33 ?_
    refine lv_iload hx hb dX8_plan_34 (lv_at hl 5 rfl) ?_
    obtain ⟨h_5, hw⟩ := hw
    refine x_iald hx hb I (70 + a3) (lenX_70 h_4) h_5 dX8_plan_36 ?_
    have h_6 := I.rng (70 + a3) a4
    exact g_iret hx hb hr hlk I h_6 hw dX8_plan_37
  · replace hw := hw.2 c_2
    refine lv_iload hx hb dX8_plan_16 (lv_at hl 0 rfl) ?_
    exact g_iret hx hb hr hlk I hr6_0 hw dX8_plan_18
abbrev rmX8_alone : Room := { frames := 6, cells := 0, slots := 0, locals := 150 }
abbrev wtX8_alone : List Cond := Cond.code yX8_alone cX8_alone 4 (some .int) :: lw_g
set_option maxRecDepth 100000 in
set_option maxHeartbeats 4000000 in
theorem bX8_alone_38 {p : Program} {l : Launch} {e : Env} {s : State} {m : MethodId} {args : Array Value} {below : List Frame} {meth : Method} {c : Code} {g : GP} (C : Cx p m c cX8_alone 4 s args lw_g RX8 meth (some .int)) (post : Int → Mem → Prop) : ∀ (t0 : Int), inR t0 → ∀ (M : Mem) (H : Heap) (locs : List Loc) (ls : Array Slot), jbX8_alone_38 post t0 M → IX g s M H locs → lv_has ls 4 [(0, .ref (g.2.2.2 0))] → W p l e rmX8_alone s m args below meth c H locs 0 0 (QIX below args s g post) (F0 m 38 ls [.int (i32 t0)]) := by
  obtain ⟨⟨hx, hb, hml, hown, hts⟩, hr, hlk⟩ := id C
  intro t0 ht0 M H locs ls hw I hl
  exact g_iret hx hb hr hlk I ht0 hw dX8_alone_38
set_option maxRecDepth 100000 in
set_option maxHeartbeats 4000000 in
theorem mX8_alone (l : Launch) (g : GP) (a1 a2 : Int) (ha1 : inR a1) (ha2 : inR a2) (M : Mem) (post : Int → Mem → Prop) (sz : Nat) (hw : wpX8_alone a1 a2 M post) : MIX l yX8_alone wtX8_alone rmX8_alone g [.ref (g.2.2.2 0), .int (i32 a1), .int (i32 a2)] M sz post := by
  refine Met.ofW (cc := cX8_alone) (maxL := 4) (ret := (some .int)) (by decide) rfl ?_
  intro p e s m args below meth c s₁ B hml hv
  obtain ⟨rfl, hpre⟩ := hv
  have hsz := hpre.1
  subst hsz
  have C : Cx p m c cX8_alone 4 s _ lw_g RX8 meth (some .int) := ⟨⟨B.exec, B.bytes, hml, findClass_of_methodNamed B.named, fun w h => atoms_spec (ws := wtX8_alone) B.pre w (List.mem_cons_of_mem _ h)⟩, B.returns, B.notSynchronized⟩
  obtain ⟨⟨hx, hb, hml, hown, hts⟩, hr, hlk⟩ := id C
  have I := InG.start hpre
  have hl := lv_entry ([.ref (g.2.2.2 0), .int (i32 a1), .int (i32 a2)]) (n := 4) (Nat.le_of_ble_eq_true rfl)
  rw [lg_entry_eq]
  generalize (lg_sl ([.ref (g.2.2.2 0), .int (i32 a1), .int (i32 a2)]) ++ List.replicate (4 - (lg_sl ([.ref (g.2.2.2 0), .int (i32 a1), .int (i32 a2)])).length) Slot.unset).toArray = ls at hl ⊢
  have hl : lv_has ls 4 [(0, .ref (g.2.2.2 0)), (1, .int (i32 a1)), (2, .int (i32 a2))] := hl
  show W p l e rmX8_alone s m _ below meth c s.heap [] 0 0 (QIX below _ s g post) _
  refine lv_aload_n hx hb dX8_alone_0 rfl (lv_at hl 0 rfl) ?_
  refine lv_iload_n hx hb dX8_alone_1 rfl (lv_at hl 1 rfl) ?_
  refine lv_iload_n hx hb dX8_alone_2 rfl (lv_at hl 2 rfl) ?_
  refine g_callVi (o := 0) (As := [.int (i32 a1), .int (i32 a2)]) (rest := []) ⟨hx, hb, hml, hown, hts⟩ I (mX8_refusalOfMoving l g a1 a2 ha1 ha2 M _ _ hw) (cwV 2 hts (gd_V wm_X8_134 wi_X8_refusalOfMoving wl_X8_refusalOfMoving wn_X8 wc_X8_refusalOfMoving) rfl rfl rfl wd_X8_refusalOfMoving ⟨Nat.le_of_ble_eq_true rfl, Nat.le_of_ble_eq_true rfl⟩) (by omega) (by omega) obX_0 rfl rfl hl.1 rfl (Nat.le_of_ble_eq_true rfl) dX8_alone_3 ⟨Nat.zero_le _, Nat.zero_le _⟩ (fun r3_0 M3_0 H locs hr3_0 hw I => ?_)
  refine lv_istore_n (lv' := [(3, .int (i32 r3_0)), (0, .ref (g.2.2.2 0)), (1, .int (i32 a1)), (2, .int (i32 a2))]) hx hb dX8_alone_6 rfl hl (by decide) rfl (fun ls hl => ?_)
  refine lv_iload_n hx hb dX8_alone_7 rfl (lv_at hl 0 rfl) ?_
  refine li_if_eq (tgt := 13) hx hb dX8_alone_8 (by decide) hr3_0 (fun c_2 => ?_) (fun c_2 => ?_)
  · replace hw := hw.1 c_2
    refine lv_aload_n hx hb dX8_alone_13 rfl (lv_at hl 1 rfl) ?_
    refine lv_iload_n hx hb dX8_alone_14 rfl (lv_at hl 2 rfl) ?_
    refine lv_iload_n hx hb dX8_alone_15 rfl (lv_at hl 3 rfl) ?_
    refine g_callVv (o := 0) (As := [.int (i32 a1), .int (i32 a2)]) (rest := []) ⟨hx, hb, hml, hown, hts⟩ I (mX8_makePlan l g a1 a2 ha1 ha2 M3_0 _ _ hw) (cwV 2 hts (gd_V wm_X8_144 wi_X8_makePlan wl_X8_makePlan wn_X8 wc_X8_makePlan) rfl rfl rfl wd_X8_makePlan ⟨Nat.le_of_ble_eq_true rfl, Nat.le_of_ble_eq_true rfl⟩) (by omega) (by omega) obX_0 rfl rfl hl.1 rfl (Nat.le_of_ble_eq_true rfl) dX8_alone_16 ⟨Nat.zero_le _, Nat.zero_le _⟩ (fun M16_2 H locs hw I => ?_)
    refine lv_aload_n hx hb dX8_alone_19 rfl (lv_at hl 1 rfl) ?_
    refine xg_0_5 hx hb hts wu_X8 hown I wf_X8_47 dX8_alone_20 ?_
    refine lv_aload_n hx hb dX8_alone_23 rfl (lv_at hl 1 rfl) ?_
    refine xg_0_0 hx hb hts wu_X8 hown I wf_X8_12 dX8_alone_24 ?_
    refine g_callVi (o := 6) (As := [.ref (g.2.2.2 1)]) (rest := []) ⟨hx, hb, hml, hown, hts⟩ I (mX6_hasOther l g M16_2 _ _ hw) (cwV 1 hts (gd_V wm_X8_151 wi_X6_hasOther wl_X6_hasOther wn_X6 wc_X6_hasOther) rfl rfl rfl wd_X6_hasOther ⟨Nat.le_of_ble_eq_true rfl, Nat.le_of_ble_eq_true rfl⟩) (by omega) (by omega) obX_6 rfl rfl hl.1 rfl (Nat.le_of_ble_eq_true rfl) dX8_alone_27 ⟨Nat.zero_le _, Nat.zero_le _⟩ (fun r27_3 M27_3 H locs hr27_3 hw I => ?_)
    refine li_if_eq (tgt := 37) hx hb dX8_alone_30 (by decide) hr27_3 (fun c_5 => ?_) (fun c_5 => ?_)
    · replace hw := hw.1 c_5
      refine li_iconst hx hb dX8_alone_37 ?_
      exact bX8_alone_38 C post 1 (by decide) _ _ _ _ hw I (lv_sub hl [1] rfl)
    · replace hw := hw.2 c_5
      refine li_iconst hx hb dX8_alone_33 ?_
      refine lv_goto (tgt := 38) hx hb dX8_alone_34 (by decide) ?_
      exact bX8_alone_38 C post 0 (by decide) _ _ _ _ hw I (lv_sub hl [1] rfl)
  · replace hw := hw.2 c_2
    refine lv_iload_n hx hb dX8_alone_11 rfl (lv_at hl 0 rfl) ?_
    exact g_iret hx hb hr hlk I hr3_0 hw dX8_alone_12
abbrev rmX8_height : Room := { frames := 6, cells := 0, slots := 0, locals := 150 }
abbrev wtX8_height : List Cond := Cond.code yX8_height cX8_height 4 (some .int) :: lw_g
set_option maxRecDepth 100000 in
set_option maxHeartbeats 4000000 in
theorem mX8_height (l : Launch) (g : GP) (a1 a2 a3 : Int) (ha1 : inR a1) (ha2 : inR a2) (ha3 : inR a3) (M : Mem) (post : Int → Mem → Prop) (sz : Nat) (hw : wpX8_height a1 a2 a3 M post) : MIX l yX8_height wtX8_height rmX8_height g [.ref (g.2.2.2 0), .int (i32 a1), .int (i32 a2), .int (i32 a3)] M sz post := by
  refine Met.ofW (cc := cX8_height) (maxL := 4) (ret := (some .int)) (by decide) rfl ?_
  intro p e s m args below meth c s₁ B hml hv
  obtain ⟨rfl, hpre⟩ := hv
  have hsz := hpre.1
  subst hsz
  have C : Cx p m c cX8_height 4 s _ lw_g RX8 meth (some .int) := ⟨⟨B.exec, B.bytes, hml, findClass_of_methodNamed B.named, fun w h => atoms_spec (ws := wtX8_height) B.pre w (List.mem_cons_of_mem _ h)⟩, B.returns, B.notSynchronized⟩
  obtain ⟨⟨hx, hb, hml, hown, hts⟩, hr, hlk⟩ := id C
  have I := InG.start hpre
  have hl := lv_entry ([.ref (g.2.2.2 0), .int (i32 a1), .int (i32 a2), .int (i32 a3)]) (n := 4) (Nat.le_of_ble_eq_true rfl)
  rw [lg_entry_eq]
  generalize (lg_sl ([.ref (g.2.2.2 0), .int (i32 a1), .int (i32 a2), .int (i32 a3)]) ++ List.replicate (4 - (lg_sl ([.ref (g.2.2.2 0), .int (i32 a1), .int (i32 a2), .int (i32 a3)])).length) Slot.unset).toArray = ls at hl ⊢
  have hl : lv_has ls 4 [(0, .ref (g.2.2.2 0)), (1, .int (i32 a1)), (2, .int (i32 a2)), (3, .int (i32 a3))] := hl
  show W p l e rmX8_height s m _ below meth c s.heap [] 0 0 (QIX below _ s g post) _
  refine lv_aload_n hx hb dX8_height_0 rfl (lv_at hl 0 rfl) ?_
  refine lv_iload_n hx hb dX8_height_1 rfl (lv_at hl 1 rfl) ?_
  refine lv_iload_n hx hb dX8_height_2 rfl (lv_at hl 2 rfl) ?_
  refine lv_iload_n hx hb dX8_height_3 rfl (lv_at hl 3 rfl) ?_
  refine lv_iload_n hx hb dX8_height_4 rfl (lv_at hl 3 rfl) ?_
  refine g_callVi (o := 0) (As := [.int (i32 a1), .int (i32 a2), .int (i32 a3), .int (i32 a3)]) (rest := []) ⟨hx, hb, hml, hown, hts⟩ I (mX8_refusalAtPlaces l g a1 a2 a3 a3 ha1 ha2 ha3 ha3 M _ _ hw) (cwV 4 hts (gd_V wm_X8_140 wi_X8_refusalAtPlaces wl_X8_refusalAtPlaces wn_X8 wc_X8_refusalAtPlaces) rfl rfl rfl wd_X8_refusalAtPlaces ⟨Nat.le_of_ble_eq_true rfl, Nat.le_of_ble_eq_true rfl⟩) (by omega) (by omega) obX_0 rfl rfl hl.1 rfl (Nat.le_of_ble_eq_true rfl) dX8_height_5 ⟨Nat.zero_le _, Nat.zero_le _⟩ (fun r5_0 M5_0 H locs hr5_0 hw I => ?_)
  refine li_if_eq (tgt := 14) hx hb dX8_height_8 (by decide) hr5_0 (fun c_2 => ?_) (fun c_2 => ?_)
  · replace hw := hw.1 c_2
    refine lv_aload_n hx hb dX8_height_14 rfl (lv_at hl 0 rfl) ?_
    refine lv_iload_n hx hb dX8_height_15 rfl (lv_at hl 1 rfl) ?_
    refine lv_iload_n hx hb dX8_height_16 rfl (lv_at hl 2 rfl) ?_
    refine g_callVv (o := 0) (As := [.int (i32 a1), .int (i32 a2)]) (rest := []) ⟨hx, hb, hml, hown, hts⟩ I (mX8_makePlan l g a1 a2 ha1 ha2 M5_0 _ _ hw) (cwV 2 hts (gd_V wm_X8_144 wi_X8_makePlan wl_X8_makePlan wn_X8 wc_X8_makePlan) rfl rfl rfl wd_X8_makePlan ⟨Nat.le_of_ble_eq_true rfl, Nat.le_of_ble_eq_true rfl⟩) (by omega) (by omega) obX_0 rfl rfl hl.1 rfl (Nat.le_of_ble_eq_true rfl) dX8_height_17 ⟨Nat.zero_le _, Nat.zero_le _⟩ (fun M17_2 H locs hw I => ?_)
    refine lv_aload_n hx hb dX8_height_20 rfl (lv_at hl 0 rfl) ?_
    refine xg_0_5 hx hb hts wu_X8 hown I wf_X8_47 dX8_height_21 ?_
    refine xg_6_1 hx hb hts wu_X6 hown I wf_X8_156 dX8_height_24 ?_
    refine lv_iload_n hx hb dX8_height_27 rfl (lv_at hl 3 rfl) ?_
    obtain ⟨h_4, hw⟩ := hw
    refine x_iald hx hb I 23 lenX_23 h_4 dX8_height_28 ?_
    have h_5 := I.rng 23 a3
    exact g_iret hx hb hr hlk I h_5 hw dX8_height_29
  · replace hw := hw.2 c_2
    refine lv_ldc (v := i32 (-2147483648)) hx hb hown (hts _ wk_X8_155) dX8_height_11 ?_
    exact g_iret hx hb hr hlk I (by decide) hw dX8_height_13
abbrev rmX8_load : Room := { frames := 6, cells := 0, slots := 0, locals := 150 }
abbrev wtX8_load : List Cond := Cond.code yX8_load cX8_load 6 (some .int) :: lw_g
set_option maxRecDepth 100000 in
set_option maxHeartbeats 4000000 in
theorem mX8_load (l : Launch) (g : GP) (a1 a2 a3 a4 : Int) (ha1 : inR a1) (ha2 : inR a2) (ha3 : inR a3) (ha4 : inR a4) (M : Mem) (post : Int → Mem → Prop) (sz : Nat) (hw : wpX8_load a1 a2 a3 a4 M post) : MIX l yX8_load wtX8_load rmX8_load g [.ref (g.2.2.2 0), .int (i32 a1), .int (i32 a2), .int (i32 a3), .int (i32 a4)] M sz post := by
  refine Met.ofW (cc := cX8_load) (maxL := 6) (ret := (some .int)) (by decide) rfl ?_
  intro p e s m args below meth c s₁ B hml hv
  obtain ⟨rfl, hpre⟩ := hv
  have hsz := hpre.1
  subst hsz
  have C : Cx p m c cX8_load 6 s _ lw_g RX8 meth (some .int) := ⟨⟨B.exec, B.bytes, hml, findClass_of_methodNamed B.named, fun w h => atoms_spec (ws := wtX8_load) B.pre w (List.mem_cons_of_mem _ h)⟩, B.returns, B.notSynchronized⟩
  obtain ⟨⟨hx, hb, hml, hown, hts⟩, hr, hlk⟩ := id C
  have I := InG.start hpre
  have hl := lv_entry ([.ref (g.2.2.2 0), .int (i32 a1), .int (i32 a2), .int (i32 a3), .int (i32 a4)]) (n := 6) (Nat.le_of_ble_eq_true rfl)
  rw [lg_entry_eq]
  generalize (lg_sl ([.ref (g.2.2.2 0), .int (i32 a1), .int (i32 a2), .int (i32 a3), .int (i32 a4)]) ++ List.replicate (6 - (lg_sl ([.ref (g.2.2.2 0), .int (i32 a1), .int (i32 a2), .int (i32 a3), .int (i32 a4)])).length) Slot.unset).toArray = ls at hl ⊢
  have hl : lv_has ls 6 [(0, .ref (g.2.2.2 0)), (1, .int (i32 a1)), (2, .int (i32 a2)), (3, .int (i32 a3)), (4, .int (i32 a4))] := hl
  show W p l e rmX8_load s m _ below meth c s.heap [] 0 0 (QIX below _ s g post) _
  refine lv_aload_n hx hb dX8_load_0 rfl (lv_at hl 0 rfl) ?_
  refine lv_iload_n hx hb dX8_load_1 rfl (lv_at hl 1 rfl) ?_
  refine lv_iload_n hx hb dX8_load_2 rfl (lv_at hl 2 rfl) ?_
  refine lv_iload_n hx hb dX8_load_3 rfl (lv_at hl 3 rfl) ?_
  refine lv_iload hx hb dX8_load_4 (lv_at hl 4 rfl) ?_
  refine g_callVi (o := 0) (As := [.int (i32 a1), .int (i32 a2), .int (i32 a3), .int (i32 a4)]) (rest := []) ⟨hx, hb, hml, hown, hts⟩ I (mX8_refusalAtPlaces l g a1 a2 a3 a4 ha1 ha2 ha3 ha4 M _ _ hw) (cwV 4 hts (gd_V wm_X8_140 wi_X8_refusalAtPlaces wl_X8_refusalAtPlaces wn_X8 wc_X8_refusalAtPlaces) rfl rfl rfl wd_X8_refusalAtPlaces ⟨Nat.le_of_ble_eq_true rfl, Nat.le_of_ble_eq_true rfl⟩) (by omega) (by omega) obX_0 rfl rfl hl.1 rfl (Nat.le_of_ble_eq_true rfl) dX8_load_6 ⟨Nat.zero_le _, Nat.zero_le _⟩ (fun r6_0 M6_0 H locs hr6_0 hw I => ?_)
  refine lv_istore (lv' := [(5, .int (i32 r6_0)), (0, .ref (g.2.2.2 0)), (1, .int (i32 a1)), (2, .int (i32 a2)), (3, .int (i32 a3)), (4, .int (i32 a4))]) hx hb dX8_load_9 hl (by decide) rfl (fun ls hl => ?_)
  refine lv_iload hx hb dX8_load_11 (lv_at hl 0 rfl) ?_
  refine li_if_eq (tgt := 19) hx hb dX8_load_13 (by decide) hr6_0 (fun c_2 => ?_) (fun c_2 => ?_)
  · replace hw := hw.1 c_2
    refine lv_aload_n hx hb dX8_load_19 rfl (lv_at hl 1 rfl) ?_
    refine lv_iload_n hx hb dX8_load_20 rfl (lv_at hl 2 rfl) ?_
    refine lv_iload_n hx hb dX8_load_21 rfl (lv_at hl 3 rfl) ?_
    refine g_callVv (o := 0) (As := [.int (i32 a1), .int (i32 a2)]) (rest := []) ⟨hx, hb, hml, hown, hts⟩ I (mX8_makePlan l g a1 a2 ha1 ha2 M6_0 _ _ hw) (cwV 2 hts (gd_V wm_X8_144 wi_X8_makePlan wl_X8_makePlan wn_X8 wc_X8_makePlan) rfl rfl rfl wd_X8_makePlan ⟨Nat.le_of_ble_eq_true rfl, Nat.le_of_ble_eq_true rfl⟩) (by omega) (by omega) obX_0 rfl rfl hl.1 rfl (Nat.le_of_ble_eq_true rfl) dX8_load_22 ⟨Nat.zero_le _, Nat.zero_le _⟩ (fun M22_2 H locs hw I => ?_)
    refine lv_aload_n hx hb dX8_load_25 rfl (lv_at hl 1 rfl) ?_
    refine xg_0_5 hx hb hts wu_X8 hown I wf_X8_47 dX8_load_26 ?_
    refine lv_aload_n hx hb dX8_load_29 rfl (lv_at hl 1 rfl) ?_
    refine xg_0_0 hx hb hts wu_X8 hown I wf_X8_12 dX8_load_30 ?_
    refine lv_iload_n hx hb dX8_load_33 rfl (lv_at hl 4 rfl) ?_
    refine lv_iload hx hb dX8_load_34 (lv_at hl 5 rfl) ?_
    refine g_callVi (o := 6) (As := [.ref (g.2.2.2 1), .int (i32 a3), .int (i32 a4)]) (rest := []) ⟨hx, hb, hml, hown, hts⟩ I (mX6_carried l g a3 a4 ha3 ha4 M22_2 _ _ hw) (cwV 3 hts (gd_V wm_X8_159 wi_X6_carried wl_X6_carried wn_X6 wc_X6_carried) rfl rfl rfl wd_X6_carried ⟨Nat.le_of_ble_eq_true rfl, Nat.le_of_ble_eq_true rfl⟩) (by omega) (by omega) obX_6 rfl rfl hl.1 rfl (Nat.le_of_ble_eq_true rfl) dX8_load_36 ⟨Nat.zero_le _, Nat.zero_le _⟩ (fun r36_3 M36_3 H locs hr36_3 hw I => ?_)
    exact g_iret hx hb hr hlk I hr36_3 hw dX8_load_39
  · replace hw := hw.2 c_2
    refine lv_iload hx hb dX8_load_16 (lv_at hl 0 rfl) ?_
    exact g_iret hx hb hr hlk I hr6_0 hw dX8_load_18
abbrev rmX8_makeReach : Room := { frames := 4, cells := 0, slots := 0, locals := 98 }
abbrev wtX8_makeReach : List Cond := Cond.code yX8_makeReach cX8_makeReach 3 none :: lw_g
set_option maxRecDepth 100000 in
set_option maxHeartbeats 4000000 in
theorem bX8_makeReach_17 {p : Program} {l : Launch} {e : Env} {s : State} {m : MethodId} {args : Array Value} {below : List Frame} {meth : Method} {c : Code} {g : GP} (C : Cx p m c cX8_makeReach 3 s args lw_g RX8 meth none) (post : Mem → Prop) : ∀ (x1 x2 : Int), inR x1 → inR x2 → ∀ (M : Mem) (H : Heap) (locs : List Loc) (ls : Array Slot), jbX8_makeReach_17 post x1 x2 M → IX g s M H locs → lv_has ls 3 [(0, .ref (g.2.2.2 0)), (1, .int (i32 x1)), (2, .int (i32 x2))] → W p l e rmX8_makeReach s m args below meth c H locs 0 0 (QVX below args s g post) (F0 m 17 ls []) := by
  obtain ⟨⟨hx, hb, hml, hown, hts⟩, hr, hlk⟩ := id C
  intro x1 x2 h1 h2 M H locs ls hw I hl
  refine lv_aload_n hx hb dX8_makeReach_17 rfl (lv_at hl 0 rfl) ?_
  refine xg_0_6 hx hb hts wu_X8 hown I wf_X8_54 dX8_makeReach_18 ?_
  refine lv_aload_n hx hb dX8_makeReach_21 rfl (lv_at hl 0 rfl) ?_
  refine xg_0_0 hx hb hts wu_X8 hown I wf_X8_12 dX8_makeReach_22 ?_
  refine lv_aload_n hx hb dX8_makeReach_25 rfl (lv_at hl 0 rfl) ?_
  refine xg_0_1 hx hb hts wu_X8 hown I wf_X8_19 dX8_makeReach_26 ?_
  refine xg_2_1 hx hb hts wu_X2 hown I wf_X8_100 dX8_makeReach_29 ?_
  refine lv_iload_n hx hb dX8_makeReach_32 rfl (lv_at hl 1 rfl) ?_
  obtain ⟨h_1, hw⟩ := hw
  refine x_aald_12 hx hb I h_1 dX8_makeReach_33 ?_
  refine lv_aload_n hx hb dX8_makeReach_34 rfl (lv_at hl 0 rfl) ?_
  refine xg_0_1 hx hb hts wu_X8 hown I wf_X8_19 dX8_makeReach_35 ?_
  refine xg_2_1 hx hb hts wu_X2 hown I wf_X8_100 dX8_makeReach_38 ?_
  refine lv_iload_n hx hb dX8_makeReach_41 rfl (lv_at hl 2 rfl) ?_
  obtain ⟨h_2, hw⟩ := hw
  refine x_aald_12 hx hb I h_2 dX8_makeReach_42 ?_
  refine lv_aload_n hx hb dX8_makeReach_43 rfl (lv_at hl 0 rfl) ?_
  refine xg_0_1 hx hb hts wu_X8 hown I wf_X8_19 dX8_makeReach_44 ?_
  refine lv_iload_n hx hb dX8_makeReach_47 rfl (lv_at hl 1 rfl) ?_
  refine g_callVi (o := 2) (As := [.int (i32 x1)]) (rest := [.ref (g.2.2.2 (80 + x2)), .ref (g.2.2.2 (80 + x1)), .ref (g.2.2.2 1), .ref (g.2.2.2 7)]) ⟨hx, hb, hml, hown, hts⟩ I (mX2_total l g x1 h1 M _ _ hw) (cwV 1 hts (gd_V wm_X8_130 wi_X2_total wl_X2_total wn_X2 wc_X2_total) rfl rfl rfl wd_X2_total ⟨Nat.le_of_ble_eq_true rfl, Nat.le_of_ble_eq_true rfl⟩) (by omega) (by omega) obX_2 rfl rfl hl.1 rfl (Nat.le_of_ble_eq_true rfl) dX8_makeReach_48 ⟨Nat.zero_le _, Nat.zero_le _⟩ (fun r48_2 M48_2 H locs hr48_2 hw I => ?_)
  refine g_callVv (o := 7) (As := [.ref (g.2.2.2 1), .ref (g.2.2.2 (80 + x1)), .ref (g.2.2.2 (80 + x2)), .int (i32 r48_2)]) (rest := []) ⟨hx, hb, hml, hown, hts⟩ I (mX7_make l g (80 + x1) (80 + x2) r48_2 hr48_2 M48_2 _ _ hw) (cwV 4 hts (gd_V wm_X8_216 wi_X7_make wl_X7_make wn_X7 wc_X7_make) rfl rfl rfl wd_X7_make ⟨Nat.le_of_ble_eq_true rfl, Nat.le_of_ble_eq_true rfl⟩) (by omega) (by omega) obX_7 rfl rfl hl.1 rfl (Nat.le_of_ble_eq_true rfl) dX8_makeReach_51 ⟨Nat.zero_le _, Nat.zero_le _⟩ (fun M51_3 H locs hw I => ?_)
  refine lv_aload_n hx hb dX8_makeReach_54 rfl (lv_at hl 0 rfl) ?_
  refine lv_iload_n hx hb dX8_makeReach_55 rfl (lv_at hl 1 rfl) ?_
  refine xp_0_9 hx hb hts wu_X8 hown I wf_X8_65 h1 dX8_makeReach_56 (fun H locs M56_4 eM56_4 I => ?_)
  replace hw := hw M56_4 eM56_4
  refine lv_aload_n hx hb dX8_makeReach_59 rfl (lv_at hl 0 rfl) ?_
  refine lv_iload_n hx hb dX8_makeReach_60 rfl (lv_at hl 2 rfl) ?_
  refine xp_0_10 hx hb hts wu_X8 hown I wf_X8_68 h2 dX8_makeReach_61 (fun H locs M61_5 eM61_5 I => ?_)
  replace hw := hw M61_5 eM61_5
  exact g_vret hx hb hr hlk I hw dX8_makeReach_64
set_option maxRecDepth 100000 in
set_option maxHeartbeats 4000000 in
theorem mX8_makeReach (l : Launch) (g : GP) (a1 a2 : Int) (ha1 : inR a1) (ha2 : inR a2) (M : Mem) (post : Mem → Prop) (sz : Nat) (hw : wpX8_makeReach a1 a2 M post) : MVX l yX8_makeReach wtX8_makeReach rmX8_makeReach g [.ref (g.2.2.2 0), .int (i32 a1), .int (i32 a2)] M sz post := by
  refine Met.ofW (cc := cX8_makeReach) (maxL := 3) (ret := none) (by decide) rfl ?_
  intro p e s m args below meth c s₁ B hml hv
  obtain ⟨rfl, hpre⟩ := hv
  have hsz := hpre.1
  subst hsz
  have C : Cx p m c cX8_makeReach 3 s _ lw_g RX8 meth none := ⟨⟨B.exec, B.bytes, hml, findClass_of_methodNamed B.named, fun w h => atoms_spec (ws := wtX8_makeReach) B.pre w (List.mem_cons_of_mem _ h)⟩, B.returns, B.notSynchronized⟩
  obtain ⟨⟨hx, hb, hml, hown, hts⟩, hr, hlk⟩ := id C
  have I := InG.start hpre
  have hl := lv_entry ([.ref (g.2.2.2 0), .int (i32 a1), .int (i32 a2)]) (n := 3) (Nat.le_of_ble_eq_true rfl)
  rw [lg_entry_eq]
  generalize (lg_sl ([.ref (g.2.2.2 0), .int (i32 a1), .int (i32 a2)]) ++ List.replicate (3 - (lg_sl ([.ref (g.2.2.2 0), .int (i32 a1), .int (i32 a2)])).length) Slot.unset).toArray = ls at hl ⊢
  have hl : lv_has ls 3 [(0, .ref (g.2.2.2 0)), (1, .int (i32 a1)), (2, .int (i32 a2))] := hl
  show W p l e rmX8_makeReach s m _ below meth c s.heap [] 0 0 (QVX below _ s g post) _
  refine lv_aload_n hx hb dX8_makeReach_0 rfl (lv_at hl 0 rfl) ?_
  refine xg_0_9 hx hb hts wu_X8 hown I wf_X8_65 dX8_makeReach_1 ?_
  have h_1 := I.rng 0 9
  refine lv_iload_n hx hb dX8_makeReach_4 rfl (lv_at hl 1 rfl) ?_
  refine li_icmp_ne (tgt := 17) hx hb dX8_makeReach_5 (by decide) h_1 ha1 (fun c_2 => ?_) (fun c_2 => ?_)
  · replace hw := hw.1 c_2
    exact bX8_makeReach_17 C post a1 a2 ha1 ha2 _ _ _ _ hw I (lv_sub hl [0, 1, 2] rfl)
  · replace hw := hw.2 c_2
    refine lv_aload_n hx hb dX8_makeReach_8 rfl (lv_at hl 0 rfl) ?_
    refine xg_0_10 hx hb hts wu_X8 hown I wf_X8_68 dX8_makeReach_9 ?_
    have h_3 := I.rng 0 10
    refine lv_iload_n hx hb dX8_makeReach_12 rfl (lv_at hl 2 rfl) ?_
    refine li_icmp_ne (tgt := 17) hx hb dX8_makeReach_13 (by decide) h_3 ha2 (fun c_4 => ?_) (fun c_4 => ?_)
    · replace hw := hw.1 c_4
      exact bX8_makeReach_17 C post a1 a2 ha1 ha2 _ _ _ _ hw I (lv_sub hl [0, 1, 2] rfl)
    · replace hw := hw.2 c_4
      exact g_vret hx hb hr hlk I hw dX8_makeReach_16
abbrev rmX8_far : Room := { frames := 5, cells := 0, slots := 0, locals := 120 }
abbrev wtX8_far : List Cond := Cond.code yX8_far cX8_far 4 (some .int) :: lw_g
set_option maxRecDepth 100000 in
set_option maxHeartbeats 4000000 in
theorem mX8_far (l : Launch) (g : GP) (a1 a2 : Int) (ha1 : inR a1) (ha2 : inR a2) (M : Mem) (post : Int → Mem → Prop) (sz : Nat) (hw : wpX8_far a1 a2 M post) : MIX l yX8_far wtX8_far rmX8_far g [.ref (g.2.2.2 0), .int (i32 a1), .int (i32 a2)] M sz post := by
  refine Met.ofW (cc := cX8_far) (maxL := 4) (ret := (some .int)) (by decide) rfl ?_
  intro p e s m args below meth c s₁ B hml hv
  obtain ⟨rfl, hpre⟩ := hv
  have hsz := hpre.1
  subst hsz
  have C : Cx p m c cX8_far 4 s _ lw_g RX8 meth (some .int) := ⟨⟨B.exec, B.bytes, hml, findClass_of_methodNamed B.named, fun w h => atoms_spec (ws := wtX8_far) B.pre w (List.mem_cons_of_mem _ h)⟩, B.returns, B.notSynchronized⟩
  obtain ⟨⟨hx, hb, hml, hown, hts⟩, hr, hlk⟩ := id C
  have I := InG.start hpre
  have hl := lv_entry ([.ref (g.2.2.2 0), .int (i32 a1), .int (i32 a2)]) (n := 4) (Nat.le_of_ble_eq_true rfl)
  rw [lg_entry_eq]
  generalize (lg_sl ([.ref (g.2.2.2 0), .int (i32 a1), .int (i32 a2)]) ++ List.replicate (4 - (lg_sl ([.ref (g.2.2.2 0), .int (i32 a1), .int (i32 a2)])).length) Slot.unset).toArray = ls at hl ⊢
  have hl : lv_has ls 4 [(0, .ref (g.2.2.2 0)), (1, .int (i32 a1)), (2, .int (i32 a2))] := hl
  show W p l e rmX8_far s m _ below meth c s.heap [] 0 0 (QIX below _ s g post) _
  refine lv_aload_n hx hb dX8_far_0 rfl (lv_at hl 0 rfl) ?_
  refine lv_iload_n hx hb dX8_far_1 rfl (lv_at hl 1 rfl) ?_
  refine lv_iload_n hx hb dX8_far_2 rfl (lv_at hl 2 rfl) ?_
  refine g_callVi (o := 0) (As := [.int (i32 a1), .int (i32 a2)]) (rest := []) ⟨hx, hb, hml, hown, hts⟩ I (mX8_refusalOfMoving l g a1 a2 ha1 ha2 M _ _ hw) (cwV 2 hts (gd_V wm_X8_134 wi_X8_refusalOfMoving wl_X8_refusalOfMoving wn_X8 wc_X8_refusalOfMoving) rfl rfl rfl wd_X8_refusalOfMoving ⟨Nat.le_of_ble_eq_true rfl, Nat.le_of_ble_eq_true rfl⟩) (by omega) (by omega) obX_0 rfl rfl hl.1 rfl (Nat.le_of_ble_eq_true rfl) dX8_far_3 ⟨Nat.zero_le _, Nat.zero_le _⟩ (fun r3_0 M3_0 H locs hr3_0 hw I => ?_)
  refine lv_istore_n (lv' := [(3, .int (i32 r3_0)), (0, .ref (g.2.2.2 0)), (1, .int (i32 a1)), (2, .int (i32 a2))]) hx hb dX8_far_6 rfl hl (by decide) rfl (fun ls hl => ?_)
  refine lv_iload_n hx hb dX8_far_7 rfl (lv_at hl 0 rfl) ?_
  refine li_if_eq (tgt := 13) hx hb dX8_far_8 (by decide) hr3_0 (fun c_2 => ?_) (fun c_2 => ?_)
  · replace hw := hw.1 c_2
    refine lv_aload_n hx hb dX8_far_13 rfl (lv_at hl 1 rfl) ?_
    refine lv_iload_n hx hb dX8_far_14 rfl (lv_at hl 2 rfl) ?_
    refine lv_iload_n hx hb dX8_far_15 rfl (lv_at hl 3 rfl) ?_
    refine g_callVv (o := 0) (As := [.int (i32 a1), .int (i32 a2)]) (rest := []) ⟨hx, hb, hml, hown, hts⟩ I (mX8_makeReach l g a1 a2 ha1 ha2 M3_0 _ _ hw) (cwV 2 hts (gd_V wm_X8_163 wi_X8_makeReach wl_X8_makeReach wn_X8 wc_X8_makeReach) rfl rfl rfl wd_X8_makeReach ⟨Nat.le_of_ble_eq_true rfl, Nat.le_of_ble_eq_true rfl⟩) (by omega) (by omega) obX_0 rfl rfl hl.1 rfl (Nat.le_of_ble_eq_true rfl) dX8_far_16 ⟨Nat.zero_le _, Nat.zero_le _⟩ (fun M16_2 H locs hw I => ?_)
    refine lv_aload_n hx hb dX8_far_19 rfl (lv_at hl 1 rfl) ?_
    refine xg_0_6 hx hb hts wu_X8 hown I wf_X8_54 dX8_far_20 ?_
    refine xg_7_0 hx hb hts wu_X7 hown I wf_X8_166 dX8_far_23 ?_
    have h_4 := I.rng 7 0
    exact g_iret hx hb hr hlk I h_4 hw dX8_far_26
  · replace hw := hw.2 c_2
    refine lv_iload_n hx hb dX8_far_11 rfl (lv_at hl 0 rfl) ?_
    exact g_iret hx hb hr hlk I hr3_0 hw dX8_far_12
abbrev rmX8_shown : Room := { frames := 5, cells := 0, slots := 0, locals := 120 }
abbrev wtX8_shown : List Cond := Cond.code yX8_shown cX8_shown 5 (some .int) :: lw_g
set_option maxRecDepth 100000 in
set_option maxHeartbeats 4000000 in
theorem mX8_shown (l : Launch) (g : GP) (a1 a2 a3 : Int) (ha1 : inR a1) (ha2 : inR a2) (ha3 : inR a3) (M : Mem) (post : Int → Mem → Prop) (sz : Nat) (hw : wpX8_shown a1 a2 a3 M post) : MIX l yX8_shown wtX8_shown rmX8_shown g [.ref (g.2.2.2 0), .int (i32 a1), .int (i32 a2), .int (i32 a3)] M sz post := by
  refine Met.ofW (cc := cX8_shown) (maxL := 5) (ret := (some .int)) (by decide) rfl ?_
  intro p e s m args below meth c s₁ B hml hv
  obtain ⟨rfl, hpre⟩ := hv
  have hsz := hpre.1
  subst hsz
  have C : Cx p m c cX8_shown 5 s _ lw_g RX8 meth (some .int) := ⟨⟨B.exec, B.bytes, hml, findClass_of_methodNamed B.named, fun w h => atoms_spec (ws := wtX8_shown) B.pre w (List.mem_cons_of_mem _ h)⟩, B.returns, B.notSynchronized⟩
  obtain ⟨⟨hx, hb, hml, hown, hts⟩, hr, hlk⟩ := id C
  have I := InG.start hpre
  have hl := lv_entry ([.ref (g.2.2.2 0), .int (i32 a1), .int (i32 a2), .int (i32 a3)]) (n := 5) (Nat.le_of_ble_eq_true rfl)
  rw [lg_entry_eq]
  generalize (lg_sl ([.ref (g.2.2.2 0), .int (i32 a1), .int (i32 a2), .int (i32 a3)]) ++ List.replicate (5 - (lg_sl ([.ref (g.2.2.2 0), .int (i32 a1), .int (i32 a2), .int (i32 a3)])).length) Slot.unset).toArray = ls at hl ⊢
  have hl : lv_has ls 5 [(0, .ref (g.2.2.2 0)), (1, .int (i32 a1)), (2, .int (i32 a2)), (3, .int (i32 a3))] := hl
  show W p l e rmX8_shown s m _ below meth c s.heap [] 0 0 (QIX below _ s g post) _
  refine lv_aload_n hx hb dX8_shown_0 rfl (lv_at hl 0 rfl) ?_
  refine lv_iload_n hx hb dX8_shown_1 rfl (lv_at hl 1 rfl) ?_
  refine lv_iload_n hx hb dX8_shown_2 rfl (lv_at hl 2 rfl) ?_
  refine lv_iload_n hx hb dX8_shown_3 rfl (lv_at hl 3 rfl) ?_
  refine lv_iload_n hx hb dX8_shown_4 rfl (lv_at hl 3 rfl) ?_
  refine g_callVi (o := 0) (As := [.int (i32 a1), .int (i32 a2), .int (i32 a3), .int (i32 a3)]) (rest := []) ⟨hx, hb, hml, hown, hts⟩ I (mX8_refusalAtPlaces l g a1 a2 a3 a3 ha1 ha2 ha3 ha3 M _ _ hw) (cwV 4 hts (gd_V wm_X8_140 wi_X8_refusalAtPlaces wl_X8_refusalAtPlaces wn_X8 wc_X8_refusalAtPlaces) rfl rfl rfl wd_X8_refusalAtPlaces ⟨Nat.le_of_ble_eq_true rfl, Nat.le_of_ble_eq_true rfl⟩) (by omega) (by omega) obX_0 rfl rfl hl.1 rfl (Nat.le_of_ble_eq_true rfl) dX8_shown_5 ⟨Nat.zero_le _, Nat.zero_le _⟩ (fun r5_0 M5_0 H locs hr5_0 hw I => ?_)
  refine lv_istore (lv' := [(4, .int (i32 r5_0)), (0, .ref (g.2.2.2 0)), (1, .int (i32 a1)), (2, .int (i32 a2)), (3, .int (i32 a3))]) hx hb dX8_shown_8 hl (by decide) rfl (fun ls hl => ?_)
  refine lv_iload hx hb dX8_shown_10 (lv_at hl 0 rfl) ?_
  refine li_if_eq (tgt := 18) hx hb dX8_shown_12 (by decide) hr5_0 (fun c_2 => ?_) (fun c_2 => ?_)
  · replace hw := hw.1 c_2
    refine lv_aload_n hx hb dX8_shown_18 rfl (lv_at hl 1 rfl) ?_
    refine lv_iload_n hx hb dX8_shown_19 rfl (lv_at hl 2 rfl) ?_
    refine lv_iload_n hx hb dX8_shown_20 rfl (lv_at hl 3 rfl) ?_
    refine g_callVv (o := 0) (As := [.int (i32 a1), .int (i32 a2)]) (rest := []) ⟨hx, hb, hml, hown, hts⟩ I (mX8_makeReach l g a1 a2 ha1 ha2 M5_0 _ _ hw) (cwV 2 hts (gd_V wm_X8_163 wi_X8_makeReach wl_X8_makeReach wn_X8 wc_X8_makeReach) rfl rfl rfl wd_X8_makeReach ⟨Nat.le_of_ble_eq_true rfl, Nat.le_of_ble_eq_true rfl⟩) (by omega) (by omega) obX_0 rfl rfl hl.1 rfl (Nat.le_of_ble_eq_true rfl) dX8_shown_21 ⟨Nat.zero_le _, Nat.zero_le _⟩ (fun M21_2 H locs hw I => ?_)
    refine lv_aload_n hx hb dX8_shown_24 rfl (lv_at hl 1 rfl) ?_
    refine xg_0_6 hx hb hts wu_X8 hown I wf_X8_54 dX8_shown_25 ?_
    refine xg_7_1 hx hb hts wu_X7 hown I wf_X8_169 dX8_shown_28 ?_
    refine lv_iload_n hx hb dX8_shown_31 rfl (lv_at hl 4 rfl) ?_
    obtain ⟨h_4, hw⟩ := hw
    refine x_iald hx hb I 27 lenX_27 h_4 dX8_shown_32 ?_
    have h_5 := I.rng 27 a3
    exact g_iret hx hb hr hlk I h_5 hw dX8_shown_33
  · replace hw := hw.2 c_2
    refine lv_iload hx hb dX8_shown_15 (lv_at hl 0 rfl) ?_
    exact g_iret hx hb hr hlk I hr5_0 hw dX8_shown_17
abbrev rmX8_some : Room := { frames := 4, cells := 0, slots := 0, locals := 99 }
abbrev wtX8_some : List Cond := Cond.code yX8_some cX8_some 4 (some .int) :: lw_g
set_option maxRecDepth 100000 in
set_option maxHeartbeats 4000000 in
theorem bX8_some_22 {p : Program} {l : Launch} {e : Env} {s : State} {m : MethodId} {args : Array Value} {below : List Frame} {meth : Method} {c : Code} {g : GP} (C : Cx p m c cX8_some 4 s args lw_g RX8 meth (some .int)) (post : Int → Mem → Prop) : ∀ (M : Mem) (H : Heap) (locs : List Loc) (ls : Array Slot), jbX8_some_22 post  M → IX g s M H locs → lv_has ls 4 [(0, .ref (g.2.2.2 0))] → W p l e rmX8_some s m args below meth c H locs 0 0 (QIX below args s g post) (F0 m 22 ls []) := by
  obtain ⟨⟨hx, hb, hml, hown, hts⟩, hr, hlk⟩ := id C
  intro M H locs ls hw I hl
  refine lv_bipush (v := i32 (-2)) hx hb dX8_some_22 (by decide) ?_
  exact g_iret hx hb hr hlk I (by decide) hw dX8_some_24
set_option maxRecDepth 100000 in
set_option maxHeartbeats 4000000 in
theorem bX8_some_52 {p : Program} {l : Launch} {e : Env} {s : State} {m : MethodId} {args : Array Value} {below : List Frame} {meth : Method} {c : Code} {g : GP} (C : Cx p m c cX8_some 4 s args lw_g RX8 meth (some .int)) (post : Int → Mem → Prop) : ∀ (M : Mem) (H : Heap) (locs : List Loc) (ls : Array Slot), jbX8_some_52 post  M → IX g s M H locs → lv_has ls 4 [(0, .ref (g.2.2.2 0))] → W p l e rmX8_some s m args below meth c H locs 0 0 (QIX below args s g post) (F0 m 52 ls []) := by
  obtain ⟨⟨hx, hb, hml, hown, hts⟩, hr, hlk⟩ := id C
  intro M H locs ls hw I hl
  refine lv_bipush (v := i32 (-3)) hx hb dX8_some_52 (by decide) ?_
  exact g_iret hx hb hr hlk I (by decide) hw dX8_some_54
set_option maxRecDepth 100000 in
set_option maxHeartbeats 4000000 in
theorem mX8_some (l : Launch) (g : GP) (a1 a2 a3 : Int) (ha1 : inR a1) (ha2 : inR a2) (ha3 : inR a3) (M : Mem) (post : Int → Mem → Prop) (sz : Nat) (hw : wpX8_some a1 a2 a3 M post) : MIX l yX8_some wtX8_some rmX8_some g [.ref (g.2.2.2 0), .int (i32 a1), .int (i32 a2), .int (i32 a3)] M sz post := by
  refine Met.ofW (cc := cX8_some) (maxL := 4) (ret := (some .int)) (by decide) rfl ?_
  intro p e s m args below meth c s₁ B hml hv
  obtain ⟨rfl, hpre⟩ := hv
  have hsz := hpre.1
  subst hsz
  have C : Cx p m c cX8_some 4 s _ lw_g RX8 meth (some .int) := ⟨⟨B.exec, B.bytes, hml, findClass_of_methodNamed B.named, fun w h => atoms_spec (ws := wtX8_some) B.pre w (List.mem_cons_of_mem _ h)⟩, B.returns, B.notSynchronized⟩
  obtain ⟨⟨hx, hb, hml, hown, hts⟩, hr, hlk⟩ := id C
  have I := InG.start hpre
  have hl := lv_entry ([.ref (g.2.2.2 0), .int (i32 a1), .int (i32 a2), .int (i32 a3)]) (n := 4) (Nat.le_of_ble_eq_true rfl)
  rw [lg_entry_eq]
  generalize (lg_sl ([.ref (g.2.2.2 0), .int (i32 a1), .int (i32 a2), .int (i32 a3)]) ++ List.replicate (4 - (lg_sl ([.ref (g.2.2.2 0), .int (i32 a1), .int (i32 a2), .int (i32 a3)])).length) Slot.unset).toArray = ls at hl ⊢
  have hl : lv_has ls 4 [(0, .ref (g.2.2.2 0)), (1, .int (i32 a1)), (2, .int (i32 a2)), (3, .int (i32 a3))] := hl
  show W p l e rmX8_some s m _ below meth c s.heap [] 0 0 (QIX below _ s g post) _
  refine lv_aload_n hx hb dX8_some_0 rfl (lv_at hl 0 rfl) ?_
  refine xg_0_1 hx hb hts wu_X8 hown I wf_X8_19 dX8_some_1 ?_
  refine lv_iload_n hx hb dX8_some_4 rfl (lv_at hl 1 rfl) ?_
  refine g_callVi (o := 2) (As := [.int (i32 a1)]) (rest := []) ⟨hx, hb, hml, hown, hts⟩ I (mX2_has l g a1 ha1 M _ _ hw) (cwV 1 hts (gd_V wm_X8_99 wi_X2_has wl_X2_has wn_X2 wc_X2_has) rfl rfl rfl wd_X2_has ⟨Nat.le_of_ble_eq_true rfl, Nat.le_of_ble_eq_true rfl⟩) (by omega) (by omega) obX_2 rfl rfl hl.1 rfl (Nat.le_of_ble_eq_true rfl) dX8_some_5 ⟨Nat.zero_le _, Nat.zero_le _⟩ (fun r5_0 M5_0 H locs hr5_0 hw I => ?_)
  refine li_if_eq (tgt := 22) hx hb dX8_some_8 (by decide) hr5_0 (fun c_2 => ?_) (fun c_2 => ?_)
  · replace hw := hw.1 c_2
    exact bX8_some_22 C post _ _ _ _ hw I (lv_sub hl [0] rfl)
  · replace hw := hw.2 c_2
    refine lv_aload_n hx hb dX8_some_11 rfl (lv_at hl 0 rfl) ?_
    refine xg_0_1 hx hb hts wu_X8 hown I wf_X8_19 dX8_some_12 ?_
    refine lv_iload_n hx hb dX8_some_15 rfl (lv_at hl 2 rfl) ?_
    refine g_callVi (o := 2) (As := [.int (i32 a2)]) (rest := []) ⟨hx, hb, hml, hown, hts⟩ I (mX2_has l g a2 ha2 M5_0 _ _ hw) (cwV 1 hts (gd_V wm_X8_99 wi_X2_has wl_X2_has wn_X2 wc_X2_has) rfl rfl rfl wd_X2_has ⟨Nat.le_of_ble_eq_true rfl, Nat.le_of_ble_eq_true rfl⟩) (by omega) (by omega) obX_2 rfl rfl hl.1 rfl (Nat.le_of_ble_eq_true rfl) dX8_some_16 ⟨Nat.zero_le _, Nat.zero_le _⟩ (fun r16_2 M16_2 H locs hr16_2 hw I => ?_)
    refine li_if_ne (tgt := 25) hx hb dX8_some_19 (by decide) hr16_2 (fun c_4 => ?_) (fun c_4 => ?_)
    · replace hw := hw.1 c_4
      refine lv_iload_n hx hb dX8_some_25 rfl (lv_at hl 3 rfl) ?_
      refine li_if_lt (tgt := 52) hx hb dX8_some_26 (by decide) ha3 (fun c_5 => ?_) (fun c_5 => ?_)
      · replace hw := hw.1 c_5
        exact bX8_some_52 C post _ _ _ _ hw I (lv_sub hl [0] rfl)
      · replace hw := hw.2 c_5
        refine lv_iload_n hx hb dX8_some_29 rfl (lv_at hl 3 rfl) ?_
        refine lv_aload_n hx hb dX8_some_30 rfl (lv_at hl 0 rfl) ?_
        refine xg_0_1 hx hb hts wu_X8 hown I wf_X8_19 dX8_some_31 ?_
        refine lv_iload_n hx hb dX8_some_34 rfl (lv_at hl 1 rfl) ?_
        refine g_callVi (o := 2) (As := [.int (i32 a1)]) (rest := [.int (i32 a3)]) ⟨hx, hb, hml, hown, hts⟩ I (mX2_total l g a1 ha1 M16_2 _ _ hw) (cwV 1 hts (gd_V wm_X8_130 wi_X2_total wl_X2_total wn_X2 wc_X2_total) rfl rfl rfl wd_X2_total ⟨Nat.le_of_ble_eq_true rfl, Nat.le_of_ble_eq_true rfl⟩) (by omega) (by omega) obX_2 rfl rfl hl.1 rfl (Nat.le_of_ble_eq_true rfl) dX8_some_35 ⟨Nat.zero_le _, Nat.zero_le _⟩ (fun r35_5 M35_5 H locs hr35_5 hw I => ?_)
        refine lv_aload_n hx hb dX8_some_38 rfl (lv_at hl 0 rfl) ?_
        refine xg_0_1 hx hb hts wu_X8 hown I wf_X8_19 dX8_some_39 ?_
        refine lv_iload_n hx hb dX8_some_42 rfl (lv_at hl 2 rfl) ?_
        refine g_callVi (o := 2) (As := [.int (i32 a2)]) (rest := [.int (i32 r35_5), .int (i32 a3)]) ⟨hx, hb, hml, hown, hts⟩ I (mX2_total l g a2 ha2 M35_5 _ _ hw) (cwV 1 hts (gd_V wm_X8_130 wi_X2_total wl_X2_total wn_X2 wc_X2_total) rfl rfl rfl wd_X2_total ⟨Nat.le_of_ble_eq_true rfl, Nat.le_of_ble_eq_true rfl⟩) (by omega) (by omega) obX_2 rfl rfl hl.1 rfl (Nat.le_of_ble_eq_true rfl) dX8_some_43 ⟨Nat.zero_le _, Nat.zero_le _⟩ (fun r43_6 M43_6 H locs hr43_6 hw I => ?_)
        refine g_mmin hx hb (hml.trans hl.1.symm) hts hown wm_X8_172 wa_min wn_J9 wc_min (Nat.le_of_ble_eq_true rfl) (Nat.le_of_ble_eq_true rfl) (Nat.zero_le _) (Nat.zero_le _) hr35_5 hr43_6 dX8_some_46 ?_
        refine li_icmp_le (tgt := 55) hx hb dX8_some_49 (by decide) ha3 (inR_min hr35_5 hr43_6) (fun c_8 => ?_) (fun c_8 => ?_)
        · replace hw := hw.1 c_8
          refine lv_aload_n hx hb dX8_some_55 rfl (lv_at hl 0 rfl) ?_
          refine xg_0_0 hx hb hts wu_X8 hown I wf_X8_12 dX8_some_56 ?_
          refine g_callVi (o := 1) (As := []) (rest := []) ⟨hx, hb, hml, hown, hts⟩ I (mX3_isJoined l g M43_6 _ _ hw) (cwV 0 hts (gd_V wm_X8_177 wi_X3_isJoined wl_X3_isJoined wn_X3 wc_X3_isJoined) rfl rfl rfl wd_X3_isJoined ⟨Nat.le_of_ble_eq_true rfl, Nat.le_of_ble_eq_true rfl⟩) (by omega) (by omega) obX_1 rfl rfl hl.1 rfl (Nat.le_of_ble_eq_true rfl) dX8_some_59 ⟨Nat.zero_le _, Nat.zero_le _⟩ (fun r59_8 M59_8 H locs hr59_8 hw I => ?_)
          refine li_if_ne (tgt := 68) hx hb dX8_some_62 (by decide) hr59_8 (fun c_10 => ?_) (fun c_10 => ?_)
          · replace hw := hw.1 c_10
            refine lv_aload_n hx hb dX8_some_68 rfl (lv_at hl 0 rfl) ?_
            refine xg_0_4 hx hb hts wu_X8 hown I wf_X8_40 dX8_some_69 ?_
            refine lv_aload_n hx hb dX8_some_72 rfl (lv_at hl 0 rfl) ?_
            refine xg_0_0 hx hb hts wu_X8 hown I wf_X8_12 dX8_some_73 ?_
            refine lv_aload_n hx hb dX8_some_76 rfl (lv_at hl 0 rfl) ?_
            refine xg_0_1 hx hb hts wu_X8 hown I wf_X8_19 dX8_some_77 ?_
            refine xg_2_1 hx hb hts wu_X2 hown I wf_X8_100 dX8_some_80 ?_
            refine lv_iload_n hx hb dX8_some_83 rfl (lv_at hl 1 rfl) ?_
            obtain ⟨h_11, hw⟩ := hw
            refine x_aald_12 hx hb I h_11 dX8_some_84 ?_
            refine lv_aload_n hx hb dX8_some_85 rfl (lv_at hl 0 rfl) ?_
            refine xg_0_1 hx hb hts wu_X8 hown I wf_X8_19 dX8_some_86 ?_
            refine xg_2_1 hx hb hts wu_X2 hown I wf_X8_100 dX8_some_89 ?_
            refine lv_iload_n hx hb dX8_some_92 rfl (lv_at hl 2 rfl) ?_
            obtain ⟨h_12, hw⟩ := hw
            refine x_aald_12 hx hb I h_12 dX8_some_93 ?_
            refine lv_iload_n hx hb dX8_some_94 rfl (lv_at hl 3 rfl) ?_
            refine g_callVi (o := 5) (As := [.ref (g.2.2.2 1), .ref (g.2.2.2 (80 + a1)), .ref (g.2.2.2 (80 + a2)), .int (i32 a3)]) (rest := []) ⟨hx, hb, hml, hown, hts⟩ I (mX4_cheapest l g (80 + a1) (80 + a2) a3 ha3 M59_8 _ _ hw) (cwV 4 hts (gd_V wm_X8_181 wi_X4_cheapest wl_X4_cheapest wn_X4 wc_X4_cheapest) rfl rfl rfl wd_X4_cheapest ⟨Nat.le_of_ble_eq_true rfl, Nat.le_of_ble_eq_true rfl⟩) (by omega) (by omega) obX_5 rfl rfl hl.1 rfl (Nat.le_of_ble_eq_true rfl) dX8_some_95 ⟨Nat.zero_le _, Nat.zero_le _⟩ (fun r95_12 M95_12 H locs hr95_12 hw I => ?_)
            exact g_iret hx hb hr hlk I hr95_12 hw dX8_some_98
          · replace hw := hw.2 c_10
            refine lv_bipush (v := i32 (-4)) hx hb dX8_some_65 (by decide) ?_
            exact g_iret hx hb hr hlk I (by decide) hw dX8_some_67
        · replace hw := hw.2 c_8
          exact bX8_some_52 C post _ _ _ _ hw I (lv_sub hl [0] rfl)
    · replace hw := hw.2 c_4
      exact bX8_some_22 C post _ _ _ _ hw I (lv_sub hl [0] rfl)
