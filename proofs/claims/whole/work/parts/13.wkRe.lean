abbrev rmX9_far : Room := { frames := 3, cells := 0, slots := 0, locals := 80 }
abbrev wtX9_far : List Cond := Cond.code yX9_far cX9_far 4 (some .int) :: lw_g
set_option maxRecDepth 100000 in
set_option maxHeartbeats 4000000 in
theorem bX9_far_21 {p : Program} {l : Launch} {e : Env} {s : State} {m : MethodId} {args : Array Value} {below : List Frame} {meth : Method} {c : Code} {g : GP} (C : Cx p m c cX9_far 4 s args lw_g RX9 meth (some .int)) (post : Int → Mem → Prop) : ∀ (t0 : Int), inR t0 → ∀ (M : Mem) (H : Heap) (locs : List Loc) (ls : Array Slot), jbX9_far_21 post t0 M → IR g s M H locs → lv_has ls 4 [(0, .ref (g.2.2.2 0))] → W p l e rmX9_far s m args below meth c H locs 0 0 (QIR below args s g post) (F0 m 21 ls [.int (i32 t0)]) := by
  obtain ⟨⟨hx, hb, hml, hown, hts⟩, hr, hlk⟩ := id C
  intro t0 ht0 M H locs ls hw I hl
  exact g_iret hx hb hr hlk I ht0 hw dX9_far_21
set_option maxRecDepth 100000 in
set_option maxHeartbeats 4000000 in
theorem mX9_far (l : Launch) (g : GP) (a1 a2 : Int) (ha1 : inR a1) (ha2 : inR a2) (M : Mem) (post : Int → Mem → Prop) (sz : Nat) (hw : wpX9_far a1 a2 M post) : MIR l yX9_far wtX9_far rmX9_far g [.ref (g.2.2.2 0), .int (i32 a1), .int (i32 a2)] M sz post := by
  refine Met.ofW (cc := cX9_far) (maxL := 4) (ret := (some .int)) (by decide) rfl ?_
  intro p e s m args below meth c s₁ B hml hv
  obtain ⟨rfl, hpre⟩ := hv
  have hsz := hpre.1
  subst hsz
  have C : Cx p m c cX9_far 4 s _ lw_g RX9 meth (some .int) := ⟨⟨B.exec, B.bytes, hml, findClass_of_methodNamed B.named, fun w h => atoms_spec (ws := wtX9_far) B.pre w (List.mem_cons_of_mem _ h)⟩, B.returns, B.notSynchronized⟩
  obtain ⟨⟨hx, hb, hml, hown, hts⟩, hr, hlk⟩ := id C
  have I := InG.start hpre
  have hl := lv_entry ([.ref (g.2.2.2 0), .int (i32 a1), .int (i32 a2)]) (n := 4) (Nat.le_of_ble_eq_true rfl)
  rw [lg_entry_eq]
  generalize (lg_sl ([.ref (g.2.2.2 0), .int (i32 a1), .int (i32 a2)]) ++ List.replicate (4 - (lg_sl ([.ref (g.2.2.2 0), .int (i32 a1), .int (i32 a2)])).length) Slot.unset).toArray = ls at hl ⊢
  have hl : lv_has ls 4 [(0, .ref (g.2.2.2 0)), (1, .int (i32 a1)), (2, .int (i32 a2))] := hl
  show W p l e rmX9_far s m _ below meth c s.heap [] 0 0 (QIR below _ s g post) _
  refine lv_aload_n hx hb dX9_far_0 rfl (lv_at hl 0 rfl) ?_
  refine lv_iload_n hx hb dX9_far_1 rfl (lv_at hl 1 rfl) ?_
  refine lv_iload_n hx hb dX9_far_2 rfl (lv_at hl 2 rfl) ?_
  refine g_callVi (o := 0) (As := [.int (i32 a1), .int (i32 a2)]) (rest := []) ⟨hx, hb, hml, hown, hts⟩ I (mX9_against l g a1 a2 ha1 ha2 M _ _ hw) (cwV 2 hts (gd_V wm_X9_146 wi_X9_against wl_X9_against wn_X9 wc_X9_against) rfl rfl rfl wd_X9_against ⟨Nat.le_of_ble_eq_true rfl, Nat.le_of_ble_eq_true rfl⟩) (by omega) (by omega) obR_0 rfl rfl hl.1 rfl (Nat.le_of_ble_eq_true rfl) dX9_far_3 ⟨Nat.zero_le _, Nat.zero_le _⟩ (fun r3_0 M3_0 H locs hr3_0 hw I => ?_)
  refine lv_istore_n (lv' := [(3, .int (i32 r3_0)), (0, .ref (g.2.2.2 0)), (1, .int (i32 a1)), (2, .int (i32 a2))]) hx hb dX9_far_6 rfl hl (by decide) rfl (fun ls hl => ?_)
  refine lv_iload_n hx hb dX9_far_7 rfl (lv_at hl 0 rfl) ?_
  refine li_if_eq (tgt := 15) hx hb dX9_far_8 (by decide) hr3_0 (fun c_2 => ?_) (fun c_2 => ?_)
  · replace hw := hw.1 c_2
    refine lv_aload_n hx hb dX9_far_15 rfl (lv_at hl 1 rfl) ?_
    refine lv_iload_n hx hb dX9_far_16 rfl (lv_at hl 2 rfl) ?_
    refine lv_iload_n hx hb dX9_far_17 rfl (lv_at hl 3 rfl) ?_
    refine g_callVi (o := 0) (As := [.int (i32 a1), .int (i32 a2)]) (rest := []) ⟨hx, hb, hml, hown, hts⟩ I (mX9_findFarthest l g a1 a2 ha1 ha2 M3_0 _ _ hw) (cwV 2 hts (gd_V wm_X9_179 wi_X9_findFarthest wl_X9_findFarthest wn_X9 wc_X9_findFarthest) rfl rfl rfl wd_X9_findFarthest ⟨Nat.le_of_ble_eq_true rfl, Nat.le_of_ble_eq_true rfl⟩) (by omega) (by omega) obR_0 rfl rfl hl.1 rfl (Nat.le_of_ble_eq_true rfl) dX9_far_18 ⟨Nat.zero_le _, Nat.zero_le _⟩ (fun r18_2 M18_2 H locs hr18_2 hw I => ?_)
    exact bX9_far_21 C post r18_2 hr18_2 _ _ _ _ hw I (lv_sub hl [1] rfl)
  · replace hw := hw.2 c_2
    refine lv_iload_n hx hb dX9_far_11 rfl (lv_at hl 0 rfl) ?_
    refine lv_goto (tgt := 21) hx hb dX9_far_12 (by decide) ?_
    exact bX9_far_21 C post r3_0 hr3_0 _ _ _ _ hw I (lv_sub hl [1] rfl)
abbrev rmX9_shown : Room := { frames := 3, cells := 0, slots := 0, locals := 80 }
abbrev wtX9_shown : List Cond := Cond.code yX9_shown cX9_shown 7 (some .int) :: lw_g
set_option maxRecDepth 100000 in
set_option maxHeartbeats 4000000 in
theorem bX9_shown_24 {p : Program} {l : Launch} {e : Env} {s : State} {m : MethodId} {args : Array Value} {below : List Frame} {meth : Method} {c : Code} {g : GP} (C : Cx p m c cX9_shown 7 s args lw_g RX9 meth (some .int)) (post : Int → Mem → Prop) : ∀ (M : Mem) (H : Heap) (locs : List Loc) (ls : Array Slot), jbX9_shown_24 post  M → IR g s M H locs → lv_has ls 7 [(0, .ref (g.2.2.2 0))] → W p l e rmX9_shown s m args below meth c H locs 0 0 (QIR below args s g post) (F0 m 24 ls []) := by
  obtain ⟨⟨hx, hb, hml, hown, hts⟩, hr, hlk⟩ := id C
  intro M H locs ls hw I hl
  refine lv_bipush (v := i32 (-2)) hx hb dX9_shown_24 (by decide) ?_
  exact g_iret hx hb hr hlk I (by decide) hw dX9_shown_26
set_option maxRecDepth 100000 in
set_option maxHeartbeats 4000000 in
theorem bX9_shown_89 {p : Program} {l : Launch} {e : Env} {s : State} {m : MethodId} {args : Array Value} {below : List Frame} {meth : Method} {c : Code} {g : GP} (C : Cx p m c cX9_shown 7 s args lw_g RX9 meth (some .int)) (post : Int → Mem → Prop) : ∀ (t0 : Int), inR t0 → ∀ (M : Mem) (H : Heap) (locs : List Loc) (ls : Array Slot), jbX9_shown_89 post t0 M → IR g s M H locs → lv_has ls 7 [(0, .ref (g.2.2.2 0))] → W p l e rmX9_shown s m args below meth c H locs 0 0 (QIR below args s g post) (F0 m 89 ls [.int (i32 t0)]) := by
  obtain ⟨⟨hx, hb, hml, hown, hts⟩, hr, hlk⟩ := id C
  intro t0 ht0 M H locs ls hw I hl
  exact g_iret hx hb hr hlk I ht0 hw dX9_shown_89
set_option maxRecDepth 100000 in
set_option maxHeartbeats 4000000 in
theorem bX9_shown_88 {p : Program} {l : Launch} {e : Env} {s : State} {m : MethodId} {args : Array Value} {below : List Frame} {meth : Method} {c : Code} {g : GP} (C : Cx p m c cX9_shown 7 s args lw_g RX9 meth (some .int)) (post : Int → Mem → Prop) : ∀ (M : Mem) (H : Heap) (locs : List Loc) (ls : Array Slot), jbX9_shown_88 post  M → IR g s M H locs → lv_has ls 7 [(0, .ref (g.2.2.2 0))] → W p l e rmX9_shown s m args below meth c H locs 0 0 (QIR below args s g post) (F0 m 88 ls []) := by
  obtain ⟨⟨hx, hb, hml, hown, hts⟩, hr, hlk⟩ := id C
  intro M H locs ls hw I hl
  refine li_iconst hx hb dX9_shown_88 ?_
  exact bX9_shown_89 C post 0 (by decide) _ _ _ _ hw I (lv_sub hl [0] rfl)
set_option maxRecDepth 100000 in
set_option maxHeartbeats 4000000 in
theorem mX9_shown (l : Launch) (g : GP) (a1 a2 a3 : Int) (ha1 : inR a1) (ha2 : inR a2) (ha3 : inR a3) (M : Mem) (post : Int → Mem → Prop) (sz : Nat) (hw : wpX9_shown a1 a2 a3 M post) : MIR l yX9_shown wtX9_shown rmX9_shown g [.ref (g.2.2.2 0), .int (i32 a1), .int (i32 a2), .int (i32 a3)] M sz post := by
  refine Met.ofW (cc := cX9_shown) (maxL := 7) (ret := (some .int)) (by decide) rfl ?_
  intro p e s m args below meth c s₁ B hml hv
  obtain ⟨rfl, hpre⟩ := hv
  have hsz := hpre.1
  subst hsz
  have C : Cx p m c cX9_shown 7 s _ lw_g RX9 meth (some .int) := ⟨⟨B.exec, B.bytes, hml, findClass_of_methodNamed B.named, fun w h => atoms_spec (ws := wtX9_shown) B.pre w (List.mem_cons_of_mem _ h)⟩, B.returns, B.notSynchronized⟩
  obtain ⟨⟨hx, hb, hml, hown, hts⟩, hr, hlk⟩ := id C
  have I := InG.start hpre
  have hl := lv_entry ([.ref (g.2.2.2 0), .int (i32 a1), .int (i32 a2), .int (i32 a3)]) (n := 7) (Nat.le_of_ble_eq_true rfl)
  rw [lg_entry_eq]
  generalize (lg_sl ([.ref (g.2.2.2 0), .int (i32 a1), .int (i32 a2), .int (i32 a3)]) ++ List.replicate (7 - (lg_sl ([.ref (g.2.2.2 0), .int (i32 a1), .int (i32 a2), .int (i32 a3)])).length) Slot.unset).toArray = ls at hl ⊢
  have hl : lv_has ls 7 [(0, .ref (g.2.2.2 0)), (1, .int (i32 a1)), (2, .int (i32 a2)), (3, .int (i32 a3))] := hl
  show W p l e rmX9_shown s m _ below meth c s.heap [] 0 0 (QIR below _ s g post) _
  refine lv_aload_n hx hb dX9_shown_0 rfl (lv_at hl 0 rfl) ?_
  refine lv_iload_n hx hb dX9_shown_1 rfl (lv_at hl 1 rfl) ?_
  refine g_callVi (o := 0) (As := [.int (i32 a1)]) (rest := []) ⟨hx, hb, hml, hown, hts⟩ I (mX9_isHeap l g a1 ha1 M _ _ hw) (cwV 1 hts (gd_V wm_X9_111 wi_X9_isHeap wl_X9_isHeap wn_X9 wc_X9_isHeap) rfl rfl rfl wd_X9_isHeap ⟨Nat.le_of_ble_eq_true rfl, Nat.le_of_ble_eq_true rfl⟩) (by omega) (by omega) obR_0 rfl rfl hl.1 rfl (Nat.le_of_ble_eq_true rfl) dX9_shown_2 ⟨Nat.zero_le _, Nat.zero_le _⟩ (fun r2_0 M2_0 H locs hr2_0 hw I => ?_)
  refine li_if_eq (tgt := 24) hx hb dX9_shown_5 (by decide) hr2_0 (fun c_2 => ?_) (fun c_2 => ?_)
  · replace hw := hw.1 c_2
    exact bX9_shown_24 C post _ _ _ _ hw I (lv_sub hl [0] rfl)
  · replace hw := hw.2 c_2
    refine lv_aload_n hx hb dX9_shown_8 rfl (lv_at hl 0 rfl) ?_
    refine lv_iload_n hx hb dX9_shown_9 rfl (lv_at hl 2 rfl) ?_
    refine g_callVi (o := 0) (As := [.int (i32 a2)]) (rest := []) ⟨hx, hb, hml, hown, hts⟩ I (mX9_isHeap l g a2 ha2 M2_0 _ _ hw) (cwV 1 hts (gd_V wm_X9_111 wi_X9_isHeap wl_X9_isHeap wn_X9 wc_X9_isHeap) rfl rfl rfl wd_X9_isHeap ⟨Nat.le_of_ble_eq_true rfl, Nat.le_of_ble_eq_true rfl⟩) (by omega) (by omega) obR_0 rfl rfl hl.1 rfl (Nat.le_of_ble_eq_true rfl) dX9_shown_10 ⟨Nat.zero_le _, Nat.zero_le _⟩ (fun r10_2 M10_2 H locs hr10_2 hw I => ?_)
    refine li_if_eq (tgt := 24) hx hb dX9_shown_13 (by decide) hr10_2 (fun c_4 => ?_) (fun c_4 => ?_)
    · replace hw := hw.1 c_4
      exact bX9_shown_24 C post _ _ _ _ hw I (lv_sub hl [0] rfl)
    · replace hw := hw.2 c_4
      refine lv_aload_n hx hb dX9_shown_16 rfl (lv_at hl 0 rfl) ?_
      refine lv_iload_n hx hb dX9_shown_17 rfl (lv_at hl 3 rfl) ?_
      refine g_callVi (o := 0) (As := [.int (i32 a3)]) (rest := []) ⟨hx, hb, hml, hown, hts⟩ I (mX9_isPlace l g a3 ha3 M10_2 _ _ hw) (cwV 1 hts (gd_V wm_X9_104 wi_X9_isPlace wl_X9_isPlace wn_X9 wc_X9_isPlace) rfl rfl rfl wd_X9_isPlace ⟨Nat.le_of_ble_eq_true rfl, Nat.le_of_ble_eq_true rfl⟩) (by omega) (by omega) obR_0 rfl rfl hl.1 rfl (Nat.le_of_ble_eq_true rfl) dX9_shown_18 ⟨Nat.zero_le _, Nat.zero_le _⟩ (fun r18_4 M18_4 H locs hr18_4 hw I => ?_)
      refine li_if_ne (tgt := 27) hx hb dX9_shown_21 (by decide) hr18_4 (fun c_6 => ?_) (fun c_6 => ?_)
      · replace hw := hw.1 c_6
        refine lv_aload_n hx hb dX9_shown_27 rfl (lv_at hl 0 rfl) ?_
        refine lv_iload_n hx hb dX9_shown_28 rfl (lv_at hl 1 rfl) ?_
        refine lv_iload_n hx hb dX9_shown_29 rfl (lv_at hl 2 rfl) ?_
        refine g_callVi (o := 0) (As := [.int (i32 a1), .int (i32 a2)]) (rest := []) ⟨hx, hb, hml, hown, hts⟩ I (mX9_against l g a1 a2 ha1 ha2 M18_4 _ _ hw) (cwV 2 hts (gd_V wm_X9_146 wi_X9_against wl_X9_against wn_X9 wc_X9_against) rfl rfl rfl wd_X9_against ⟨Nat.le_of_ble_eq_true rfl, Nat.le_of_ble_eq_true rfl⟩) (by omega) (by omega) obR_0 rfl rfl hl.1 rfl (Nat.le_of_ble_eq_true rfl) dX9_shown_30 ⟨Nat.zero_le _, Nat.zero_le _⟩ (fun r30_6 M30_6 H locs hr30_6 hw I => ?_)
        refine lv_istore (lv' := [(4, .int (i32 r30_6)), (0, .ref (g.2.2.2 0)), (1, .int (i32 a1)), (2, .int (i32 a2)), (3, .int (i32 a3))]) hx hb dX9_shown_33 hl (by decide) rfl (fun ls hl => ?_)
        refine lv_iload hx hb dX9_shown_35 (lv_at hl 0 rfl) ?_
        refine li_if_eq (tgt := 43) hx hb dX9_shown_37 (by decide) hr30_6 (fun c_8 => ?_) (fun c_8 => ?_)
        · replace hw := hw.1 c_8
          refine lv_aload_n hx hb dX9_shown_43 rfl (lv_at hl 1 rfl) ?_
          refine lv_iload_n hx hb dX9_shown_44 rfl (lv_at hl 2 rfl) ?_
          refine lv_iload_n hx hb dX9_shown_45 rfl (lv_at hl 3 rfl) ?_
          refine g_callVi (o := 0) (As := [.int (i32 a1), .int (i32 a2)]) (rest := []) ⟨hx, hb, hml, hown, hts⟩ I (mX9_findFarthest l g a1 a2 ha1 ha2 M30_6 _ _ hw) (cwV 2 hts (gd_V wm_X9_179 wi_X9_findFarthest wl_X9_findFarthest wn_X9 wc_X9_findFarthest) rfl rfl rfl wd_X9_findFarthest ⟨Nat.le_of_ble_eq_true rfl, Nat.le_of_ble_eq_true rfl⟩) (by omega) (by omega) obR_0 rfl rfl hl.1 rfl (Nat.le_of_ble_eq_true rfl) dX9_shown_46 ⟨Nat.zero_le _, Nat.zero_le _⟩ (fun r46_8 M46_8 H locs hr46_8 hw I => ?_)
          refine lv_istore (lv' := [(5, .int (i32 r46_8)), (4, .int (i32 r30_6)), (0, .ref (g.2.2.2 0)), (1, .int (i32 a1)), (2, .int (i32 a2)), (3, .int (i32 a3))]) hx hb dX9_shown_49 hl (by decide) rfl (fun ls hl => ?_)
          refine lv_iload hx hb dX9_shown_51 (lv_at hl 0 rfl) ?_
          refine li_if_ne (tgt := 58) hx hb dX9_shown_53 (by decide) hr46_8 (fun c_10 => ?_) (fun c_10 => ?_)
          · replace hw := hw.1 c_10
            refine lv_aload_n hx hb dX9_shown_58 rfl (lv_at hl 2 rfl) ?_
            refine lv_iload_n hx hb dX9_shown_59 rfl (lv_at hl 3 rfl) ?_
            refine lv_iload_n hx hb dX9_shown_60 rfl (lv_at hl 4 rfl) ?_
            refine lv_iload hx hb dX9_shown_61 (lv_at hl 0 rfl) ?_
            refine li_iconst hx hb dX9_shown_63 ?_
            refine li_isub hx hb dX9_shown_64 ?_
            obtain ⟨h_11, hw⟩ := hw
            refine g_callVi (o := 0) (As := [.int (i32 a1), .int (i32 a2), .int (i32 (r46_8 - 1))]) (rest := []) ⟨hx, hb, hml, hown, hts⟩ I (mX9_fits l g a1 a2 (r46_8 - 1) ha1 ha2 h_11 M46_8 _ _ hw) (cwV 3 hts (gd_V wm_X9_176 wi_X9_fits wl_X9_fits wn_X9 wc_X9_fits) rfl rfl rfl wd_X9_fits ⟨Nat.le_of_ble_eq_true rfl, Nat.le_of_ble_eq_true rfl⟩) (by omega) (by omega) obR_0 rfl rfl hl.1 rfl (Nat.le_of_ble_eq_true rfl) dX9_shown_65 ⟨Nat.zero_le _, Nat.zero_le _⟩ (fun r65_11 M65_11 H locs hr65_11 hw I => ?_)
            refine lv_istore (lv' := [(6, .int (i32 r65_11)), (5, .int (i32 r46_8)), (4, .int (i32 r30_6)), (0, .ref (g.2.2.2 0)), (1, .int (i32 a1)), (2, .int (i32 a2)), (3, .int (i32 a3))]) hx hb dX9_shown_68 hl (by decide) rfl (fun ls hl => ?_)
            refine lv_iload hx hb dX9_shown_70 (lv_at hl 0 rfl) ?_
            refine li_if_ne (tgt := 88) hx hb dX9_shown_72 (by decide) hr65_11 (fun c_13 => ?_) (fun c_13 => ?_)
            · replace hw := hw.1 c_13
              exact bX9_shown_88 C post _ _ _ _ hw I (lv_sub hl [3] rfl)
            · replace hw := hw.2 c_13
              refine lv_aload_n hx hb dX9_shown_75 rfl (lv_at hl 3 rfl) ?_
              refine rg_0_22 hx hb hts wu_X9 hown I wf_X9_62 dX9_shown_76 ?_
              refine lv_iload_n hx hb dX9_shown_79 rfl (lv_at hl 6 rfl) ?_
              obtain ⟨h_14, hw⟩ := hw
              refine r_zald hx hb I 18 lenR_18 (by decide) h_14 dX9_shown_80 ?_
              have h_15 := I.rng 18 a3
              refine li_if_eq (tgt := 88) hx hb dX9_shown_81 (by decide) h_15 (fun c_16 => ?_) (fun c_16 => ?_)
              · replace hw := hw.1 c_16
                exact bX9_shown_88 C post _ _ _ _ hw I (lv_sub hl [3] rfl)
              · replace hw := hw.2 c_16
                refine li_iconst hx hb dX9_shown_84 ?_
                refine lv_goto (tgt := 89) hx hb dX9_shown_85 (by decide) ?_
                exact bX9_shown_89 C post 1 (by decide) _ _ _ _ hw I (lv_sub hl [3] rfl)
          · replace hw := hw.2 c_10
            refine li_iconst hx hb dX9_shown_56 ?_
            exact g_iret hx hb hr hlk I (by decide) hw dX9_shown_57
        · replace hw := hw.2 c_8
          refine lv_iload hx hb dX9_shown_40 (lv_at hl 0 rfl) ?_
          exact g_iret hx hb hr hlk I hr30_6 hw dX9_shown_42
      · replace hw := hw.2 c_6
        exact bX9_shown_24 C post _ _ _ _ hw I (lv_sub hl [0] rfl)
abbrev rmX9_some : Room := { frames := 2, cells := 0, slots := 0, locals := 50 }
abbrev wtX9_some : List Cond := Cond.code yX9_some cX9_some 6 (some .int) :: lw_g
set_option maxRecDepth 100000 in
set_option maxHeartbeats 4000000 in
theorem bX9_some_16 {p : Program} {l : Launch} {e : Env} {s : State} {m : MethodId} {args : Array Value} {below : List Frame} {meth : Method} {c : Code} {g : GP} (C : Cx p m c cX9_some 6 s args lw_g RX9 meth (some .int)) (post : Int → Mem → Prop) : ∀ (M : Mem) (H : Heap) (locs : List Loc) (ls : Array Slot), jbX9_some_16 post  M → IR g s M H locs → lv_has ls 6 [(0, .ref (g.2.2.2 0))] → W p l e rmX9_some s m args below meth c H locs 0 0 (QIR below args s g post) (F0 m 16 ls []) := by
  obtain ⟨⟨hx, hb, hml, hown, hts⟩, hr, hlk⟩ := id C
  intro M H locs ls hw I hl
  refine lv_bipush (v := i32 (-2)) hx hb dX9_some_16 (by decide) ?_
  exact g_iret hx hb hr hlk I (by decide) hw dX9_some_18
set_option maxRecDepth 100000 in
set_option maxHeartbeats 4000000 in
theorem bX9_some_77 {p : Program} {l : Launch} {e : Env} {s : State} {m : MethodId} {args : Array Value} {below : List Frame} {meth : Method} {c : Code} {g : GP} (C : Cx p m c cX9_some 6 s args lw_g RX9 meth (some .int)) (post : Int → Mem → Prop) : ∀ (t0 : Int), inR t0 → ∀ (M : Mem) (H : Heap) (locs : List Loc) (ls : Array Slot), jbX9_some_77 post t0 M → IR g s M H locs → lv_has ls 6 [(0, .ref (g.2.2.2 0))] → W p l e rmX9_some s m args below meth c H locs 0 0 (QIR below args s g post) (F0 m 77 ls [.int (i32 t0)]) := by
  obtain ⟨⟨hx, hb, hml, hown, hts⟩, hr, hlk⟩ := id C
  intro t0 ht0 M H locs ls hw I hl
  exact g_iret hx hb hr hlk I ht0 hw dX9_some_77
set_option maxRecDepth 100000 in
set_option maxHeartbeats 4000000 in
theorem bX9_some_49 {p : Program} {l : Launch} {e : Env} {s : State} {m : MethodId} {args : Array Value} {below : List Frame} {meth : Method} {c : Code} {g : GP} (C : Cx p m c cX9_some 6 s args lw_g RX9 meth (some .int)) (post : Int → Mem → Prop) : ∀ (x1 x2 x3 t0 t1 t2 : Int), inR x1 → inR x2 → inR x3 → inR t0 → inR t1 → inR t2 → ∀ (M : Mem) (H : Heap) (locs : List Loc) (ls : Array Slot), jbX9_some_49 post x1 x2 x3 t0 t1 t2 M → IR g s M H locs → lv_has ls 6 [(0, .ref (g.2.2.2 0)), (1, .int (i32 x1)), (2, .int (i32 x2)), (3, .int (i32 x3))] → W p l e rmX9_some s m args below meth c H locs 0 0 (QIR below args s g post) (F0 m 49 ls [.int (i32 t0), .int (i32 t1), .int (i32 t2)]) := by
  obtain ⟨⟨hx, hb, hml, hown, hts⟩, hr, hlk⟩ := id C
  intro x1 x2 x3 t0 t1 t2 h1 h2 h3 ht0 ht1 ht2 M H locs ls hw I hl
  refine g_callSi (As := [.int (i32 t2), .int (i32 t1), .int (i32 t0)]) (rest := []) ⟨hx, hb, hml, hown, hts⟩ I (mX9_in l g t2 t1 t0 ht2 ht1 ht0 M _ _ hw) (va_cwS 3 hts (gd_S wm_X9_90 wa_X9_in wn_X9 wc_X9_in) rfl rfl rfl wd_X9_in ⟨Nat.le_of_ble_eq_true rfl, Nat.le_of_ble_eq_true rfl⟩) rfl hl.1 rfl (Nat.le_of_ble_eq_true rfl) dX9_some_49 ⟨Nat.zero_le _, Nat.zero_le _⟩ (fun r49_0 M49_0 H locs hr49_0 hw I => ?_)
  refine li_if_ne (tgt := 58) hx hb dX9_some_52 (by decide) hr49_0 (fun c_2 => ?_) (fun c_2 => ?_)
  · replace hw := hw.1 c_2
    refine lv_aload_n hx hb dX9_some_58 rfl (lv_at hl 0 rfl) ?_
    refine g_callVi (o := 0) (As := []) (rest := []) ⟨hx, hb, hml, hown, hts⟩ I (mX9_isJoined l g M49_0 _ _ hw) (cwV 0 hts (gd_V wm_X9_142 wi_X9_isJoined wl_X9_isJoined wn_X9 wc_X9_isJoined) rfl rfl rfl wd_X9_isJoined ⟨Nat.le_of_ble_eq_true rfl, Nat.le_of_ble_eq_true rfl⟩) (by omega) (by omega) obR_0 rfl rfl hl.1 rfl (Nat.le_of_ble_eq_true rfl) dX9_some_59 ⟨Nat.zero_le _, Nat.zero_le _⟩ (fun r59_2 M59_2 H locs hr59_2 hw I => ?_)
    refine li_if_eq (tgt := 75) hx hb dX9_some_62 (by decide) hr59_2 (fun c_4 => ?_) (fun c_4 => ?_)
    · replace hw := hw.1 c_4
      refine lv_bipush (v := i32 (-4)) hx hb dX9_some_75 (by decide) ?_
      exact bX9_some_77 C post (-4) (by decide) _ _ _ _ hw I (lv_sub hl [0] rfl)
    · replace hw := hw.2 c_4
      refine lv_aload_n hx hb dX9_some_65 rfl (lv_at hl 0 rfl) ?_
      refine lv_iload_n hx hb dX9_some_66 rfl (lv_at hl 1 rfl) ?_
      refine lv_iload_n hx hb dX9_some_67 rfl (lv_at hl 2 rfl) ?_
      refine lv_iload_n hx hb dX9_some_68 rfl (lv_at hl 3 rfl) ?_
      refine g_callVi (o := 0) (As := [.int (i32 x1), .int (i32 x2), .int (i32 x3)]) (rest := []) ⟨hx, hb, hml, hown, hts⟩ I (mX9_solve l g x1 x2 x3 h1 h2 h3 M59_2 _ _ hw) (cwV 3 hts (gd_V wm_X9_149 wi_X9_solve wl_X9_solve wn_X9 wc_X9_solve) rfl rfl rfl wd_X9_solve ⟨Nat.le_of_ble_eq_true rfl, Nat.le_of_ble_eq_true rfl⟩) (by omega) (by omega) obR_0 rfl rfl hl.1 rfl (Nat.le_of_ble_eq_true rfl) dX9_some_69 ⟨Nat.zero_le _, Nat.zero_le _⟩ (fun r69_4 M69_4 H locs hr69_4 hw I => ?_)
      refine lv_goto (tgt := 77) hx hb dX9_some_72 (by decide) ?_
      exact bX9_some_77 C post r69_4 hr69_4 _ _ _ _ hw I (lv_sub hl [0] rfl)
  · replace hw := hw.2 c_2
    refine lv_bipush (v := i32 (-3)) hx hb dX9_some_55 (by decide) ?_
    exact g_iret hx hb hr hlk I (by decide) hw dX9_some_57
set_option maxRecDepth 100000 in
set_option maxHeartbeats 4000000 in
theorem mX9_some (l : Launch) (g : GP) (a1 a2 a3 : Int) (ha1 : inR a1) (ha2 : inR a2) (ha3 : inR a3) (M : Mem) (post : Int → Mem → Prop) (sz : Nat) (hw : wpX9_some a1 a2 a3 M post) : MIR l yX9_some wtX9_some rmX9_some g [.ref (g.2.2.2 0), .int (i32 a1), .int (i32 a2), .int (i32 a3)] M sz post := by
  refine Met.ofW (cc := cX9_some) (maxL := 6) (ret := (some .int)) (by decide) rfl ?_
  intro p e s m args below meth c s₁ B hml hv
  obtain ⟨rfl, hpre⟩ := hv
  have hsz := hpre.1
  subst hsz
  have C : Cx p m c cX9_some 6 s _ lw_g RX9 meth (some .int) := ⟨⟨B.exec, B.bytes, hml, findClass_of_methodNamed B.named, fun w h => atoms_spec (ws := wtX9_some) B.pre w (List.mem_cons_of_mem _ h)⟩, B.returns, B.notSynchronized⟩
  obtain ⟨⟨hx, hb, hml, hown, hts⟩, hr, hlk⟩ := id C
  have I := InG.start hpre
  have hl := lv_entry ([.ref (g.2.2.2 0), .int (i32 a1), .int (i32 a2), .int (i32 a3)]) (n := 6) (Nat.le_of_ble_eq_true rfl)
  rw [lg_entry_eq]
  generalize (lg_sl ([.ref (g.2.2.2 0), .int (i32 a1), .int (i32 a2), .int (i32 a3)]) ++ List.replicate (6 - (lg_sl ([.ref (g.2.2.2 0), .int (i32 a1), .int (i32 a2), .int (i32 a3)])).length) Slot.unset).toArray = ls at hl ⊢
  have hl : lv_has ls 6 [(0, .ref (g.2.2.2 0)), (1, .int (i32 a1)), (2, .int (i32 a2)), (3, .int (i32 a3))] := hl
  show W p l e rmX9_some s m _ below meth c s.heap [] 0 0 (QIR below _ s g post) _
  refine lv_aload_n hx hb dX9_some_0 rfl (lv_at hl 0 rfl) ?_
  refine lv_iload_n hx hb dX9_some_1 rfl (lv_at hl 1 rfl) ?_
  refine g_callVi (o := 0) (As := [.int (i32 a1)]) (rest := []) ⟨hx, hb, hml, hown, hts⟩ I (mX9_isHeap l g a1 ha1 M _ _ hw) (cwV 1 hts (gd_V wm_X9_111 wi_X9_isHeap wl_X9_isHeap wn_X9 wc_X9_isHeap) rfl rfl rfl wd_X9_isHeap ⟨Nat.le_of_ble_eq_true rfl, Nat.le_of_ble_eq_true rfl⟩) (by omega) (by omega) obR_0 rfl rfl hl.1 rfl (Nat.le_of_ble_eq_true rfl) dX9_some_2 ⟨Nat.zero_le _, Nat.zero_le _⟩ (fun r2_0 M2_0 H locs hr2_0 hw I => ?_)
  refine li_if_eq (tgt := 16) hx hb dX9_some_5 (by decide) hr2_0 (fun c_2 => ?_) (fun c_2 => ?_)
  · replace hw := hw.1 c_2
    exact bX9_some_16 C post _ _ _ _ hw I (lv_sub hl [0] rfl)
  · replace hw := hw.2 c_2
    refine lv_aload_n hx hb dX9_some_8 rfl (lv_at hl 0 rfl) ?_
    refine lv_iload_n hx hb dX9_some_9 rfl (lv_at hl 2 rfl) ?_
    refine g_callVi (o := 0) (As := [.int (i32 a2)]) (rest := []) ⟨hx, hb, hml, hown, hts⟩ I (mX9_isHeap l g a2 ha2 M2_0 _ _ hw) (cwV 1 hts (gd_V wm_X9_111 wi_X9_isHeap wl_X9_isHeap wn_X9 wc_X9_isHeap) rfl rfl rfl wd_X9_isHeap ⟨Nat.le_of_ble_eq_true rfl, Nat.le_of_ble_eq_true rfl⟩) (by omega) (by omega) obR_0 rfl rfl hl.1 rfl (Nat.le_of_ble_eq_true rfl) dX9_some_10 ⟨Nat.zero_le _, Nat.zero_le _⟩ (fun r10_2 M10_2 H locs hr10_2 hw I => ?_)
    refine li_if_ne (tgt := 19) hx hb dX9_some_13 (by decide) hr10_2 (fun c_4 => ?_) (fun c_4 => ?_)
    · replace hw := hw.1 c_4
      refine lv_aload_n hx hb dX9_some_19 rfl (lv_at hl 0 rfl) ?_
      refine lv_iload_n hx hb dX9_some_20 rfl (lv_at hl 1 rfl) ?_
      refine g_callVi (o := 0) (As := [.int (i32 a1)]) (rest := []) ⟨hx, hb, hml, hown, hts⟩ I (mX9_sumOf l g a1 ha1 M10_2 _ _ hw) (cwV 1 hts (gd_V wm_X9_123 wi_X9_sumOf wl_X9_sumOf wn_X9 wc_X9_sumOf) rfl rfl rfl wd_X9_sumOf ⟨Nat.le_of_ble_eq_true rfl, Nat.le_of_ble_eq_true rfl⟩) (by omega) (by omega) obR_0 rfl rfl hl.1 rfl (Nat.le_of_ble_eq_true rfl) dX9_some_21 ⟨Nat.zero_le _, Nat.zero_le _⟩ (fun r21_4 M21_4 H locs hr21_4 hw I => ?_)
      refine lv_istore (lv' := [(4, .int (i32 r21_4)), (0, .ref (g.2.2.2 0)), (1, .int (i32 a1)), (2, .int (i32 a2)), (3, .int (i32 a3))]) hx hb dX9_some_24 hl (by decide) rfl (fun ls hl => ?_)
      refine lv_aload_n hx hb dX9_some_26 rfl (lv_at hl 1 rfl) ?_
      refine lv_iload_n hx hb dX9_some_27 rfl (lv_at hl 3 rfl) ?_
      refine g_callVi (o := 0) (As := [.int (i32 a2)]) (rest := []) ⟨hx, hb, hml, hown, hts⟩ I (mX9_sumOf l g a2 ha2 M21_4 _ _ hw) (cwV 1 hts (gd_V wm_X9_123 wi_X9_sumOf wl_X9_sumOf wn_X9 wc_X9_sumOf) rfl rfl rfl wd_X9_sumOf ⟨Nat.le_of_ble_eq_true rfl, Nat.le_of_ble_eq_true rfl⟩) (by omega) (by omega) obR_0 rfl rfl hl.1 rfl (Nat.le_of_ble_eq_true rfl) dX9_some_28 ⟨Nat.zero_le _, Nat.zero_le _⟩ (fun r28_5 M28_5 H locs hr28_5 hw I => ?_)
      refine lv_istore (lv' := [(5, .int (i32 r28_5)), (4, .int (i32 r21_4)), (0, .ref (g.2.2.2 0)), (1, .int (i32 a1)), (2, .int (i32 a2)), (3, .int (i32 a3))]) hx hb dX9_some_31 hl (by decide) rfl (fun ls hl => ?_)
      refine lv_iload_n hx hb dX9_some_33 rfl (lv_at hl 5 rfl) ?_
      refine li_iconst hx hb dX9_some_34 ?_
      refine lv_iload hx hb dX9_some_35 (lv_at hl 1 rfl) ?_
      refine lv_iload hx hb dX9_some_37 (lv_at hl 0 rfl) ?_
      refine li_icmp_ge (tgt := 47) hx hb dX9_some_39 (by decide) hr21_4 hr28_5 (fun c_7 => ?_) (fun c_7 => ?_)
      · replace hw := hw.1 c_7
        refine lv_iload hx hb dX9_some_47 (lv_at hl 0 rfl) ?_
        exact bX9_some_49 C post a1 a2 a3 r28_5 0 a3 ha1 ha2 ha3 hr28_5 (by decide) ha3 _ _ _ _ hw I (lv_sub hl [2, 3, 4, 5] rfl)
      · replace hw := hw.2 c_7
        refine lv_iload hx hb dX9_some_42 (lv_at hl 1 rfl) ?_
        refine lv_goto (tgt := 49) hx hb dX9_some_44 (by decide) ?_
        exact bX9_some_49 C post a1 a2 a3 r21_4 0 a3 ha1 ha2 ha3 hr21_4 (by decide) ha3 _ _ _ _ hw I (lv_sub hl [2, 3, 4, 5] rfl)
    · replace hw := hw.2 c_4
      exact bX9_some_16 C post _ _ _ _ hw I (lv_sub hl [0] rfl)
abbrev rmX9_arc : Room := { frames := 0, cells := 0, slots := 0, locals := 0 }
abbrev wtX9_arc : List Cond := Cond.code yX9_arc cX9_arc 5 none :: lw_g
set_option maxRecDepth 100000 in
set_option maxHeartbeats 4000000 in
theorem mX9_arc (l : Launch) (g : GP) (a1 a2 a3 a4 : Int) (ha1 : inR a1) (ha2 : inR a2) (ha3 : inR a3) (ha4 : inR a4) (M : Mem) (post : Mem → Prop) (sz : Nat) (hw : wpX9_arc a1 a2 a3 a4 M post) : MVR l yX9_arc wtX9_arc rmX9_arc g [.ref (g.2.2.2 0), .int (i32 a1), .int (i32 a2), .int (i32 a3), .int (i32 a4)] M sz post := by
  refine Met.ofW (cc := cX9_arc) (maxL := 5) (ret := none) (by decide) rfl ?_
  intro p e s m args below meth c s₁ B hml hv
  obtain ⟨rfl, hpre⟩ := hv
  have hsz := hpre.1
  subst hsz
  have C : Cx p m c cX9_arc 5 s _ lw_g RX9 meth none := ⟨⟨B.exec, B.bytes, hml, findClass_of_methodNamed B.named, fun w h => atoms_spec (ws := wtX9_arc) B.pre w (List.mem_cons_of_mem _ h)⟩, B.returns, B.notSynchronized⟩
  obtain ⟨⟨hx, hb, hml, hown, hts⟩, hr, hlk⟩ := id C
  have I := InG.start hpre
  have hl := lv_entry ([.ref (g.2.2.2 0), .int (i32 a1), .int (i32 a2), .int (i32 a3), .int (i32 a4)]) (n := 5) (Nat.le_of_ble_eq_true rfl)
  rw [lg_entry_eq]
  generalize (lg_sl ([.ref (g.2.2.2 0), .int (i32 a1), .int (i32 a2), .int (i32 a3), .int (i32 a4)]) ++ List.replicate (5 - (lg_sl ([.ref (g.2.2.2 0), .int (i32 a1), .int (i32 a2), .int (i32 a3), .int (i32 a4)])).length) Slot.unset).toArray = ls at hl ⊢
  have hl : lv_has ls 5 [(0, .ref (g.2.2.2 0)), (1, .int (i32 a1)), (2, .int (i32 a2)), (3, .int (i32 a3)), (4, .int (i32 a4))] := hl
  show W p l e rmX9_arc s m _ below meth c s.heap [] 0 0 (QVR below _ s g post) _
  refine lv_aload_n hx hb dX9_arc_0 rfl (lv_at hl 0 rfl) ?_
  refine rg_0_25 hx hb hts wu_X9 hown I wf_X9_68 dX9_arc_1 ?_
  refine lv_aload_n hx hb dX9_arc_4 rfl (lv_at hl 0 rfl) ?_
  refine rg_0_24 hx hb hts wu_X9 hown I wf_X9_182 dX9_arc_5 ?_
  have h_1 := I.rng 0 24
  refine lv_iload_n hx hb dX9_arc_8 rfl (lv_at hl 1 rfl) ?_
  obtain ⟨h_2, hw⟩ := hw
  refine r_iast hx hb I 20 lenR_20 (by decide) h_2 ha1 dX9_arc_9 (fun H locs M9_2 eM9_2 I => ?_)
  replace hw := hw M9_2 eM9_2
  refine lv_aload_n hx hb dX9_arc_10 rfl (lv_at hl 0 rfl) ?_
  refine rg_0_26 hx hb hts wu_X9 hown I wf_X9_71 dX9_arc_11 ?_
  refine lv_aload_n hx hb dX9_arc_14 rfl (lv_at hl 0 rfl) ?_
  refine rg_0_24 hx hb hts wu_X9 hown I wf_X9_182 dX9_arc_15 ?_
  have h_4 := I.rng 0 24
  refine lv_iload_n hx hb dX9_arc_18 rfl (lv_at hl 2 rfl) ?_
  obtain ⟨h_5, hw⟩ := hw
  refine r_iast hx hb I 21 lenR_21 (by decide) h_5 ha2 dX9_arc_19 (fun H locs M19_5 eM19_5 I => ?_)
  replace hw := hw M19_5 eM19_5
  refine lv_aload_n hx hb dX9_arc_20 rfl (lv_at hl 0 rfl) ?_
  refine rg_0_27 hx hb hts wu_X9 hown I wf_X9_74 dX9_arc_21 ?_
  refine lv_aload_n hx hb dX9_arc_24 rfl (lv_at hl 0 rfl) ?_
  refine rg_0_24 hx hb hts wu_X9 hown I wf_X9_182 dX9_arc_25 ?_
  have h_7 := I.rng 0 24
  refine lv_iload_n hx hb dX9_arc_28 rfl (lv_at hl 3 rfl) ?_
  obtain ⟨h_8, hw⟩ := hw
  refine r_iast hx hb I 22 lenR_22 (by decide) h_8 ha3 dX9_arc_29 (fun H locs M29_8 eM29_8 I => ?_)
  replace hw := hw M29_8 eM29_8
  refine lv_aload_n hx hb dX9_arc_30 rfl (lv_at hl 0 rfl) ?_
  refine rg_0_28 hx hb hts wu_X9 hown I wf_X9_77 dX9_arc_31 ?_
  refine lv_aload_n hx hb dX9_arc_34 rfl (lv_at hl 0 rfl) ?_
  refine rg_0_24 hx hb hts wu_X9 hown I wf_X9_182 dX9_arc_35 ?_
  have h_10 := I.rng 0 24
  refine lv_iload hx hb dX9_arc_38 (lv_at hl 4 rfl) ?_
  obtain ⟨h_11, hw⟩ := hw
  refine r_iast hx hb I 23 lenR_23 (by decide) h_11 ha4 dX9_arc_40 (fun H locs M40_11 eM40_11 I => ?_)
  replace hw := hw M40_11 eM40_11
  refine lv_aload_n hx hb dX9_arc_41 rfl (lv_at hl 0 rfl) ?_
  refine rg_0_25 hx hb hts wu_X9 hown I wf_X9_68 dX9_arc_42 ?_
  refine lv_aload_n hx hb dX9_arc_45 rfl (lv_at hl 0 rfl) ?_
  refine rg_0_24 hx hb hts wu_X9 hown I wf_X9_182 dX9_arc_46 ?_
  have h_13 := I.rng 0 24
  refine li_iconst hx hb dX9_arc_49 ?_
  refine li_iadd hx hb dX9_arc_50 ?_
  refine lv_iload_n hx hb dX9_arc_51 rfl (lv_at hl 2 rfl) ?_
  obtain ⟨h_14, hw⟩ := hw
  refine r_iast hx hb I 20 lenR_20 (by decide) h_14 ha2 dX9_arc_52 (fun H locs M52_14 eM52_14 I => ?_)
  replace hw := hw M52_14 eM52_14
  refine lv_aload_n hx hb dX9_arc_53 rfl (lv_at hl 0 rfl) ?_
  refine rg_0_26 hx hb hts wu_X9 hown I wf_X9_71 dX9_arc_54 ?_
  refine lv_aload_n hx hb dX9_arc_57 rfl (lv_at hl 0 rfl) ?_
  refine rg_0_24 hx hb hts wu_X9 hown I wf_X9_182 dX9_arc_58 ?_
  have h_16 := I.rng 0 24
  refine li_iconst hx hb dX9_arc_61 ?_
  refine li_iadd hx hb dX9_arc_62 ?_
  refine lv_iload_n hx hb dX9_arc_63 rfl (lv_at hl 1 rfl) ?_
  obtain ⟨h_17, hw⟩ := hw
  refine r_iast hx hb I 21 lenR_21 (by decide) h_17 ha1 dX9_arc_64 (fun H locs M64_17 eM64_17 I => ?_)
  replace hw := hw M64_17 eM64_17
  refine lv_aload_n hx hb dX9_arc_65 rfl (lv_at hl 0 rfl) ?_
  refine rg_0_27 hx hb hts wu_X9 hown I wf_X9_74 dX9_arc_66 ?_
  refine lv_aload_n hx hb dX9_arc_69 rfl (lv_at hl 0 rfl) ?_
  refine rg_0_24 hx hb hts wu_X9 hown I wf_X9_182 dX9_arc_70 ?_
  have h_19 := I.rng 0 24
  refine li_iconst hx hb dX9_arc_73 ?_
  refine li_iadd hx hb dX9_arc_74 ?_
  refine li_iconst hx hb dX9_arc_75 ?_
  obtain ⟨h_20, hw⟩ := hw
  refine r_iast hx hb I 22 lenR_22 (by decide) h_20 (by decide) dX9_arc_76 (fun H locs M76_20 eM76_20 I => ?_)
  replace hw := hw M76_20 eM76_20
  refine lv_aload_n hx hb dX9_arc_77 rfl (lv_at hl 0 rfl) ?_
  refine rg_0_28 hx hb hts wu_X9 hown I wf_X9_77 dX9_arc_78 ?_
  refine lv_aload_n hx hb dX9_arc_81 rfl (lv_at hl 0 rfl) ?_
  refine rg_0_24 hx hb hts wu_X9 hown I wf_X9_182 dX9_arc_82 ?_
  have h_22 := I.rng 0 24
  refine li_iconst hx hb dX9_arc_85 ?_
  refine li_iadd hx hb dX9_arc_86 ?_
  refine lv_iload hx hb dX9_arc_87 (lv_at hl 4 rfl) ?_
  refine li_ineg hx hb dX9_arc_89 ?_
  obtain ⟨h_23, hw⟩ := hw
  obtain ⟨h_24, hw⟩ := hw
  refine r_iast hx hb I 23 lenR_23 (by decide) h_23 h_24 dX9_arc_90 (fun H locs M90_24 eM90_24 I => ?_)
  replace hw := hw M90_24 eM90_24
  refine lv_aload_n hx hb dX9_arc_91 rfl (lv_at hl 0 rfl) ?_
  refine lv_dup hx hb dX9_arc_92 rfl ?_
  refine rg_0_24 hx hb hts wu_X9 hown I wf_X9_182 dX9_arc_93 ?_
  have h_26 := I.rng 0 24
  refine li_iconst hx hb dX9_arc_96 ?_
  refine li_iadd hx hb dX9_arc_97 ?_
  obtain ⟨h_27, hw⟩ := hw
  refine rp_0_24 hx hb hts wu_X9 hown I wf_X9_182 h_27 dX9_arc_98 (fun H locs M98_27 eM98_27 I => ?_)
  replace hw := hw M98_27 eM98_27
  exact g_vret hx hb hr hlk I hw dX9_arc_101
abbrev rmX9_hasNetWay : Room := { frames := 0, cells := 0, slots := 0, locals := 0 }
abbrev wtX9_hasNetWay : List Cond := Cond.code yX9_hasNetWay cX9_hasNetWay 4 (some .boolean) :: lw_g
set_option maxRecDepth 100000 in
set_option maxHeartbeats 4000000 in
theorem bX9_hasNetWay_165 {p : Program} {l : Launch} {e : Env} {s : State} {m : MethodId} {args : Array Value} {below : List Frame} {meth : Method} {c : Code} {g : GP} (C : Cx p m c cX9_hasNetWay 4 s args lw_g RX9 meth (some .boolean)) (post : Int → Mem → Prop) : ∀ (t0 : Int), inR t0 → ∀ (M : Mem) (H : Heap) (locs : List Loc) (ls : Array Slot), jbX9_hasNetWay_165 post t0 M → IR g s M H locs → lv_has ls 4 [(0, .ref (g.2.2.2 0))] → W p l e rmX9_hasNetWay s m args below meth c H locs 0 0 (QIR below args s g post) (F0 m 165 ls [.int (i32 t0)]) := by
  obtain ⟨⟨hx, hb, hml, hown, hts⟩, hr, hlk⟩ := id C
  intro t0 ht0 M H locs ls hw I hl
  obtain ⟨h_1, hw⟩ := hw
  exact g_zret hx hb hr hlk I h_1 hw dX9_hasNetWay_165
set_option maxRecDepth 100000 in
set_option maxHeartbeats 4000000 in
theorem bX9_hasNetWay_139 {p : Program} {l : Launch} {e : Env} {s : State} {m : MethodId} {args : Array Value} {below : List Frame} {meth : Method} {c : Code} {g : GP} (C : Cx p m c cX9_hasNetWay 4 s args lw_g RX9 meth (some .boolean)) (post : Int → Mem → Prop) (k41 : Int → Mem → Prop) (k49 : Int → Int → Mem → Prop) (hk41 : ∀ (x1 : Int), inR x1 → ∀ (M : Mem) (H : Heap) (locs : List Loc) (ls : Array Slot), k41 x1 M → IR g s M H locs → lv_has ls 4 [(0, .ref (g.2.2.2 0)), (1, .int (i32 x1))] → W p l e rmX9_hasNetWay s m args below meth c H locs 0 0 (QIR below args s g post) (F0 m 41 ls [])) (hk49 : ∀ (x1 x2 : Int), inR x1 → inR x2 → ∀ (M : Mem) (H : Heap) (locs : List Loc) (ls : Array Slot), k49 x1 x2 M → IR g s M H locs → lv_has ls 4 [(0, .ref (g.2.2.2 0)), (1, .int (i32 x1)), (2, .int (i32 x2))] → W p l e rmX9_hasNetWay s m args below meth c H locs 0 0 (QIR below args s g post) (F0 m 49 ls [])) : ∀ (x1 x2 : Int), inR x1 → inR x2 → ∀ (M : Mem) (H : Heap) (locs : List Loc) (ls : Array Slot), jbX9_hasNetWay_139 post k41 k49 x1 x2 M → IR g s M H locs → lv_has ls 4 [(0, .ref (g.2.2.2 0)), (1, .int (i32 x1)), (2, .int (i32 x2))] → W p l e rmX9_hasNetWay s m args below meth c H locs 0 0 (QIR below args s g post) (F0 m 139 ls []) := by
  obtain ⟨⟨hx, hb, hml, hown, hts⟩, hr, hlk⟩ := id C
  intro x1 x2 h1 h2 M H locs ls hw I hl
  refine li_iinc (lv' := [(2, .int (i32 (x2 + 1))), (0, .ref (g.2.2.2 0)), (1, .int (i32 x1))]) hx hb dX9_hasNetWay_139 hl (k := 2) rfl (by decide) rfl (fun ls hl => ?_)
  refine lv_goto (tgt := 49) hx hb dX9_hasNetWay_142 (by decide) ?_
  obtain ⟨h_1, hw⟩ := hw
  exact hk49 x1 (x2 + 1) h1 h_1 _ _ _ _ hw I (lv_sub hl [1, 2, 0] rfl)
set_option maxRecDepth 100000 in
set_option maxHeartbeats 4000000 in
theorem bX9_hasNetWay_49 {p : Program} {l : Launch} {e : Env} {s : State} {m : MethodId} {args : Array Value} {below : List Frame} {meth : Method} {c : Code} {g : GP} (C : Cx p m c cX9_hasNetWay 4 s args lw_g RX9 meth (some .boolean)) (post : Int → Mem → Prop) (k41 : Int → Mem → Prop) (hk41 : ∀ (x1 : Int), inR x1 → ∀ (M : Mem) (H : Heap) (locs : List Loc) (ls : Array Slot), k41 x1 M → IR g s M H locs → lv_has ls 4 [(0, .ref (g.2.2.2 0)), (1, .int (i32 x1))] → W p l e rmX9_hasNetWay s m args below meth c H locs 0 0 (QIR below args s g post) (F0 m 41 ls [])) : ∀ (n : Nat), ∀ (x1 x2 : Int), inR x1 → inR x2 → ∀ (M : Mem) (H : Heap) (locs : List Loc) (ls : Array Slot), lpX9_hasNetWay_49 post k41 n x1 x2 M → IR g s M H locs → lv_has ls 4 [(0, .ref (g.2.2.2 0)), (1, .int (i32 x1)), (2, .int (i32 x2))] → W p l e rmX9_hasNetWay s m args below meth c H locs 0 0 (QIR below args s g post) (F0 m 49 ls []) := by
  obtain ⟨⟨hx, hb, hml, hown, hts⟩, hr, hlk⟩ := id C
  intro n
  induction n with
  | zero =>
    intro x1 x2 h1 h2 M H locs ls hw
    exact hw.elim
  | succ n ih =>
    intro x1 x2 h1 h2 M H locs ls hw I hl
    refine lv_iload_n hx hb dX9_hasNetWay_49 rfl (lv_at hl 2 rfl) ?_
    refine lv_aload_n hx hb dX9_hasNetWay_50 rfl (lv_at hl 0 rfl) ?_
    refine rg_0_24 hx hb hts wu_X9 hown I wf_X9_182 dX9_hasNetWay_51 ?_
    have h_1 := I.rng 0 24
    refine li_icmp_ge (tgt := 145) hx hb dX9_hasNetWay_54 (by decide) h2 h_1 (fun c_2 => ?_) (fun c_2 => ?_)
    · replace hw := hw.1 c_2
      refine lv_goto (tgt := 41) hx hb dX9_hasNetWay_145 (by decide) ?_
      exact hk41 x1 h1 _ _ _ _ hw I (lv_sub hl [0, 1] rfl)
    · replace hw := hw.2 c_2
      refine lv_aload_n hx hb dX9_hasNetWay_57 rfl (lv_at hl 0 rfl) ?_
      refine rg_0_29 hx hb hts wu_X9 hown I wf_X9_80 dX9_hasNetWay_58 ?_
      refine lv_aload_n hx hb dX9_hasNetWay_61 rfl (lv_at hl 0 rfl) ?_
      refine rg_0_25 hx hb hts wu_X9 hown I wf_X9_68 dX9_hasNetWay_62 ?_
      refine lv_iload_n hx hb dX9_hasNetWay_65 rfl (lv_at hl 2 rfl) ?_
      obtain ⟨h_3, hw⟩ := hw
      refine r_iald hx hb I 20 lenR_20 (by decide) h_3 dX9_hasNetWay_66 ?_
      have h_4 := I.rng 20 x2
      obtain ⟨h_5, hw⟩ := hw
      refine r_iald hx hb I 24 lenR_24 (by decide) h_5 dX9_hasNetWay_67 ?_
      have h_6 := I.rng 24 (M 20 x2)
      refine li_name (fun v68_6 ev68_6 => ?_)
      replace hw := hw v68_6 ev68_6
      have hv68_6 : inR v68_6 := ev68_6 ▸ h_6
      refine lv_istore_n (lv' := [(3, .int (i32 v68_6)), (0, .ref (g.2.2.2 0)), (1, .int (i32 x1)), (2, .int (i32 x2))]) hx hb dX9_hasNetWay_68 rfl hl (by decide) rfl (fun ls hl => ?_)
      refine lv_aload_n hx hb dX9_hasNetWay_69 rfl (lv_at hl 1 rfl) ?_
      refine rg_0_27 hx hb hts wu_X9 hown I wf_X9_74 dX9_hasNetWay_70 ?_
      refine lv_iload_n hx hb dX9_hasNetWay_73 rfl (lv_at hl 3 rfl) ?_
      obtain ⟨h_8, hw⟩ := hw
      refine r_iald hx hb I 22 lenR_22 (by decide) h_8 dX9_hasNetWay_74 ?_
      have h_9 := I.rng 22 x2
      refine li_if_le (tgt := 139) hx hb dX9_hasNetWay_75 (by decide) h_9 (fun c_10 => ?_) (fun c_10 => ?_)
      · replace hw := hw.1 c_10
        exact bX9_hasNetWay_139 C post k41 (fun y1 y2 N => lpX9_hasNetWay_49 post k41 n y1 y2 N) hk41 ih x1 x2 h1 h2 _ _ _ _ hw I (lv_sub hl [1, 2, 3] rfl)
      · replace hw := hw.2 c_10
        refine lv_iload_n hx hb dX9_hasNetWay_78 rfl (lv_at hl 0 rfl) ?_
        refine lv_ldc (v := i32 1000000000) hx hb hown (hts _ wk_X9_115) dX9_hasNetWay_79 ?_
        refine li_icmp_ge (tgt := 139) hx hb dX9_hasNetWay_81 (by decide) hv68_6 (by decide) (fun c_11 => ?_) (fun c_11 => ?_)
        · replace hw := hw.1 c_11
          exact bX9_hasNetWay_139 C post k41 (fun y1 y2 N => lpX9_hasNetWay_49 post k41 n y1 y2 N) hk41 ih x1 x2 h1 h2 _ _ _ _ hw I (lv_sub hl [1, 2, 3] rfl)
        · replace hw := hw.2 c_11
          refine lv_iload_n hx hb dX9_hasNetWay_84 rfl (lv_at hl 0 rfl) ?_
          refine lv_aload_n hx hb dX9_hasNetWay_85 rfl (lv_at hl 1 rfl) ?_
          refine rg_0_28 hx hb hts wu_X9 hown I wf_X9_77 dX9_hasNetWay_86 ?_
          refine lv_iload_n hx hb dX9_hasNetWay_89 rfl (lv_at hl 3 rfl) ?_
          obtain ⟨h_12, hw⟩ := hw
          refine r_iald hx hb I 23 lenR_23 (by decide) h_12 dX9_hasNetWay_90 ?_
          have h_13 := I.rng 23 x2
          refine li_iadd hx hb dX9_hasNetWay_91 ?_
          refine lv_aload_n hx hb dX9_hasNetWay_92 rfl (lv_at hl 1 rfl) ?_
          refine rg_0_29 hx hb hts wu_X9 hown I wf_X9_80 dX9_hasNetWay_93 ?_
          refine lv_aload_n hx hb dX9_hasNetWay_96 rfl (lv_at hl 1 rfl) ?_
          refine rg_0_26 hx hb hts wu_X9 hown I wf_X9_71 dX9_hasNetWay_97 ?_
          refine lv_iload_n hx hb dX9_hasNetWay_100 rfl (lv_at hl 3 rfl) ?_
          obtain ⟨h_14, hw⟩ := hw
          refine r_iald hx hb I 21 lenR_21 (by decide) h_14 dX9_hasNetWay_101 ?_
          have h_15 := I.rng 21 x2
          obtain ⟨h_16, hw⟩ := hw
          refine r_iald hx hb I 24 lenR_24 (by decide) h_16 dX9_hasNetWay_102 ?_
          have h_17 := I.rng 24 (M 21 x2)
          obtain ⟨h_19, hw⟩ := hw
          refine li_icmp_ge (tgt := 139) hx hb dX9_hasNetWay_103 (by decide) h_19 h_17 (fun c_18 => ?_) (fun c_18 => ?_)
          · replace hw := hw.1 c_18
            exact bX9_hasNetWay_139 C post k41 (fun y1 y2 N => lpX9_hasNetWay_49 post k41 n y1 y2 N) hk41 ih x1 x2 h1 h2 _ _ _ _ hw I (lv_sub hl [1, 2, 3] rfl)
          · replace hw := hw.2 c_18
            refine lv_aload_n hx hb dX9_hasNetWay_106 rfl (lv_at hl 1 rfl) ?_
            refine rg_0_29 hx hb hts wu_X9 hown I wf_X9_80 dX9_hasNetWay_107 ?_
            refine lv_aload_n hx hb dX9_hasNetWay_110 rfl (lv_at hl 1 rfl) ?_
            refine rg_0_26 hx hb hts wu_X9 hown I wf_X9_71 dX9_hasNetWay_111 ?_
            refine lv_iload_n hx hb dX9_hasNetWay_114 rfl (lv_at hl 3 rfl) ?_
            obtain ⟨h_20, hw⟩ := hw
            refine r_iald hx hb I 21 lenR_21 (by decide) h_20 dX9_hasNetWay_115 ?_
            have h_21 := I.rng 21 x2
            refine lv_iload_n hx hb dX9_hasNetWay_116 rfl (lv_at hl 0 rfl) ?_
            refine lv_aload_n hx hb dX9_hasNetWay_117 rfl (lv_at hl 1 rfl) ?_
            refine rg_0_28 hx hb hts wu_X9 hown I wf_X9_77 dX9_hasNetWay_118 ?_
            refine lv_iload_n hx hb dX9_hasNetWay_121 rfl (lv_at hl 3 rfl) ?_
            obtain ⟨h_22, hw⟩ := hw
            refine r_iald hx hb I 23 lenR_23 (by decide) h_22 dX9_hasNetWay_122 ?_
            have h_23 := I.rng 23 x2
            refine li_iadd hx hb dX9_hasNetWay_123 ?_
            obtain ⟨h_24, hw⟩ := hw
            refine r_iast hx hb I 24 lenR_24 (by decide) h_24 h_19 dX9_hasNetWay_124 (fun H locs M124_24 eM124_24 I => ?_)
            replace hw := hw M124_24 eM124_24
            refine lv_aload_n hx hb dX9_hasNetWay_125 rfl (lv_at hl 1 rfl) ?_
            refine rg_0_30 hx hb hts wu_X9 hown I wf_X9_83 dX9_hasNetWay_126 ?_
            refine lv_aload_n hx hb dX9_hasNetWay_129 rfl (lv_at hl 1 rfl) ?_
            refine rg_0_26 hx hb hts wu_X9 hown I wf_X9_71 dX9_hasNetWay_130 ?_
            refine lv_iload_n hx hb dX9_hasNetWay_133 rfl (lv_at hl 3 rfl) ?_
            obtain ⟨h_26, hw⟩ := hw
            refine r_iald hx hb I 21 lenR_21 (by decide) h_26 dX9_hasNetWay_134 ?_
            have h_27 := I.rng 21 x2
            refine lv_iload_n hx hb dX9_hasNetWay_135 rfl (lv_at hl 3 rfl) ?_
            obtain ⟨h_28, hw⟩ := hw
            refine r_iast hx hb I 25 lenR_25 (by decide) h_28 h2 dX9_hasNetWay_136 (fun H locs M136_28 eM136_28 I => ?_)
            replace hw := hw M136_28 eM136_28
            refine li_iconst hx hb dX9_hasNetWay_137 ?_
            refine lv_istore_n (lv' := [(1, .int (i32 1)), (3, .int (i32 v68_6)), (0, .ref (g.2.2.2 0)), (2, .int (i32 x2))]) hx hb dX9_hasNetWay_138 rfl hl (by decide) rfl (fun ls hl => ?_)
            exact bX9_hasNetWay_139 C post k41 (fun y1 y2 N => lpX9_hasNetWay_49 post k41 n y1 y2 N) hk41 ih 1 x2 (by decide) h2 _ _ _ _ hw I (lv_sub hl [2, 0, 3] rfl)
set_option maxRecDepth 100000 in
set_option maxHeartbeats 4000000 in
theorem bX9_hasNetWay_41 {p : Program} {l : Launch} {e : Env} {s : State} {m : MethodId} {args : Array Value} {below : List Frame} {meth : Method} {c : Code} {g : GP} (C : Cx p m c cX9_hasNetWay 4 s args lw_g RX9 meth (some .boolean)) (post : Int → Mem → Prop) : ∀ (n : Nat), ∀ (x1 : Int), inR x1 → ∀ (M : Mem) (H : Heap) (locs : List Loc) (ls : Array Slot), lpX9_hasNetWay_41 post n x1 M → IR g s M H locs → lv_has ls 4 [(0, .ref (g.2.2.2 0)), (1, .int (i32 x1))] → W p l e rmX9_hasNetWay s m args below meth c H locs 0 0 (QIR below args s g post) (F0 m 41 ls []) := by
  obtain ⟨⟨hx, hb, hml, hown, hts⟩, hr, hlk⟩ := id C
  intro n
  induction n with
  | zero =>
    intro x1 h1 M H locs ls hw
    exact hw.elim
  | succ n ih =>
    intro x1 h1 M H locs ls hw I hl
    refine lv_iload_n hx hb dX9_hasNetWay_41 rfl (lv_at hl 1 rfl) ?_
    refine li_if_eq (tgt := 148) hx hb dX9_hasNetWay_42 (by decide) h1 (fun c_1 => ?_) (fun c_1 => ?_)
    · replace hw := hw.1 c_1
      refine lv_aload_n hx hb dX9_hasNetWay_148 rfl (lv_at hl 0 rfl) ?_
      refine rg_0_29 hx hb hts wu_X9 hown I wf_X9_80 dX9_hasNetWay_149 ?_
      refine lv_bipush (v := i32 21) hx hb dX9_hasNetWay_152 (by decide) ?_
      refine r_iald hx hb I 24 lenR_24 (by decide) (by decide) dX9_hasNetWay_154 ?_
      have h_2 := I.rng 24 21
      refine lv_ldc (v := i32 1000000000) hx hb hown (hts _ wk_X9_115) dX9_hasNetWay_155 ?_
      refine li_icmp_ge (tgt := 164) hx hb dX9_hasNetWay_157 (by decide) h_2 (by decide) (fun c_3 => ?_) (fun c_3 => ?_)
      · replace hw := hw.1 c_3
        refine li_iconst hx hb dX9_hasNetWay_164 ?_
        exact bX9_hasNetWay_165 C post 0 (by decide) _ _ _ _ hw I (lv_sub hl [0] rfl)
      · replace hw := hw.2 c_3
        refine li_iconst hx hb dX9_hasNetWay_160 ?_
        refine lv_goto (tgt := 165) hx hb dX9_hasNetWay_161 (by decide) ?_
        exact bX9_hasNetWay_165 C post 1 (by decide) _ _ _ _ hw I (lv_sub hl [0] rfl)
    · replace hw := hw.2 c_1
      refine li_iconst hx hb dX9_hasNetWay_45 ?_
      refine lv_istore_n (lv' := [(1, .int (i32 0)), (0, .ref (g.2.2.2 0))]) hx hb dX9_hasNetWay_46 rfl hl (by decide) rfl (fun ls hl => ?_)
      refine li_iconst hx hb dX9_hasNetWay_47 ?_
      refine lv_istore_n (lv' := [(2, .int (i32 0)), (1, .int (i32 0)), (0, .ref (g.2.2.2 0))]) hx hb dX9_hasNetWay_48 rfl hl (by decide) rfl (fun ls hl => ?_)
      obtain ⟨n1, hw⟩ := hw
      exact bX9_hasNetWay_49 C post (fun y1 N => lpX9_hasNetWay_41 post n y1 N) ih n1 0 0 (by decide) (by decide) _ _ _ _ hw I (lv_sub hl [2, 1, 0] rfl)
set_option maxRecDepth 100000 in
set_option maxHeartbeats 4000000 in
theorem bX9_hasNetWay_25 {p : Program} {l : Launch} {e : Env} {s : State} {m : MethodId} {args : Array Value} {below : List Frame} {meth : Method} {c : Code} {g : GP} (C : Cx p m c cX9_hasNetWay 4 s args lw_g RX9 meth (some .boolean)) (post : Int → Mem → Prop) (k2 : Int → Mem → Prop) (hk2 : ∀ (x1 : Int), inR x1 → ∀ (M : Mem) (H : Heap) (locs : List Loc) (ls : Array Slot), k2 x1 M → IR g s M H locs → lv_has ls 4 [(0, .ref (g.2.2.2 0)), (1, .int (i32 x1))] → W p l e rmX9_hasNetWay s m args below meth c H locs 0 0 (QIR below args s g post) (F0 m 2 ls [])) : ∀ (x1 t0 t1 : Int), inR x1 → inR t0 → inR t1 → ∀ (M : Mem) (H : Heap) (locs : List Loc) (ls : Array Slot), jbX9_hasNetWay_25 post k2 x1 t0 t1 M → IR g s M H locs → lv_has ls 4 [(0, .ref (g.2.2.2 0)), (1, .int (i32 x1))] → W p l e rmX9_hasNetWay s m args below meth c H locs 0 0 (QIR below args s g post) (F0 m 25 ls [.int (i32 t0), .int (i32 t1), .ref (g.2.2.2 24)]) := by
  obtain ⟨⟨hx, hb, hml, hown, hts⟩, hr, hlk⟩ := id C
  intro x1 t0 t1 h1 ht0 ht1 M H locs ls hw I hl
  obtain ⟨h_1, hw⟩ := hw
  refine r_iast hx hb I 24 lenR_24 (by decide) h_1 ht0 dX9_hasNetWay_25 (fun H locs M25_1 eM25_1 I => ?_)
  replace hw := hw M25_1 eM25_1
  refine lv_aload_n hx hb dX9_hasNetWay_26 rfl (lv_at hl 0 rfl) ?_
  refine rg_0_30 hx hb hts wu_X9 hown I wf_X9_83 dX9_hasNetWay_27 ?_
  refine lv_iload_n hx hb dX9_hasNetWay_30 rfl (lv_at hl 1 rfl) ?_
  refine li_iconst hx hb dX9_hasNetWay_31 ?_
  obtain ⟨h_3, hw⟩ := hw
  refine r_iast hx hb I 25 lenR_25 (by decide) h_3 (by decide) dX9_hasNetWay_32 (fun H locs M32_3 eM32_3 I => ?_)
  replace hw := hw M32_3 eM32_3
  refine li_iinc (lv' := [(1, .int (i32 (x1 + 1))), (0, .ref (g.2.2.2 0))]) hx hb dX9_hasNetWay_33 hl (k := 1) rfl (by decide) rfl (fun ls hl => ?_)
  refine lv_goto (tgt := 2) hx hb dX9_hasNetWay_36 (by decide) ?_
  obtain ⟨h_5, hw⟩ := hw
  exact hk2 (x1 + 1) h_5 _ _ _ _ hw I (lv_sub hl [1, 0] rfl)
set_option maxRecDepth 100000 in
set_option maxHeartbeats 4000000 in
theorem bX9_hasNetWay_2 {p : Program} {l : Launch} {e : Env} {s : State} {m : MethodId} {args : Array Value} {below : List Frame} {meth : Method} {c : Code} {g : GP} (C : Cx p m c cX9_hasNetWay 4 s args lw_g RX9 meth (some .boolean)) (post : Int → Mem → Prop) : ∀ (n : Nat), ∀ (x1 : Int), inR x1 → ∀ (M : Mem) (H : Heap) (locs : List Loc) (ls : Array Slot), lpX9_hasNetWay_2 post n x1 M → IR g s M H locs → lv_has ls 4 [(0, .ref (g.2.2.2 0)), (1, .int (i32 x1))] → W p l e rmX9_hasNetWay s m args below meth c H locs 0 0 (QIR below args s g post) (F0 m 2 ls []) := by
  obtain ⟨⟨hx, hb, hml, hown, hts⟩, hr, hlk⟩ := id C
  intro n
  induction n with
  | zero =>
    intro x1 h1 M H locs ls hw
    exact hw.elim
  | succ n ih =>
    intro x1 h1 M H locs ls hw I hl
    refine lv_iload_n hx hb dX9_hasNetWay_2 rfl (lv_at hl 1 rfl) ?_
    refine lv_bipush (v := i32 22) hx hb dX9_hasNetWay_3 (by decide) ?_
    refine li_icmp_ge (tgt := 39) hx hb dX9_hasNetWay_5 (by decide) h1 (by decide) (fun c_1 => ?_) (fun c_1 => ?_)
    · replace hw := hw.1 c_1
      refine li_iconst hx hb dX9_hasNetWay_39 ?_
      refine lv_istore_n (lv' := [(1, .int (i32 1)), (0, .ref (g.2.2.2 0))]) hx hb dX9_hasNetWay_40 rfl hl (by decide) rfl (fun ls hl => ?_)
      obtain ⟨n1, hw⟩ := hw
      exact bX9_hasNetWay_41 C post n1 1 (by decide) _ _ _ _ hw I (lv_sub hl [1, 0] rfl)
    · replace hw := hw.2 c_1
      refine lv_aload_n hx hb dX9_hasNetWay_8 rfl (lv_at hl 0 rfl) ?_
      refine rg_0_29 hx hb hts wu_X9 hown I wf_X9_80 dX9_hasNetWay_9 ?_
      refine lv_iload_n hx hb dX9_hasNetWay_12 rfl (lv_at hl 1 rfl) ?_
      refine lv_iload_n hx hb dX9_hasNetWay_13 rfl (lv_at hl 1 rfl) ?_
      refine lv_bipush (v := i32 20) hx hb dX9_hasNetWay_14 (by decide) ?_
      refine li_icmp_ne (tgt := 23) hx hb dX9_hasNetWay_16 (by decide) h1 (by decide) (fun c_2 => ?_) (fun c_2 => ?_)
      · replace hw := hw.1 c_2
        refine lv_ldc (v := i32 1000000000) hx hb hown (hts _ wk_X9_115) dX9_hasNetWay_23 ?_
        exact bX9_hasNetWay_25 C post (fun y1 N => lpX9_hasNetWay_2 post n y1 N) ih x1 1000000000 x1 h1 (by decide) h1 _ _ _ _ hw I (lv_sub hl [0, 1] rfl)
      · replace hw := hw.2 c_2
        refine li_iconst hx hb dX9_hasNetWay_19 ?_
        refine lv_goto (tgt := 25) hx hb dX9_hasNetWay_20 (by decide) ?_
        exact bX9_hasNetWay_25 C post (fun y1 N => lpX9_hasNetWay_2 post n y1 N) ih x1 0 x1 h1 (by decide) h1 _ _ _ _ hw I (lv_sub hl [0, 1] rfl)
set_option maxRecDepth 100000 in
set_option maxHeartbeats 4000000 in
theorem mX9_hasNetWay (l : Launch) (g : GP) (M : Mem) (post : Int → Mem → Prop) (sz : Nat) (hw : wpX9_hasNetWay M post) : MIR l yX9_hasNetWay wtX9_hasNetWay rmX9_hasNetWay g [.ref (g.2.2.2 0)] M sz post := by
  refine Met.ofW (cc := cX9_hasNetWay) (maxL := 4) (ret := (some .boolean)) (by decide) rfl ?_
  intro p e s m args below meth c s₁ B hml hv
  obtain ⟨rfl, hpre⟩ := hv
  have hsz := hpre.1
  subst hsz
  have C : Cx p m c cX9_hasNetWay 4 s _ lw_g RX9 meth (some .boolean) := ⟨⟨B.exec, B.bytes, hml, findClass_of_methodNamed B.named, fun w h => atoms_spec (ws := wtX9_hasNetWay) B.pre w (List.mem_cons_of_mem _ h)⟩, B.returns, B.notSynchronized⟩
  obtain ⟨⟨hx, hb, hml, hown, hts⟩, hr, hlk⟩ := id C
  have I := InG.start hpre
  have hl := lv_entry ([.ref (g.2.2.2 0)]) (n := 4) (Nat.le_of_ble_eq_true rfl)
  rw [lg_entry_eq]
  generalize (lg_sl ([.ref (g.2.2.2 0)]) ++ List.replicate (4 - (lg_sl ([.ref (g.2.2.2 0)])).length) Slot.unset).toArray = ls at hl ⊢
  have hl : lv_has ls 4 [(0, .ref (g.2.2.2 0))] := hl
  show W p l e rmX9_hasNetWay s m _ below meth c s.heap [] 0 0 (QIR below _ s g post) _
  refine li_iconst hx hb dX9_hasNetWay_0 ?_
  refine lv_istore_n (lv' := [(1, .int (i32 0)), (0, .ref (g.2.2.2 0))]) hx hb dX9_hasNetWay_1 rfl hl (by decide) rfl (fun ls hl => ?_)
  obtain ⟨n1, hw⟩ := hw
  exact bX9_hasNetWay_2 C post n1 0 (by decide) _ _ _ _ hw I (lv_sub hl [1, 0] rfl)
abbrev rmX9_goNet : Room := { frames := 0, cells := 0, slots := 0, locals := 0 }
abbrev wtX9_goNet : List Cond := Cond.code yX9_goNet cX9_goNet 4 (some .int) :: lw_g
set_option maxRecDepth 100000 in
set_option maxHeartbeats 4000000 in
theorem bX9_goNet_103 {p : Program} {l : Launch} {e : Env} {s : State} {m : MethodId} {args : Array Value} {below : List Frame} {meth : Method} {c : Code} {g : GP} (C : Cx p m c cX9_goNet 4 s args lw_g RX9 meth (some .int)) (post : Int → Mem → Prop) (k61 : Int → Int → Mem → Prop) (hk61 : ∀ (x1 x2 : Int), inR x1 → inR x2 → ∀ (M : Mem) (H : Heap) (locs : List Loc) (ls : Array Slot), k61 x1 x2 M → IR g s M H locs → lv_has ls 4 [(0, .ref (g.2.2.2 0)), (1, .int (i32 x1)), (2, .int (i32 x2))] → W p l e rmX9_goNet s m args below meth c H locs 0 0 (QIR below args s g post) (F0 m 61 ls [])) : ∀ (x1 x2 t0 : Int), inR x1 → inR x2 → inR t0 → ∀ (M : Mem) (H : Heap) (locs : List Loc) (ls : Array Slot), jbX9_goNet_103 post k61 x1 x2 t0 M → IR g s M H locs → lv_has ls 4 [(0, .ref (g.2.2.2 0)), (1, .int (i32 x1)), (2, .int (i32 x2))] → W p l e rmX9_goNet s m args below meth c H locs 0 0 (QIR below args s g post) (F0 m 103 ls [.int (i32 t0), .ref (g.2.2.2 22)]) := by
  obtain ⟨⟨hx, hb, hml, hown, hts⟩, hr, hlk⟩ := id C
  intro x1 x2 t0 h1 h2 ht0 M H locs ls hw I hl
  refine lv_dup2_11 hx hb dX9_goNet_103 rfl rfl ?_
  obtain ⟨h_1, hw⟩ := hw
  refine r_iald hx hb I 22 lenR_22 (by decide) h_1 dX9_goNet_104 ?_
  have h_2 := I.rng 22 t0
  refine lv_iload_n hx hb dX9_goNet_105 rfl (lv_at hl 1 rfl) ?_
  refine li_iadd hx hb dX9_goNet_106 ?_
  obtain ⟨h_3, hw⟩ := hw
  obtain ⟨h_4, hw⟩ := hw
  refine r_iast hx hb I 22 lenR_22 (by decide) h_3 h_4 dX9_goNet_107 (fun H locs M107_4 eM107_4 I => ?_)
  replace hw := hw M107_4 eM107_4
  refine lv_aload_n hx hb dX9_goNet_108 rfl (lv_at hl 0 rfl) ?_
  refine rg_0_25 hx hb hts wu_X9 hown I wf_X9_68 dX9_goNet_109 ?_
  refine lv_aload_n hx hb dX9_goNet_112 rfl (lv_at hl 0 rfl) ?_
  refine rg_0_30 hx hb hts wu_X9 hown I wf_X9_83 dX9_goNet_113 ?_
  refine lv_iload_n hx hb dX9_goNet_116 rfl (lv_at hl 2 rfl) ?_
  obtain ⟨h_6, hw⟩ := hw
  refine r_iald hx hb I 25 lenR_25 (by decide) h_6 dX9_goNet_117 ?_
  have h_7 := I.rng 25 x2
  obtain ⟨h_8, hw⟩ := hw
  refine r_iald hx hb I 20 lenR_20 (by decide) h_8 dX9_goNet_118 ?_
  have h_9 := I.rng 20 (M107_4 25 x2)
  refine li_name (fun v119_9 ev119_9 => ?_)
  replace hw := hw v119_9 ev119_9
  have hv119_9 : inR v119_9 := ev119_9 ▸ h_9
  refine lv_istore_n (lv' := [(2, .int (i32 v119_9)), (0, .ref (g.2.2.2 0)), (1, .int (i32 x1))]) hx hb dX9_goNet_119 rfl hl (by decide) rfl (fun ls hl => ?_)
  refine lv_goto (tgt := 61) hx hb dX9_goNet_120 (by decide) ?_
  exact hk61 x1 v119_9 h1 hv119_9 _ _ _ _ hw I (lv_sub hl [1, 2, 0] rfl)
set_option maxRecDepth 100000 in
set_option maxHeartbeats 4000000 in
theorem bX9_goNet_61 {p : Program} {l : Launch} {e : Env} {s : State} {m : MethodId} {args : Array Value} {below : List Frame} {meth : Method} {c : Code} {g : GP} (C : Cx p m c cX9_goNet 4 s args lw_g RX9 meth (some .int)) (post : Int → Mem → Prop) : ∀ (n : Nat), ∀ (x1 x2 : Int), inR x1 → inR x2 → ∀ (M : Mem) (H : Heap) (locs : List Loc) (ls : Array Slot), lpX9_goNet_61 post n x1 x2 M → IR g s M H locs → lv_has ls 4 [(0, .ref (g.2.2.2 0)), (1, .int (i32 x1)), (2, .int (i32 x2))] → W p l e rmX9_goNet s m args below meth c H locs 0 0 (QIR below args s g post) (F0 m 61 ls []) := by
  obtain ⟨⟨hx, hb, hml, hown, hts⟩, hr, hlk⟩ := id C
  intro n
  induction n with
  | zero =>
    intro x1 x2 h1 h2 M H locs ls hw
    exact hw.elim
  | succ n ih =>
    intro x1 x2 h1 h2 M H locs ls hw I hl
    refine lv_iload_n hx hb dX9_goNet_61 rfl (lv_at hl 2 rfl) ?_
    refine lv_bipush (v := i32 20) hx hb dX9_goNet_62 (by decide) ?_
    refine li_icmp_eq (tgt := 123) hx hb dX9_goNet_64 (by decide) h2 (by decide) (fun c_1 => ?_) (fun c_1 => ?_)
    · replace hw := hw.1 c_1
      refine lv_iload_n hx hb dX9_goNet_123 rfl (lv_at hl 1 rfl) ?_
      exact g_iret hx hb hr hlk I h1 hw dX9_goNet_124
    · replace hw := hw.2 c_1
      refine lv_aload_n hx hb dX9_goNet_67 rfl (lv_at hl 0 rfl) ?_
      refine rg_0_30 hx hb hts wu_X9 hown I wf_X9_83 dX9_goNet_68 ?_
      refine lv_iload_n hx hb dX9_goNet_71 rfl (lv_at hl 2 rfl) ?_
      obtain ⟨h_2, hw⟩ := hw
      refine r_iald hx hb I 25 lenR_25 (by decide) h_2 dX9_goNet_72 ?_
      have h_3 := I.rng 25 x2
      refine li_name (fun v73_3 ev73_3 => ?_)
      replace hw := hw v73_3 ev73_3
      have hv73_3 : inR v73_3 := ev73_3 ▸ h_3
      refine lv_istore_n (lv' := [(3, .int (i32 v73_3)), (0, .ref (g.2.2.2 0)), (1, .int (i32 x1)), (2, .int (i32 x2))]) hx hb dX9_goNet_73 rfl hl (by decide) rfl (fun ls hl => ?_)
      refine lv_aload_n hx hb dX9_goNet_74 rfl (lv_at hl 1 rfl) ?_
      refine rg_0_27 hx hb hts wu_X9 hown I wf_X9_74 dX9_goNet_75 ?_
      refine lv_iload_n hx hb dX9_goNet_78 rfl (lv_at hl 0 rfl) ?_
      refine lv_dup2_11 hx hb dX9_goNet_79 rfl rfl ?_
      obtain ⟨h_5, hw⟩ := hw
      refine r_iald hx hb I 22 lenR_22 (by decide) h_5 dX9_goNet_80 ?_
      have h_6 := I.rng 22 v73_3
      refine lv_iload_n hx hb dX9_goNet_81 rfl (lv_at hl 2 rfl) ?_
      refine li_isub hx hb dX9_goNet_82 ?_
      obtain ⟨h_7, hw⟩ := hw
      obtain ⟨h_8, hw⟩ := hw
      refine r_iast hx hb I 22 lenR_22 (by decide) h_7 h_8 dX9_goNet_83 (fun H locs M83_8 eM83_8 I => ?_)
      replace hw := hw M83_8 eM83_8
      refine lv_aload_n hx hb dX9_goNet_84 rfl (lv_at hl 1 rfl) ?_
      refine rg_0_27 hx hb hts wu_X9 hown I wf_X9_74 dX9_goNet_85 ?_
      refine lv_iload_n hx hb dX9_goNet_88 rfl (lv_at hl 0 rfl) ?_
      refine li_iconst hx hb dX9_goNet_89 ?_
      obtain ⟨h_10, hw⟩ := hw
      refine li_irem hx hb dX9_goNet_90 hv73_3 h_10 (by decide) (by decide) ?_
      obtain ⟨h_12, hw⟩ := hw
      refine li_if_ne (tgt := 100) hx hb dX9_goNet_91 (by decide) h_12 (fun c_11 => ?_) (fun c_11 => ?_)
      · replace hw := hw.1 c_11
        refine lv_iload_n hx hb dX9_goNet_100 rfl (lv_at hl 0 rfl) ?_
        refine li_iconst hx hb dX9_goNet_101 ?_
        refine li_isub hx hb dX9_goNet_102 ?_
        obtain ⟨h_13, hw⟩ := hw
        exact bX9_goNet_103 C post (fun y1 y2 N => lpX9_goNet_61 post n y1 y2 N) ih x1 x2 (v73_3 - 1) h1 h2 h_13 _ _ _ _ hw I (lv_sub hl [1, 2, 3] rfl)
      · replace hw := hw.2 c_11
        refine lv_iload_n hx hb dX9_goNet_94 rfl (lv_at hl 0 rfl) ?_
        refine li_iconst hx hb dX9_goNet_95 ?_
        refine li_iadd hx hb dX9_goNet_96 ?_
        refine lv_goto (tgt := 103) hx hb dX9_goNet_97 (by decide) ?_
        obtain ⟨h_14, hw⟩ := hw
        exact bX9_goNet_103 C post (fun y1 y2 N => lpX9_goNet_61 post n y1 y2 N) ih x1 x2 (v73_3 + 1) h1 h2 h_14 _ _ _ _ hw I (lv_sub hl [1, 2, 3] rfl)
set_option maxRecDepth 100000 in
set_option maxHeartbeats 4000000 in
theorem bX9_goNet_42 {p : Program} {l : Launch} {e : Env} {s : State} {m : MethodId} {args : Array Value} {below : List Frame} {meth : Method} {c : Code} {g : GP} (C : Cx p m c cX9_goNet 4 s args lw_g RX9 meth (some .int)) (post : Int → Mem → Prop) (k6 : Int → Int → Mem → Prop) (hk6 : ∀ (x1 x2 : Int), inR x1 → inR x2 → ∀ (M : Mem) (H : Heap) (locs : List Loc) (ls : Array Slot), k6 x1 x2 M → IR g s M H locs → lv_has ls 4 [(0, .ref (g.2.2.2 0)), (1, .int (i32 x1)), (2, .int (i32 x2))] → W p l e rmX9_goNet s m args below meth c H locs 0 0 (QIR below args s g post) (F0 m 6 ls [])) : ∀ (x2 t0 : Int), inR x2 → inR t0 → ∀ (M : Mem) (H : Heap) (locs : List Loc) (ls : Array Slot), jbX9_goNet_42 post k6 x2 t0 M → IR g s M H locs → lv_has ls 4 [(0, .ref (g.2.2.2 0)), (2, .int (i32 x2))] → W p l e rmX9_goNet s m args below meth c H locs 0 0 (QIR below args s g post) (F0 m 42 ls [.int (i32 t0)]) := by
  obtain ⟨⟨hx, hb, hml, hown, hts⟩, hr, hlk⟩ := id C
  intro x2 t0 h2 ht0 M H locs ls hw I hl
  refine lv_istore_n (lv' := [(1, .int (i32 t0)), (0, .ref (g.2.2.2 0)), (2, .int (i32 x2))]) hx hb dX9_goNet_42 rfl hl (by decide) rfl (fun ls hl => ?_)
  refine lv_aload_n hx hb dX9_goNet_43 rfl (lv_at hl 1 rfl) ?_
  refine rg_0_25 hx hb hts wu_X9 hown I wf_X9_68 dX9_goNet_44 ?_
  refine lv_aload_n hx hb dX9_goNet_47 rfl (lv_at hl 1 rfl) ?_
  refine rg_0_30 hx hb hts wu_X9 hown I wf_X9_83 dX9_goNet_48 ?_
  refine lv_iload_n hx hb dX9_goNet_51 rfl (lv_at hl 2 rfl) ?_
  obtain ⟨h_1, hw⟩ := hw
  refine r_iald hx hb I 25 lenR_25 (by decide) h_1 dX9_goNet_52 ?_
  have h_2 := I.rng 25 x2
  obtain ⟨h_3, hw⟩ := hw
  refine r_iald hx hb I 20 lenR_20 (by decide) h_3 dX9_goNet_53 ?_
  have h_4 := I.rng 20 (M 25 x2)
  refine li_name (fun v54_4 ev54_4 => ?_)
  replace hw := hw v54_4 ev54_4
  have hv54_4 : inR v54_4 := ev54_4 ▸ h_4
  refine lv_istore_n (lv' := [(2, .int (i32 v54_4)), (1, .int (i32 t0)), (0, .ref (g.2.2.2 0))]) hx hb dX9_goNet_54 rfl hl (by decide) rfl (fun ls hl => ?_)
  refine lv_goto (tgt := 6) hx hb dX9_goNet_55 (by decide) ?_
  exact hk6 t0 v54_4 ht0 hv54_4 _ _ _ _ hw I (lv_sub hl [2, 1, 0] rfl)
set_option maxRecDepth 100000 in
set_option maxHeartbeats 4000000 in
theorem bX9_goNet_6 {p : Program} {l : Launch} {e : Env} {s : State} {m : MethodId} {args : Array Value} {below : List Frame} {meth : Method} {c : Code} {g : GP} (C : Cx p m c cX9_goNet 4 s args lw_g RX9 meth (some .int)) (post : Int → Mem → Prop) : ∀ (n : Nat), ∀ (x1 x2 : Int), inR x1 → inR x2 → ∀ (M : Mem) (H : Heap) (locs : List Loc) (ls : Array Slot), lpX9_goNet_6 post n x1 x2 M → IR g s M H locs → lv_has ls 4 [(0, .ref (g.2.2.2 0)), (1, .int (i32 x1)), (2, .int (i32 x2))] → W p l e rmX9_goNet s m args below meth c H locs 0 0 (QIR below args s g post) (F0 m 6 ls []) := by
  obtain ⟨⟨hx, hb, hml, hown, hts⟩, hr, hlk⟩ := id C
  intro n
  induction n with
  | zero =>
    intro x1 x2 h1 h2 M H locs ls hw
    exact hw.elim
  | succ n ih =>
    intro x1 x2 h1 h2 M H locs ls hw I hl
    refine lv_iload_n hx hb dX9_goNet_6 rfl (lv_at hl 2 rfl) ?_
    refine lv_bipush (v := i32 20) hx hb dX9_goNet_7 (by decide) ?_
    refine li_icmp_eq (tgt := 58) hx hb dX9_goNet_9 (by decide) h2 (by decide) (fun c_1 => ?_) (fun c_1 => ?_)
    · replace hw := hw.1 c_1
      refine lv_bipush (v := i32 21) hx hb dX9_goNet_58 (by decide) ?_
      refine lv_istore_n (lv' := [(2, .int (i32 21)), (0, .ref (g.2.2.2 0)), (1, .int (i32 x1))]) hx hb dX9_goNet_60 rfl hl (by decide) rfl (fun ls hl => ?_)
      obtain ⟨n1, hw⟩ := hw
      exact bX9_goNet_61 C post n1 x1 21 h1 (by decide) _ _ _ _ hw I (lv_sub hl [1, 2, 0] rfl)
    · replace hw := hw.2 c_1
      refine lv_aload_n hx hb dX9_goNet_12 rfl (lv_at hl 0 rfl) ?_
      refine rg_0_27 hx hb hts wu_X9 hown I wf_X9_74 dX9_goNet_13 ?_
      refine lv_aload_n hx hb dX9_goNet_16 rfl (lv_at hl 0 rfl) ?_
      refine rg_0_30 hx hb hts wu_X9 hown I wf_X9_83 dX9_goNet_17 ?_
      refine lv_iload_n hx hb dX9_goNet_20 rfl (lv_at hl 2 rfl) ?_
      obtain ⟨h_2, hw⟩ := hw
      refine r_iald hx hb I 25 lenR_25 (by decide) h_2 dX9_goNet_21 ?_
      have h_3 := I.rng 25 x2
      obtain ⟨h_4, hw⟩ := hw
      refine r_iald hx hb I 22 lenR_22 (by decide) h_4 dX9_goNet_22 ?_
      have h_5 := I.rng 22 (M 25 x2)
      refine lv_iload_n hx hb dX9_goNet_23 rfl (lv_at hl 1 rfl) ?_
      refine li_icmp_ge (tgt := 41) hx hb dX9_goNet_24 (by decide) h_5 h1 (fun c_6 => ?_) (fun c_6 => ?_)
      · replace hw := hw.1 c_6
        refine lv_iload_n hx hb dX9_goNet_41 rfl (lv_at hl 1 rfl) ?_
        exact bX9_goNet_42 C post (fun y1 y2 N => lpX9_goNet_6 post n y1 y2 N) ih x2 x1 h2 h1 _ _ _ _ hw I (lv_sub hl [0, 2] rfl)
      · replace hw := hw.2 c_6
        refine lv_aload_n hx hb dX9_goNet_27 rfl (lv_at hl 0 rfl) ?_
        refine rg_0_27 hx hb hts wu_X9 hown I wf_X9_74 dX9_goNet_28 ?_
        refine lv_aload_n hx hb dX9_goNet_31 rfl (lv_at hl 0 rfl) ?_
        refine rg_0_30 hx hb hts wu_X9 hown I wf_X9_83 dX9_goNet_32 ?_
        refine lv_iload_n hx hb dX9_goNet_35 rfl (lv_at hl 2 rfl) ?_
        obtain ⟨h_7, hw⟩ := hw
        refine r_iald hx hb I 25 lenR_25 (by decide) h_7 dX9_goNet_36 ?_
        have h_8 := I.rng 25 x2
        obtain ⟨h_9, hw⟩ := hw
        refine r_iald hx hb I 22 lenR_22 (by decide) h_9 dX9_goNet_37 ?_
        have h_10 := I.rng 22 (M 25 x2)
        refine lv_goto (tgt := 42) hx hb dX9_goNet_38 (by decide) ?_
        exact bX9_goNet_42 C post (fun y1 y2 N => lpX9_goNet_6 post n y1 y2 N) ih x2 (M 22 (M 25 x2)) h2 h_10 _ _ _ _ hw I (lv_sub hl [0, 2] rfl)
set_option maxRecDepth 100000 in
set_option maxHeartbeats 4000000 in
theorem mX9_goNet (l : Launch) (g : GP) (M : Mem) (post : Int → Mem → Prop) (sz : Nat) (hw : wpX9_goNet M post) : MIR l yX9_goNet wtX9_goNet rmX9_goNet g [.ref (g.2.2.2 0)] M sz post := by
  refine Met.ofW (cc := cX9_goNet) (maxL := 4) (ret := (some .int)) (by decide) rfl ?_
  intro p e s m args below meth c s₁ B hml hv
  obtain ⟨rfl, hpre⟩ := hv
  have hsz := hpre.1
  subst hsz
  have C : Cx p m c cX9_goNet 4 s _ lw_g RX9 meth (some .int) := ⟨⟨B.exec, B.bytes, hml, findClass_of_methodNamed B.named, fun w h => atoms_spec (ws := wtX9_goNet) B.pre w (List.mem_cons_of_mem _ h)⟩, B.returns, B.notSynchronized⟩
  obtain ⟨⟨hx, hb, hml, hown, hts⟩, hr, hlk⟩ := id C
  have I := InG.start hpre
  have hl := lv_entry ([.ref (g.2.2.2 0)]) (n := 4) (Nat.le_of_ble_eq_true rfl)
  rw [lg_entry_eq]
  generalize (lg_sl ([.ref (g.2.2.2 0)]) ++ List.replicate (4 - (lg_sl ([.ref (g.2.2.2 0)])).length) Slot.unset).toArray = ls at hl ⊢
  have hl : lv_has ls 4 [(0, .ref (g.2.2.2 0))] := hl
  show W p l e rmX9_goNet s m _ below meth c s.heap [] 0 0 (QIR below _ s g post) _
  refine lv_ldc (v := i32 1000000000) hx hb hown (hts _ wk_X9_115) dX9_goNet_0 ?_
  refine lv_istore_n (lv' := [(1, .int (i32 1000000000)), (0, .ref (g.2.2.2 0))]) hx hb dX9_goNet_2 rfl hl (by decide) rfl (fun ls hl => ?_)
  refine lv_bipush (v := i32 21) hx hb dX9_goNet_3 (by decide) ?_
  refine lv_istore_n (lv' := [(2, .int (i32 21)), (1, .int (i32 1000000000)), (0, .ref (g.2.2.2 0))]) hx hb dX9_goNet_5 rfl hl (by decide) rfl (fun ls hl => ?_)
  obtain ⟨n1, hw⟩ := hw
  exact bX9_goNet_6 C post n1 1000000000 21 (by decide) (by decide) _ _ _ _ hw I (lv_sub hl [2, 1, 0] rfl)
abbrev rmX9_gated : Room := { frames := 3, cells := 0, slots := 0, locals := 68 }
abbrev wtX9_gated : List Cond := Cond.code yX9_gated cX9_gated 8 (some .int) :: lw_g
set_option maxRecDepth 100000 in
set_option maxHeartbeats 4000000 in
theorem bX9_gated_278 {p : Program} {l : Launch} {e : Env} {s : State} {m : MethodId} {args : Array Value} {below : List Frame} {meth : Method} {c : Code} {g : GP} (C : Cx p m c cX9_gated 8 s args lw_g RX9 meth (some .int)) (post : Int → Mem → Prop) : ∀ (t0 : Int), inR t0 → ∀ (M : Mem) (H : Heap) (locs : List Loc) (ls : Array Slot), jbX9_gated_278 post t0 M → IR g s M H locs → lv_has ls 8 [(0, .ref (g.2.2.2 0))] → W p l e rmX9_gated s m args below meth c H locs 0 0 (QIR below args s g post) (F0 m 278 ls [.int (i32 t0)]) := by
  obtain ⟨⟨hx, hb, hml, hown, hts⟩, hr, hlk⟩ := id C
  intro t0 ht0 M H locs ls hw I hl
  exact g_iret hx hb hr hlk I ht0 hw dX9_gated_278
set_option maxRecDepth 100000 in
set_option maxHeartbeats 4000000 in
theorem bX9_gated_267 {p : Program} {l : Launch} {e : Env} {s : State} {m : MethodId} {args : Array Value} {below : List Frame} {meth : Method} {c : Code} {g : GP} (C : Cx p m c cX9_gated 8 s args lw_g RX9 meth (some .int)) (post : Int → Mem → Prop) : ∀ (x4 x5 : Int), inR x4 → inR x5 → ∀ (M : Mem) (H : Heap) (locs : List Loc) (ls : Array Slot), jbX9_gated_267 post x4 x5 M → IR g s M H locs → lv_has ls 8 [(0, .ref (g.2.2.2 0)), (4, .int (i32 x4)), (5, .int (i32 x5))] → W p l e rmX9_gated s m args below meth c H locs 0 0 (QIR below args s g post) (F0 m 267 ls []) := by
  obtain ⟨⟨hx, hb, hml, hown, hts⟩, hr, hlk⟩ := id C
  intro x4 x5 h4 h5 M H locs ls hw I hl
  refine lv_iload hx hb dX9_gated_267 (lv_at hl 1 rfl) ?_
  refine li_if_le (tgt := 276) hx hb dX9_gated_269 (by decide) h4 (fun c_1 => ?_) (fun c_1 => ?_)
  · replace hw := hw.1 c_1
    refine lv_iload hx hb dX9_gated_276 (lv_at hl 2 rfl) ?_
    exact bX9_gated_278 C post x5 h5 _ _ _ _ hw I (lv_sub hl [0] rfl)
  · replace hw := hw.2 c_1
    refine li_iconst hx hb dX9_gated_272 ?_
    refine lv_goto (tgt := 278) hx hb dX9_gated_273 (by decide) ?_
    exact bX9_gated_278 C post (-1) (by decide) _ _ _ _ hw I (lv_sub hl [0] rfl)
set_option maxRecDepth 100000 in
set_option maxHeartbeats 4000000 in
theorem bX9_gated_220 {p : Program} {l : Launch} {e : Env} {s : State} {m : MethodId} {args : Array Value} {below : List Frame} {meth : Method} {c : Code} {g : GP} (C : Cx p m c cX9_gated 8 s args lw_g RX9 meth (some .int)) (post : Int → Mem → Prop) : ∀ (n : Nat), ∀ (x4 x5 : Int), inR x4 → inR x5 → ∀ (M : Mem) (H : Heap) (locs : List Loc) (ls : Array Slot), lpX9_gated_220 post n x4 x5 M → IR g s M H locs → lv_has ls 8 [(0, .ref (g.2.2.2 0)), (4, .int (i32 x4)), (5, .int (i32 x5))] → W p l e rmX9_gated s m args below meth c H locs 0 0 (QIR below args s g post) (F0 m 220 ls []) := by
  obtain ⟨⟨hx, hb, hml, hown, hts⟩, hr, hlk⟩ := id C
  intro n
  induction n with
  | zero =>
    intro x4 x5 h4 h5 M H locs ls hw
    exact hw.elim
  | succ n ih =>
    intro x4 x5 h4 h5 M H locs ls hw I hl
    refine lv_iload hx hb dX9_gated_220 (lv_at hl 1 rfl) ?_
    refine li_if_le (tgt := 267) hx hb dX9_gated_222 (by decide) h4 (fun c_1 => ?_) (fun c_1 => ?_)
    · replace hw := hw.1 c_1
      exact bX9_gated_267 C post x4 x5 h4 h5 _ _ _ _ hw I (lv_sub hl [0, 1, 2] rfl)
    · replace hw := hw.2 c_1
      refine lv_aload_n hx hb dX9_gated_225 rfl (lv_at hl 0 rfl) ?_
      refine g_callVi (o := 0) (As := []) (rest := []) ⟨hx, hb, hml, hown, hts⟩ I (mX9_hasNetWay l g M _ _ hw) (cwV 0 hts (gd_V wm_X9_189 wi_X9_hasNetWay wl_X9_hasNetWay wn_X9 wc_X9_hasNetWay) rfl rfl rfl wd_X9_hasNetWay ⟨Nat.le_of_ble_eq_true rfl, Nat.le_of_ble_eq_true rfl⟩) (by omega) (by omega) obR_0 rfl rfl hl.1 rfl (Nat.le_of_ble_eq_true rfl) dX9_gated_226 ⟨Nat.zero_le _, Nat.zero_le _⟩ (fun r226_1 M226_1 H locs hr226_1 hw I => ?_)
      refine li_if_eq (tgt := 267) hx hb dX9_gated_229 (by decide) hr226_1 (fun c_3 => ?_) (fun c_3 => ?_)
      · replace hw := hw.1 c_3
        exact bX9_gated_267 C post x4 x5 h4 h5 _ _ _ _ hw I (lv_sub hl [0, 1, 2] rfl)
      · replace hw := hw.2 c_3
        refine lv_aload_n hx hb dX9_gated_232 rfl (lv_at hl 0 rfl) ?_
        refine rg_0_29 hx hb hts wu_X9 hown I wf_X9_80 dX9_gated_233 ?_
        refine lv_bipush (v := i32 21) hx hb dX9_gated_236 (by decide) ?_
        refine r_iald hx hb I 24 lenR_24 (by decide) (by decide) dX9_gated_238 ?_
        have h_4 := I.rng 24 21
        refine li_name (fun v239_4 ev239_4 => ?_)
        replace hw := hw v239_4 ev239_4
        have hv239_4 : inR v239_4 := ev239_4 ▸ h_4
        refine lv_istore (lv' := [(6, .int (i32 v239_4)), (0, .ref (g.2.2.2 0)), (4, .int (i32 x4)), (5, .int (i32 x5))]) hx hb dX9_gated_239 hl (by decide) rfl (fun ls hl => ?_)
        refine lv_aload_n hx hb dX9_gated_241 rfl (lv_at hl 1 rfl) ?_
        refine g_callVi (o := 0) (As := []) (rest := []) ⟨hx, hb, hml, hown, hts⟩ I (mX9_goNet l g M226_1 _ _ hw) (cwV 0 hts (gd_V wm_X9_192 wi_X9_goNet wl_X9_goNet wn_X9 wc_X9_goNet) rfl rfl rfl wd_X9_goNet ⟨Nat.le_of_ble_eq_true rfl, Nat.le_of_ble_eq_true rfl⟩) (by omega) (by omega) obR_0 rfl rfl hl.1 rfl (Nat.le_of_ble_eq_true rfl) dX9_gated_242 ⟨Nat.zero_le _, Nat.zero_le _⟩ (fun r242_5 M242_5 H locs hr242_5 hw I => ?_)
        refine lv_istore (lv' := [(7, .int (i32 r242_5)), (6, .int (i32 v239_4)), (0, .ref (g.2.2.2 0)), (4, .int (i32 x4)), (5, .int (i32 x5))]) hx hb dX9_gated_245 hl (by decide) rfl (fun ls hl => ?_)
        refine lv_iload hx hb dX9_gated_247 (lv_at hl 3 rfl) ?_
        refine lv_iload hx hb dX9_gated_249 (lv_at hl 0 rfl) ?_
        refine li_isub hx hb dX9_gated_251 ?_
        obtain ⟨h_7, hw⟩ := hw
        refine li_name (fun v252_7 ev252_7 => ?_)
        replace hw := hw v252_7 ev252_7
        have hv252_7 : inR v252_7 := ev252_7 ▸ h_7
        refine lv_istore (lv' := [(4, .int (i32 v252_7)), (7, .int (i32 r242_5)), (6, .int (i32 v239_4)), (0, .ref (g.2.2.2 0)), (5, .int (i32 x5))]) hx hb dX9_gated_252 hl (by decide) rfl (fun ls hl => ?_)
        refine lv_iload hx hb dX9_gated_254 (lv_at hl 4 rfl) ?_
        refine lv_iload hx hb dX9_gated_256 (lv_at hl 1 rfl) ?_
        refine lv_iload hx hb dX9_gated_258 (lv_at hl 2 rfl) ?_
        refine li_imul hx hb dX9_gated_260 ?_
        refine li_iadd hx hb dX9_gated_261 ?_
        obtain ⟨h_9, hw⟩ := hw
        refine li_name (fun v262_9 ev262_9 => ?_)
        replace hw := hw v262_9 ev262_9
        have hv262_9 : inR v262_9 := ev262_9 ▸ h_9
        refine lv_istore (lv' := [(5, .int (i32 v262_9)), (4, .int (i32 v252_7)), (7, .int (i32 r242_5)), (6, .int (i32 v239_4)), (0, .ref (g.2.2.2 0))]) hx hb dX9_gated_262 hl (by decide) rfl (fun ls hl => ?_)
        refine lv_goto (tgt := 220) hx hb dX9_gated_264 (by decide) ?_
        exact ih v252_7 v262_9 hv252_7 hv262_9 _ _ _ _ hw I (lv_sub hl [4, 1, 0] rfl)
set_option maxRecDepth 100000 in
set_option maxHeartbeats 4000000 in
theorem bX9_gated_142 {p : Program} {l : Launch} {e : Env} {s : State} {m : MethodId} {args : Array Value} {below : List Frame} {meth : Method} {c : Code} {g : GP} (C : Cx p m c cX9_gated 8 s args lw_g RX9 meth (some .int)) (post : Int → Mem → Prop) : ∀ (n : Nat), ∀ (x4 x5 : Int), inR x4 → inR x5 → ∀ (M : Mem) (H : Heap) (locs : List Loc) (ls : Array Slot), lpX9_gated_142 post n x4 x5 M → IR g s M H locs → lv_has ls 8 [(0, .ref (g.2.2.2 0)), (4, .int (i32 x4)), (5, .int (i32 x5))] → W p l e rmX9_gated s m args below meth c H locs 0 0 (QIR below args s g post) (F0 m 142 ls []) := by
  obtain ⟨⟨hx, hb, hml, hown, hts⟩, hr, hlk⟩ := id C
  intro n
  induction n with
  | zero =>
    intro x4 x5 h4 h5 M H locs ls hw
    exact hw.elim
  | succ n ih =>
    intro x4 x5 h4 h5 M H locs ls hw I hl
    refine lv_iload hx hb dX9_gated_142 (lv_at hl 2 rfl) ?_
    refine lv_aload_n hx hb dX9_gated_144 rfl (lv_at hl 0 rfl) ?_
    refine rg_0_1 hx hb hts wu_X9 hown I wf_X9_108 dX9_gated_145 ?_
    have h_1 := I.rng 0 1
    refine li_icmp_ge (tgt := 217) hx hb dX9_gated_148 (by decide) h5 h_1 (fun c_2 => ?_) (fun c_2 => ?_)
    · replace hw := hw.1 c_2
      refine li_iconst hx hb dX9_gated_217 ?_
      refine lv_istore (lv' := [(5, .int (i32 0)), (0, .ref (g.2.2.2 0)), (4, .int (i32 x4))]) hx hb dX9_gated_218 hl (by decide) rfl (fun ls hl => ?_)
      obtain ⟨n1, hw⟩ := hw
      exact bX9_gated_220 C post n1 x4 0 h4 (by decide) _ _ _ _ hw I (lv_sub hl [1, 2, 0] rfl)
    · replace hw := hw.2 c_2
      refine lv_aload_n hx hb dX9_gated_151 rfl (lv_at hl 0 rfl) ?_
      refine lv_bipush (v := i32 10) hx hb dX9_gated_152 (by decide) ?_
      refine lv_aload_n hx hb dX9_gated_154 rfl (lv_at hl 0 rfl) ?_
      refine rg_0_2 hx hb hts wu_X9 hown I wf_X9_7 dX9_gated_155 ?_
      refine lv_iload hx hb dX9_gated_158 (lv_at hl 2 rfl) ?_
      obtain ⟨h_3, hw⟩ := hw
      refine r_iald hx hb I 1 lenR_1 (by decide) h_3 dX9_gated_160 ?_
      have h_4 := I.rng 1 x5
      refine li_iadd hx hb dX9_gated_161 ?_
      refine lv_aload_n hx hb dX9_gated_162 rfl (lv_at hl 0 rfl) ?_
      refine rg_0_3 hx hb hts wu_X9 hown I wf_X9_13 dX9_gated_163 ?_
      refine lv_iload hx hb dX9_gated_166 (lv_at hl 2 rfl) ?_
      obtain ⟨h_5, hw⟩ := hw
      refine r_iald hx hb I 2 lenR_2 (by decide) h_5 dX9_gated_168 ?_
      have h_6 := I.rng 2 x5
      refine lv_ldc (v := i32 1000000000) hx hb hown (hts _ wk_X9_115) dX9_gated_169 ?_
      refine lv_aload_n hx hb dX9_gated_171 rfl (lv_at hl 0 rfl) ?_
      refine rg_0_4 hx hb hts wu_X9 hown I wf_X9_16 dX9_gated_172 ?_
      refine lv_iload hx hb dX9_gated_175 (lv_at hl 2 rfl) ?_
      obtain ⟨h_7, hw⟩ := hw
      refine r_iald hx hb I 3 lenR_3 (by decide) h_7 dX9_gated_177 ?_
      have h_8 := I.rng 3 x5
      obtain ⟨h_9, hw⟩ := hw
      refine g_callVv (o := 0) (As := [.int (i32 (10 + (M 1 x5))), .int (i32 (M 2 x5)), .int (i32 1000000000), .int (i32 (M 3 x5))]) (rest := []) ⟨hx, hb, hml, hown, hts⟩ I (mX9_arc l g (10 + (M 1 x5)) (M 2 x5) 1000000000 (M 3 x5) h_9 h_6 (by decide) h_8 M _ _ hw) (cwV 4 hts (gd_V wm_X9_185 wi_X9_arc wl_X9_arc wn_X9 wc_X9_arc) rfl rfl rfl wd_X9_arc ⟨Nat.le_of_ble_eq_true rfl, Nat.le_of_ble_eq_true rfl⟩) (by omega) (by omega) obR_0 rfl rfl hl.1 rfl (Nat.le_of_ble_eq_true rfl) dX9_gated_178 ⟨Nat.zero_le _, Nat.zero_le _⟩ (fun M178_9 H locs hw I => ?_)
      refine lv_aload_n hx hb dX9_gated_181 rfl (lv_at hl 0 rfl) ?_
      refine lv_bipush (v := i32 10) hx hb dX9_gated_182 (by decide) ?_
      refine lv_aload_n hx hb dX9_gated_184 rfl (lv_at hl 0 rfl) ?_
      refine rg_0_3 hx hb hts wu_X9 hown I wf_X9_13 dX9_gated_185 ?_
      refine lv_iload hx hb dX9_gated_188 (lv_at hl 2 rfl) ?_
      obtain ⟨h_11, hw⟩ := hw
      refine r_iald hx hb I 2 lenR_2 (by decide) h_11 dX9_gated_190 ?_
      have h_12 := I.rng 2 x5
      refine li_iadd hx hb dX9_gated_191 ?_
      refine lv_aload_n hx hb dX9_gated_192 rfl (lv_at hl 0 rfl) ?_
      refine rg_0_2 hx hb hts wu_X9 hown I wf_X9_7 dX9_gated_193 ?_
      refine lv_iload hx hb dX9_gated_196 (lv_at hl 2 rfl) ?_
      obtain ⟨h_13, hw⟩ := hw
      refine r_iald hx hb I 1 lenR_1 (by decide) h_13 dX9_gated_198 ?_
      have h_14 := I.rng 1 x5
      refine lv_ldc (v := i32 1000000000) hx hb hown (hts _ wk_X9_115) dX9_gated_199 ?_
      refine lv_aload_n hx hb dX9_gated_201 rfl (lv_at hl 0 rfl) ?_
      refine rg_0_4 hx hb hts wu_X9 hown I wf_X9_16 dX9_gated_202 ?_
      refine lv_iload hx hb dX9_gated_205 (lv_at hl 2 rfl) ?_
      obtain ⟨h_15, hw⟩ := hw
      refine r_iald hx hb I 3 lenR_3 (by decide) h_15 dX9_gated_207 ?_
      have h_16 := I.rng 3 x5
      obtain ⟨h_17, hw⟩ := hw
      refine g_callVv (o := 0) (As := [.int (i32 (10 + (M178_9 2 x5))), .int (i32 (M178_9 1 x5)), .int (i32 1000000000), .int (i32 (M178_9 3 x5))]) (rest := []) ⟨hx, hb, hml, hown, hts⟩ I (mX9_arc l g (10 + (M178_9 2 x5)) (M178_9 1 x5) 1000000000 (M178_9 3 x5) h_17 h_14 (by decide) h_16 M178_9 _ _ hw) (cwV 4 hts (gd_V wm_X9_185 wi_X9_arc wl_X9_arc wn_X9 wc_X9_arc) rfl rfl rfl wd_X9_arc ⟨Nat.le_of_ble_eq_true rfl, Nat.le_of_ble_eq_true rfl⟩) (by omega) (by omega) obR_0 rfl rfl hl.1 rfl (Nat.le_of_ble_eq_true rfl) dX9_gated_208 ⟨Nat.zero_le _, Nat.zero_le _⟩ (fun M208_17 H locs hw I => ?_)
      refine li_iinc (lv' := [(5, .int (i32 (x5 + 1))), (0, .ref (g.2.2.2 0)), (4, .int (i32 x4))]) hx hb dX9_gated_211 hl (k := 2) rfl (by decide) rfl (fun ls hl => ?_)
      refine lv_goto (tgt := 142) hx hb dX9_gated_214 (by decide) ?_
      obtain ⟨h_19, hw⟩ := hw
      exact ih x4 (x5 + 1) h4 h_19 _ _ _ _ hw I (lv_sub hl [1, 2, 0] rfl)
set_option maxRecDepth 100000 in
set_option maxHeartbeats 4000000 in
theorem bX9_gated_133 {p : Program} {l : Launch} {e : Env} {s : State} {m : MethodId} {args : Array Value} {below : List Frame} {meth : Method} {c : Code} {g : GP} (C : Cx p m c cX9_gated 8 s args lw_g RX9 meth (some .int)) (post : Int → Mem → Prop) (k24 : Int → Int → Int → Int → Mem → Prop) (hk24 : ∀ (x1 x2 x4 x5 : Int), inR x1 → inR x2 → inR x4 → inR x5 → ∀ (M : Mem) (H : Heap) (locs : List Loc) (ls : Array Slot), k24 x1 x2 x4 x5 M → IR g s M H locs → lv_has ls 8 [(0, .ref (g.2.2.2 0)), (1, .int (i32 x1)), (2, .int (i32 x2)), (4, .int (i32 x4)), (5, .int (i32 x5))] → W p l e rmX9_gated s m args below meth c H locs 0 0 (QIR below args s g post) (F0 m 24 ls [])) : ∀ (x1 x2 x4 x5 : Int), inR x1 → inR x2 → inR x4 → inR x5 → ∀ (M : Mem) (H : Heap) (locs : List Loc) (ls : Array Slot), jbX9_gated_133 post k24 x1 x2 x4 x5 M → IR g s M H locs → lv_has ls 8 [(0, .ref (g.2.2.2 0)), (1, .int (i32 x1)), (2, .int (i32 x2)), (4, .int (i32 x4)), (5, .int (i32 x5))] → W p l e rmX9_gated s m args below meth c H locs 0 0 (QIR below args s g post) (F0 m 133 ls []) := by
  obtain ⟨⟨hx, hb, hml, hown, hts⟩, hr, hlk⟩ := id C
  intro x1 x2 x4 x5 h1 h2 h4 h5 M H locs ls hw I hl
  refine li_iinc (lv' := [(5, .int (i32 (x5 + 1))), (0, .ref (g.2.2.2 0)), (1, .int (i32 x1)), (2, .int (i32 x2)), (4, .int (i32 x4))]) hx hb dX9_gated_133 hl (k := 4) rfl (by decide) rfl (fun ls hl => ?_)
  refine lv_goto (tgt := 24) hx hb dX9_gated_136 (by decide) ?_
  obtain ⟨h_1, hw⟩ := hw
  exact hk24 x1 x2 x4 (x5 + 1) h1 h2 h4 h_1 _ _ _ _ hw I (lv_sub hl [1, 2, 3, 4, 0] rfl)
set_option maxRecDepth 100000 in
set_option maxHeartbeats 4000000 in
theorem bX9_gated_91 {p : Program} {l : Launch} {e : Env} {s : State} {m : MethodId} {args : Array Value} {below : List Frame} {meth : Method} {c : Code} {g : GP} (C : Cx p m c cX9_gated 8 s args lw_g RX9 meth (some .int)) (post : Int → Mem → Prop) (k24 : Int → Int → Int → Int → Mem → Prop) (hk24 : ∀ (x1 x2 x4 x5 : Int), inR x1 → inR x2 → inR x4 → inR x5 → ∀ (M : Mem) (H : Heap) (locs : List Loc) (ls : Array Slot), k24 x1 x2 x4 x5 M → IR g s M H locs → lv_has ls 8 [(0, .ref (g.2.2.2 0)), (1, .int (i32 x1)), (2, .int (i32 x2)), (4, .int (i32 x4)), (5, .int (i32 x5))] → W p l e rmX9_gated s m args below meth c H locs 0 0 (QIR below args s g post) (F0 m 24 ls [])) : ∀ (x1 x2 x4 x5 x6 t0 t1 t2 : Int), inR x1 → inR x2 → inR x4 → inR x5 → inR x6 → inR t0 → inR t1 → inR t2 → ∀ (M : Mem) (H : Heap) (locs : List Loc) (ls : Array Slot), jbX9_gated_91 post k24 x1 x2 x4 x5 x6 t0 t1 t2 M → IR g s M H locs → lv_has ls 8 [(0, .ref (g.2.2.2 0)), (1, .int (i32 x1)), (2, .int (i32 x2)), (4, .int (i32 x4)), (5, .int (i32 x5)), (6, .int (i32 x6))] → W p l e rmX9_gated s m args below meth c H locs 0 0 (QIR below args s g post) (F0 m 91 ls [.int (i32 t0), .int (i32 t1), .int (i32 t2), .ref (g.2.2.2 0)]) := by
  obtain ⟨⟨hx, hb, hml, hown, hts⟩, hr, hlk⟩ := id C
  intro x1 x2 x4 x5 x6 t0 t1 t2 h1 h2 h4 h5 h6 ht0 ht1 ht2 M H locs ls hw I hl
  refine li_iconst hx hb dX9_gated_91 ?_
  refine g_callVv (o := 0) (As := [.int (i32 t2), .int (i32 t1), .int (i32 t0), .int (i32 0)]) (rest := []) ⟨hx, hb, hml, hown, hts⟩ I (mX9_arc l g t2 t1 t0 0 ht2 ht1 ht0 (by decide) M _ _ hw) (cwV 4 hts (gd_V wm_X9_185 wi_X9_arc wl_X9_arc wn_X9 wc_X9_arc) rfl rfl rfl wd_X9_arc ⟨Nat.le_of_ble_eq_true rfl, Nat.le_of_ble_eq_true rfl⟩) (by omega) (by omega) obR_0 rfl rfl hl.1 rfl (Nat.le_of_ble_eq_true rfl) dX9_gated_92 ⟨Nat.zero_le _, Nat.zero_le _⟩ (fun M92_0 H locs hw I => ?_)
  refine lv_iload hx hb dX9_gated_95 (lv_at hl 5 rfl) ?_
  refine li_if_le (tgt := 121) hx hb dX9_gated_97 (by decide) h6 (fun c_2 => ?_) (fun c_2 => ?_)
  · replace hw := hw.1 c_2
    refine lv_aload_n hx hb dX9_gated_121 rfl (lv_at hl 0 rfl) ?_
    refine lv_iload hx hb dX9_gated_122 (lv_at hl 4 rfl) ?_
    refine lv_bipush (v := i32 21) hx hb dX9_gated_124 (by decide) ?_
    refine lv_iload hx hb dX9_gated_126 (lv_at hl 5 rfl) ?_
    refine li_ineg hx hb dX9_gated_128 ?_
    refine li_iconst hx hb dX9_gated_129 ?_
    obtain ⟨h_3, hw⟩ := hw
    refine g_callVv (o := 0) (As := [.int (i32 x5), .int (i32 21), .int (i32 (-x6)), .int (i32 0)]) (rest := []) ⟨hx, hb, hml, hown, hts⟩ I (mX9_arc l g x5 21 (-x6) 0 h5 (by decide) h_3 (by decide) M92_0 _ _ hw) (cwV 4 hts (gd_V wm_X9_185 wi_X9_arc wl_X9_arc wn_X9 wc_X9_arc) rfl rfl rfl wd_X9_arc ⟨Nat.le_of_ble_eq_true rfl, Nat.le_of_ble_eq_true rfl⟩) (by omega) (by omega) obR_0 rfl rfl hl.1 rfl (Nat.le_of_ble_eq_true rfl) dX9_gated_130 ⟨Nat.zero_le _, Nat.zero_le _⟩ (fun M130_3 H locs hw I => ?_)
    exact bX9_gated_133 C post k24 hk24 x1 x2 x4 x5 h1 h2 h4 h5 _ _ _ _ hw I (lv_sub hl [0, 1, 2, 3, 4] rfl)
  · replace hw := hw.2 c_2
    refine lv_aload_n hx hb dX9_gated_100 rfl (lv_at hl 0 rfl) ?_
    refine lv_bipush (v := i32 20) hx hb dX9_gated_101 (by decide) ?_
    refine lv_iload hx hb dX9_gated_103 (lv_at hl 4 rfl) ?_
    refine lv_iload hx hb dX9_gated_105 (lv_at hl 5 rfl) ?_
    refine li_iconst hx hb dX9_gated_107 ?_
    refine g_callVv (o := 0) (As := [.int (i32 20), .int (i32 x5), .int (i32 x6), .int (i32 0)]) (rest := []) ⟨hx, hb, hml, hown, hts⟩ I (mX9_arc l g 20 x5 x6 0 (by decide) h5 h6 (by decide) M92_0 _ _ hw) (cwV 4 hts (gd_V wm_X9_185 wi_X9_arc wl_X9_arc wn_X9 wc_X9_arc) rfl rfl rfl wd_X9_arc ⟨Nat.le_of_ble_eq_true rfl, Nat.le_of_ble_eq_true rfl⟩) (by omega) (by omega) obR_0 rfl rfl hl.1 rfl (Nat.le_of_ble_eq_true rfl) dX9_gated_108 ⟨Nat.zero_le _, Nat.zero_le _⟩ (fun M108_4 H locs hw I => ?_)
    refine lv_iload hx hb dX9_gated_111 (lv_at hl 3 rfl) ?_
    refine lv_iload hx hb dX9_gated_113 (lv_at hl 5 rfl) ?_
    refine li_iadd hx hb dX9_gated_115 ?_
    obtain ⟨h_6, hw⟩ := hw
    refine li_name (fun v116_6 ev116_6 => ?_)
    replace hw := hw v116_6 ev116_6
    have hv116_6 : inR v116_6 := ev116_6 ▸ h_6
    refine lv_istore (lv' := [(4, .int (i32 v116_6)), (0, .ref (g.2.2.2 0)), (1, .int (i32 x1)), (2, .int (i32 x2)), (5, .int (i32 x5)), (6, .int (i32 x6))]) hx hb dX9_gated_116 hl (by decide) rfl (fun ls hl => ?_)
    refine lv_goto (tgt := 133) hx hb dX9_gated_118 (by decide) ?_
    exact bX9_gated_133 C post k24 hk24 x1 x2 v116_6 x5 h1 h2 hv116_6 h5 _ _ _ _ hw I (lv_sub hl [1, 2, 3, 0, 4] rfl)
set_option maxRecDepth 100000 in
set_option maxHeartbeats 4000000 in
theorem bX9_gated_24 {p : Program} {l : Launch} {e : Env} {s : State} {m : MethodId} {args : Array Value} {below : List Frame} {meth : Method} {c : Code} {g : GP} (C : Cx p m c cX9_gated 8 s args lw_g RX9 meth (some .int)) (post : Int → Mem → Prop) : ∀ (n : Nat), ∀ (x1 x2 x4 x5 : Int), inR x1 → inR x2 → inR x4 → inR x5 → ∀ (M : Mem) (H : Heap) (locs : List Loc) (ls : Array Slot), lpX9_gated_24 post n x1 x2 x4 x5 M → IR g s M H locs → lv_has ls 8 [(0, .ref (g.2.2.2 0)), (1, .int (i32 x1)), (2, .int (i32 x2)), (4, .int (i32 x4)), (5, .int (i32 x5))] → W p l e rmX9_gated s m args below meth c H locs 0 0 (QIR below args s g post) (F0 m 24 ls []) := by
  obtain ⟨⟨hx, hb, hml, hown, hts⟩, hr, hlk⟩ := id C
  intro n
  induction n with
  | zero =>
    intro x1 x2 x4 x5 h1 h2 h4 h5 M H locs ls hw
    exact hw.elim
  | succ n ih =>
    intro x1 x2 x4 x5 h1 h2 h4 h5 M H locs ls hw I hl
    refine lv_iload hx hb dX9_gated_24 (lv_at hl 4 rfl) ?_
    refine lv_aload_n hx hb dX9_gated_26 rfl (lv_at hl 0 rfl) ?_
    refine rg_0_0 hx hb hts wu_X9 hown I wf_X9_86 dX9_gated_27 ?_
    have h_1 := I.rng 0 0
    refine li_icmp_ge (tgt := 139) hx hb dX9_gated_30 (by decide) h5 h_1 (fun c_2 => ?_) (fun c_2 => ?_)
    · replace hw := hw.1 c_2
      refine li_iconst hx hb dX9_gated_139 ?_
      refine lv_istore (lv' := [(5, .int (i32 0)), (0, .ref (g.2.2.2 0)), (1, .int (i32 x1)), (2, .int (i32 x2)), (4, .int (i32 x4))]) hx hb dX9_gated_140 hl (by decide) rfl (fun ls hl => ?_)
      obtain ⟨n1, hw⟩ := hw
      exact bX9_gated_142 C post n1 x4 0 h4 (by decide) _ _ _ _ hw I (lv_sub hl [1, 4, 0] rfl)
    · replace hw := hw.2 c_2
      refine lv_aload_n hx hb dX9_gated_33 rfl (lv_at hl 0 rfl) ?_
      refine rg_0_6 hx hb hts wu_X9 hown I wf_X9_19 dX9_gated_34 ?_
      refine lv_bipush (v := i32 10) hx hb dX9_gated_37 (by decide) ?_
      refine lv_iload_n hx hb dX9_gated_39 rfl (lv_at hl 1 rfl) ?_
      refine li_imul hx hb dX9_gated_40 ?_
      refine lv_iload hx hb dX9_gated_41 (lv_at hl 4 rfl) ?_
      refine li_iadd hx hb dX9_gated_43 ?_
      obtain ⟨h_3, hw⟩ := hw
      refine r_iald hx hb I 4 lenR_4 (by decide) h_3 dX9_gated_44 ?_
      have h_4 := I.rng 4 ((10 * x1) + x5)
      refine lv_aload_n hx hb dX9_gated_45 rfl (lv_at hl 0 rfl) ?_
      refine rg_0_6 hx hb hts wu_X9 hown I wf_X9_19 dX9_gated_46 ?_
      refine lv_bipush (v := i32 10) hx hb dX9_gated_49 (by decide) ?_
      refine lv_iload_n hx hb dX9_gated_51 rfl (lv_at hl 2 rfl) ?_
      refine li_imul hx hb dX9_gated_52 ?_
      refine lv_iload hx hb dX9_gated_53 (lv_at hl 4 rfl) ?_
      refine li_iadd hx hb dX9_gated_55 ?_
      obtain ⟨h_5, hw⟩ := hw
      refine r_iald hx hb I 4 lenR_4 (by decide) h_5 dX9_gated_56 ?_
      have h_6 := I.rng 4 ((10 * x2) + x5)
      refine li_isub hx hb dX9_gated_57 ?_
      obtain ⟨h_7, hw⟩ := hw
      refine li_name (fun v58_7 ev58_7 => ?_)
      replace hw := hw v58_7 ev58_7
      have hv58_7 : inR v58_7 := ev58_7 ▸ h_7
      refine lv_istore (lv' := [(6, .int (i32 v58_7)), (0, .ref (g.2.2.2 0)), (1, .int (i32 x1)), (2, .int (i32 x2)), (4, .int (i32 x4)), (5, .int (i32 x5))]) hx hb dX9_gated_58 hl (by decide) rfl (fun ls hl => ?_)
      refine lv_aload_n hx hb dX9_gated_60 rfl (lv_at hl 1 rfl) ?_
      refine lv_iload hx hb dX9_gated_61 (lv_at hl 5 rfl) ?_
      refine lv_bipush (v := i32 10) hx hb dX9_gated_63 (by decide) ?_
      refine lv_iload hx hb dX9_gated_65 (lv_at hl 5 rfl) ?_
      refine li_iadd hx hb dX9_gated_67 ?_
      refine lv_aload_n hx hb dX9_gated_68 rfl (lv_at hl 1 rfl) ?_
      refine rg_0_7 hx hb hts wu_X9 hown I wf_X9_22 dX9_gated_69 ?_
      refine lv_iload hx hb dX9_gated_72 (lv_at hl 5 rfl) ?_
      obtain ⟨h_9, hw⟩ := hw
      refine r_iald hx hb I 5 lenR_5 (by decide) h_9 dX9_gated_74 ?_
      have h_10 := I.rng 5 x5
      refine li_iconst hx hb dX9_gated_75 ?_
      refine li_icmp_ne (tgt := 84) hx hb dX9_gated_76 (by decide) h_10 (by decide) (fun c_11 => ?_) (fun c_11 => ?_)
      · replace hw := hw.1 c_11
        refine lv_aload_n hx hb dX9_gated_84 rfl (lv_at hl 1 rfl) ?_
        refine rg_0_7 hx hb hts wu_X9 hown I wf_X9_22 dX9_gated_85 ?_
        refine lv_iload hx hb dX9_gated_88 (lv_at hl 5 rfl) ?_
        obtain ⟨h_12, hw⟩ := hw
        refine r_iald hx hb I 5 lenR_5 (by decide) h_12 dX9_gated_90 ?_
        have h_13 := I.rng 5 x5
        obtain ⟨h_14, hw⟩ := hw
        exact bX9_gated_91 C post (fun y1 y2 y4 y5 N => lpX9_gated_24 post n y1 y2 y4 y5 N) ih x1 x2 x4 x5 v58_7 (M 5 x5) (10 + x5) x5 h1 h2 h4 h5 hv58_7 h_13 h_14 h5 _ _ _ _ hw I (lv_sub hl [1, 2, 3, 4, 5, 0] rfl)
      · replace hw := hw.2 c_11
        refine lv_ldc (v := i32 1000000000) hx hb hown (hts _ wk_X9_115) dX9_gated_79 ?_
        refine lv_goto (tgt := 91) hx hb dX9_gated_81 (by decide) ?_
        obtain ⟨h_15, hw⟩ := hw
        exact bX9_gated_91 C post (fun y1 y2 y4 y5 N => lpX9_gated_24 post n y1 y2 y4 y5 N) ih x1 x2 x4 x5 v58_7 1000000000 (10 + x5) x5 h1 h2 h4 h5 hv58_7 (by decide) h_15 h5 _ _ _ _ hw I (lv_sub hl [1, 2, 3, 4, 5, 0] rfl)
set_option maxRecDepth 100000 in
set_option maxHeartbeats 4000000 in
theorem mX9_gated (l : Launch) (g : GP) (a1 a2 : Int) (ha1 : inR a1) (ha2 : inR a2) (M : Mem) (post : Int → Mem → Prop) (sz : Nat) (hw : wpX9_gated a1 a2 M post) : MIR l yX9_gated wtX9_gated rmX9_gated g [.ref (g.2.2.2 0), .int (i32 a1), .int (i32 a2)] M sz post := by
  refine Met.ofW (cc := cX9_gated) (maxL := 8) (ret := (some .int)) (by decide) rfl ?_
  intro p e s m args below meth c s₁ B hml hv
  obtain ⟨rfl, hpre⟩ := hv
  have hsz := hpre.1
  subst hsz
  have C : Cx p m c cX9_gated 8 s _ lw_g RX9 meth (some .int) := ⟨⟨B.exec, B.bytes, hml, findClass_of_methodNamed B.named, fun w h => atoms_spec (ws := wtX9_gated) B.pre w (List.mem_cons_of_mem _ h)⟩, B.returns, B.notSynchronized⟩
  obtain ⟨⟨hx, hb, hml, hown, hts⟩, hr, hlk⟩ := id C
  have I := InG.start hpre
  have hl := lv_entry ([.ref (g.2.2.2 0), .int (i32 a1), .int (i32 a2)]) (n := 8) (Nat.le_of_ble_eq_true rfl)
  rw [lg_entry_eq]
  generalize (lg_sl ([.ref (g.2.2.2 0), .int (i32 a1), .int (i32 a2)]) ++ List.replicate (8 - (lg_sl ([.ref (g.2.2.2 0), .int (i32 a1), .int (i32 a2)])).length) Slot.unset).toArray = ls at hl ⊢
  have hl : lv_has ls 8 [(0, .ref (g.2.2.2 0)), (1, .int (i32 a1)), (2, .int (i32 a2))] := hl
  show W p l e rmX9_gated s m _ below meth c s.heap [] 0 0 (QIR below _ s g post) _
  refine lv_aload_n hx hb dX9_gated_0 rfl (lv_at hl 0 rfl) ?_
  refine lv_iload_n hx hb dX9_gated_1 rfl (lv_at hl 1 rfl) ?_
  refine lv_iload_n hx hb dX9_gated_2 rfl (lv_at hl 2 rfl) ?_
  refine g_callVi (o := 0) (As := [.int (i32 a1), .int (i32 a2)]) (rest := []) ⟨hx, hb, hml, hown, hts⟩ I (mX9_against l g a1 a2 ha1 ha2 M _ _ hw) (cwV 2 hts (gd_V wm_X9_146 wi_X9_against wl_X9_against wn_X9 wc_X9_against) rfl rfl rfl wd_X9_against ⟨Nat.le_of_ble_eq_true rfl, Nat.le_of_ble_eq_true rfl⟩) (by omega) (by omega) obR_0 rfl rfl hl.1 rfl (Nat.le_of_ble_eq_true rfl) dX9_gated_3 ⟨Nat.zero_le _, Nat.zero_le _⟩ (fun r3_0 M3_0 H locs hr3_0 hw I => ?_)
  refine lv_istore_n (lv' := [(3, .int (i32 r3_0)), (0, .ref (g.2.2.2 0)), (1, .int (i32 a1)), (2, .int (i32 a2))]) hx hb dX9_gated_6 rfl hl (by decide) rfl (fun ls hl => ?_)
  refine lv_iload_n hx hb dX9_gated_7 rfl (lv_at hl 0 rfl) ?_
  refine li_if_eq (tgt := 13) hx hb dX9_gated_8 (by decide) hr3_0 (fun c_2 => ?_) (fun c_2 => ?_)
  · replace hw := hw.1 c_2
    refine lv_aload_n hx hb dX9_gated_13 rfl (lv_at hl 1 rfl) ?_
    refine li_iconst hx hb dX9_gated_14 ?_
    refine rp_0_24 hx hb hts wu_X9 hown I wf_X9_182 (by decide) dX9_gated_15 (fun H locs M15_2 eM15_2 I => ?_)
    replace hw := hw M15_2 eM15_2
    refine li_iconst hx hb dX9_gated_18 ?_
    refine lv_istore (lv' := [(4, .int (i32 0)), (3, .int (i32 r3_0)), (0, .ref (g.2.2.2 0)), (1, .int (i32 a1)), (2, .int (i32 a2))]) hx hb dX9_gated_19 hl (by decide) rfl (fun ls hl => ?_)
    refine li_iconst hx hb dX9_gated_21 ?_
    refine lv_istore (lv' := [(5, .int (i32 0)), (4, .int (i32 0)), (3, .int (i32 r3_0)), (0, .ref (g.2.2.2 0)), (1, .int (i32 a1)), (2, .int (i32 a2))]) hx hb dX9_gated_22 hl (by decide) rfl (fun ls hl => ?_)
    obtain ⟨n1, hw⟩ := hw
    exact bX9_gated_24 C post n1 a1 a2 0 0 ha1 ha2 (by decide) (by decide) _ _ _ _ hw I (lv_sub hl [3, 4, 5, 1, 0] rfl)
  · replace hw := hw.2 c_2
    refine lv_iload_n hx hb dX9_gated_11 rfl (lv_at hl 0 rfl) ?_
    exact g_iret hx hb hr hlk I hr3_0 hw dX9_gated_12
