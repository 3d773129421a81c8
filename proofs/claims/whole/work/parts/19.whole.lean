theorem va_P_left {D : va_G} {cl : List vw_C} {a b : va_W} {H : Heap} (h : va_P D cl (a ++ b) H) : va_P D cl a H := fun k q hk => h k q (by rw [List.getElem?_append_left (List.getElem?_eq_some_iff.mp hk).1]; exact hk)
theorem va_P_right {D : va_G} {cl : List vw_C} {a b : va_W} {H : Heap} (h : va_P D cl (a ++ b) H) : va_P D cl b H := fun k q hk => h (a.length + k) q (by rw [List.getElem?_append_right (by omega), show a.length + k - a.length = k by omega]; exact hk)
theorem va_D_left {A : Nat → Prop} {a b : va_W} (h : va_D A (a ++ b)) : va_D A a := by
  have up : ∀ (k : Nat) (q : Nat × va_E), a[k]? = some q → (a ++ b)[k]? = some q := fun k q hk => by rw [List.getElem?_append_left (List.getElem?_eq_some_iff.mp hk).1]; exact hk
  exact ⟨fun i j x y hi hj e => h.1 i j x y (up i x hi) (up j y hj) e, fun k q hk => h.2 k q (up k q hk)⟩
theorem va_D_right {A : Nat → Prop} {a b : va_W} (h : va_D A (a ++ b)) : va_D A b := by
  have up : ∀ (k : Nat) (q : Nat × va_E), b[k]? = some q → (a ++ b)[a.length + k]? = some q := fun k q hk => by rw [List.getElem?_append_right (by omega), show a.length + k - a.length = k by omega]; exact hk
  exact ⟨fun i j x y hi hj e => by have := h.1 _ _ x y (up i x hi) (up j y hj) e; omega, fun k q hk => h.2 _ q (up k q hk)⟩
theorem va_D_apart {A : Nat → Prop} {a b : va_W} (h : va_D A (a ++ b)) {i j : Nat} {x y : Nat × va_E} (hi : a[i]? = some x) (hj : b[j]? = some y) : x.1 ≠ y.1 := fun e => by
  have hl := (List.getElem?_eq_some_iff.mp hi).1
  have h1 : (a ++ b)[i]? = some x := by rw [List.getElem?_append_left hl]; exact hi
  have h2 : (a ++ b)[a.length + j]? = some y := by rw [List.getElem?_append_right (by omega), show a.length + j - a.length = j by omega]; exact hj
  have := h.1 _ _ x y h1 h2 e
  omega
theorem map_some_get {w ws : va_W} {is : List Nat} (hs : is.map (fun i => ws[i]?) = w.map some) {k : Nat} {q : Nat × va_E} (hk : w[k]? = some q) : ∃ i : Nat, is[k]? = some i ∧ ws[i]? = some q := by
  have h1 : (is.map (fun i => ws[i]?))[k]? = some (some q) := by rw [hs, List.getElem?_map, hk]; rfl
  rw [List.getElem?_map] at h1
  cases hi : is[k]? with
  | none => rw [hi] at h1; cases h1
  | some i => rw [hi] at h1; exact ⟨i, rfl, Option.some.inj h1⟩
theorem lw_make {s : State} {dC : Nat → ClassId} {dI : Nat → Nat → Nat} {cI cG cZ : ClassId} {qx qr : Nat} {ux : SX8} {ur : SX9} {H : Heap} {locs : List Loc} (hK : va_K (dC, dI) vwCl [(cI, .int), (cG, .array .int), (cZ, .boolean)] s) (hP : va_P (dC, dI) vwCl (fwX cI cG qx ux ++ cwX9 cI cG cZ qr ur) H) (hD : va_D (fun q : Nat => s.heap.size ≤ q) (fwX cI cG qx ux ++ cwX9 cI cG cZ qr ur)) (hS : va_S (fun q : Nat => s.heap.size ≤ q) s.heap H locs) : LwIn ((dC, dI), cI, cG, adX qx ux) ((dC, dI), cI, cZ, adR qr ur) s M0X M0R H locs := by
  have hg := gwX0 (dC, dI) cI cG qx ux
  have hr := gwR0 (dC, dI) cI cG cZ qr ur
  have hPx := va_P_left hP
  have hDx := va_D_left hD
  refine ⟨hK.sub (tys' := [(cI, .int), (cG, .array .int)]) [0, 1] rfl, hK.sub (tys' := [(cI, .int), (cZ, .boolean)]) [0, 2] rfl, fun k q hk => ?_, ?_, hDx.sub _ (by decide) hg, ?_, fun i j hi hj e => ?_, hS, M0X_R, M0R_R⟩
  · obtain ⟨i, -, h2⟩ := map_some_get hg hk
    exact hPx i q h2
  · rw [hr]
    exact va_P_right hP
  · rw [hr]
    exact va_D_right hD
  · obtain ⟨i2, -, h2⟩ := map_some_get hg (gw_get (N := 88) (ad := adX qx ux) (cell := cellX ((dC, dI), cI, cG, adX qx ux)) (M := M0X) hi)
    have h3 := gw_get (N := 26) (ad := adR qr ur) (cell := cellR ((dC, dI), cI, cZ, adR qr ur)) (M := M0R) hj
    rw [hr] at h3
    exact va_D_apart hD h2 h3 e
set_option maxHeartbeats 8000000 in
set_option maxRecDepth 100000 in
theorem whole_start_open {p : Program} {e : Env} {s : State} {m : MethodId} {below : List Frame} {meth : Method} {c : Code} (l : Launch) {b L : Nat} {xs : Nat → Int32} (hL : L ≤ 2560) (C0 : lw_At p s m meth c b L xs) {Inv : Mem → Mem → Prop} (h0 : Inv M0X M0R) (h_place : St_place Inv) (h_road : St_road Inv) (h_heap : St_heap Inv) (h_set : St_set Inv) (h_gate : St_gate Inv) (h_undo : St_undo Inv) (h_apart : St_apart Inv) (h_next : St_next Inv) (h_amount : St_amount Inv) (h_sum : St_sum Inv) (h_least : St_least Inv) (h_plan : St_plan Inv) (h_alone : St_alone Inv) (h_height : St_height Inv) (h_load : St_load Inv) (h_far : St_far Inv) (h_shown : St_shown Inv) (h_some : St_some Inv) (h_gated : St_gated Inv) (h_draft : St_draft Inv) (h_clear : St_clear Inv) (h_copy : St_copy Inv) (h_judge : St_judge Inv) (h_beside : St_beside Inv) (h_count : St_count Inv) : W p l e room_1 s m #[Value.ref b] below meth c s.heap [] 0 0 (lw_Z below #[Value.ref b] s) (entryFrame m ([Value.ref b] : List Value).toArray 4) := by
  obtain ⟨hx, hb, hr, hml, hown, hts0, hX, hbl, hlocks, hgv⟩ := id C0
  have hts : ∀ w ∈ lw_g, w.before #[Value.ref b] s = true := fun w h => hts0 w (List.mem_filter.mp h).1
  have hA : ∀ q : Nat, s.heap.size ≤ q → (fun q : Nat => s.heap.size ≤ q) q := fun _ h => h
  obtain ⟨c0, iS0, hKn0⟩ := u_known (C := RX0) (T := TX0) (N := 6) (n := 6) hts wu_X0 (hts _ wb_X0)
  obtain ⟨c1, iS1, hKn1⟩ := u_known (C := RX1) (T := TX1) (N := 1) (n := 1) hts wu_X1 (hts _ wb_X1)
  obtain ⟨c2, iS2, hKn2⟩ := u_known (C := RX2) (T := TX2) (N := 2) (n := 2) hts wu_X2 (hts _ wb_X2)
  obtain ⟨c3, iS3, hKn3⟩ := u_known (C := RX3) (T := TX3) (N := 8) (n := 8) hts wu_X3 (hts _ wb_X3)
  obtain ⟨c4, iS4, hKn4⟩ := u_known (C := RX4) (T := TX4) (N := 1) (n := 1) hts wu_X4 (hts _ wb_X4)
  obtain ⟨c5, iS5, hKn5⟩ := u_known (C := RX5) (T := TX5) (N := 9) (n := 9) hts wu_X5 (hts _ wb_X5)
  obtain ⟨c6, iS6, hKn6⟩ := u_known (C := RX6) (T := TX6) (N := 5) (n := 5) hts wu_X6 (hts _ wb_X6)
  obtain ⟨c7, iS7, hKn7⟩ := u_known (C := RX7) (T := TX7) (N := 3) (n := 3) hts wu_X7 (hts _ wb_X7)
  obtain ⟨c8, iS8, hKn8⟩ := u_known (C := RX8) (T := TX8) (N := 12) (n := 12) hts wu_X8 (hts _ wb_X8)
  obtain ⟨c9, iS9, hKn9⟩ := u_known (C := RX9) (T := TX9) (N := 31) (n := 31) hts wu_X9 (hts _ wb_X9)
  obtain ⟨dC, dI, hKc⟩ : ∃ (dC : Nat → ClassId) (dI : Nat → Nat → Nat), ∀ (k : Nat) (q : vw_C), vwCl[k]? = some q → u_Kn s q.1 q.2.1 q.2.2 (dC k) (dI k) := by
    refine ⟨fun k => if k = 0 then c0 else if k = 1 then c1 else if k = 2 then c2 else if k = 3 then c3 else if k = 4 then c4 else if k = 5 then c5 else if k = 6 then c6 else if k = 7 then c7 else if k = 8 then c8 else c9, fun k => if k = 0 then iS0 else if k = 1 then iS1 else if k = 2 then iS2 else if k = 3 then iS3 else if k = 4 then iS4 else if k = 5 then iS5 else if k = 6 then iS6 else if k = 7 then iS7 else if k = 8 then iS8 else iS9, ?_⟩
    intro k q hq
    match k, hq with
    | 0, hq => cases hq; exact hKn0
    | 1, hq => cases hq; exact hKn1
    | 2, hq => cases hq; exact hKn2
    | 3, hq => cases hq; exact hKn3
    | 4, hq => cases hq; exact hKn4
    | 5, hq => cases hq; exact hKn5
    | 6, hq => cases hq; exact hKn6
    | 7, hq => cases hq; exact hKn7
    | 8, hq => cases hq; exact hKn8
    | 9, hq => cases hq; exact hKn9
    | k + 10, hq => simp [vwCl] at hq
  obtain ⟨cI, kI, compI, a1, a2, a3⟩ := Cond.arrayClass_spec (hts _ wy_int)
  obtain ⟨cZ, kZ, compZ, z1, z2, z3⟩ := Cond.arrayClass_spec (hts _ wy_boolean)
  obtain ⟨compG, cG, kG, b0, b1, b2, b3⟩ := Cond.arrayOver_specA (hts0 _ wo_int)
  have hK : va_K (dC, dI) vwCl [(cI, .int), (cG, .array .int), (cZ, .boolean)] s := by
    refine ⟨hKc, fun k q hq => ?_⟩
    match k, hq with
    | 0, hq => cases hq; exact ⟨fun n z => ⟨fun k h => (by cases h), kI, a2, compI, a3⟩, a1⟩
    | 1, hq => cases hq; exact ⟨fun n z => ⟨fun k h => (by cases h), kG, b1, compG, b2⟩, b3⟩
    | 2, hq => cases hq; exact ⟨fun n z => ⟨fun k h => (by cases h), kZ, z2, compZ, z3⟩, z1⟩
    | k + 3, hq => simp at hq
  have hO : va_AOA .int s := hts0 _ wo_int
  have hNX4_11 : va_Nw (.methodLinkNest RX4 11 yX5_init "HeapMover") s := va_Nw.of rfl (hts0 _ wt_X4_11)
  have hNX7_17 : va_Nw (.methodLinkNest RX7 17 yX5_init "HeapMover") s := va_Nw.of rfl (hts0 _ wt_X7_17)
  have hNX8_18 : va_Nw (.methodLinkNest RX8 18 yX2_init "HeapMover") s := va_Nw.of rfl (hts0 _ wt_X8_18)
  have hNX8_25 : va_Nw (.methodLinkNest RX8 25 yX0_init "HeapMover") s := va_Nw.of rfl (hts0 _ wt_X8_25)
  have hNX8_32 : va_Nw (.methodLinkNest RX8 32 yX1_init "HeapMover") s := va_Nw.of rfl (hts0 _ wt_X8_32)
  have hNX8_39 : va_Nw (.methodLinkNest RX8 39 yX4_init "HeapMover") s := va_Nw.of rfl (hts0 _ wt_X8_39)
  have hNX8_46 : va_Nw (.methodLinkNest RX8 46 yX6_init "HeapMover") s := va_Nw.of rfl (hts0 _ wt_X8_46)
  have hNX8_53 : va_Nw (.methodLinkNest RX8 53 yX7_init "HeapMover") s := va_Nw.of rfl (hts0 _ wt_X8_53)
  have hS : va_S (fun q : Nat => s.heap.size ≤ q) s.heap s.heap [] := va_S.rf
  have hP : va_P (dC, dI) vwCl [] s.heap := fun k q h => by simp at h
  have hD : va_D (fun q : Nat => s.heap.size ≤ q) [] := ⟨fun i j p q h => by simp at h, fun k q h => by simp at h⟩
  have hl := lv_entry ([.ref b]) (n := 4) (Nat.le_of_ble_eq_true rfl)
  rw [lg_entry_eq]
  generalize (lg_sl ([.ref b]) ++ List.replicate (4 - (lg_sl ([.ref b])).length) Slot.unset).toArray = ls at hl ⊢
  have hl : lv_has ls 4 [(0, .ref b)] := hl
  refine va_new (ci := 8) (fs := [.null, .null, .null, .null, .null, .null, .null, .int 0, .int 0, .int 0, .int 0, .int 0]) (C := RX8) (T := TX8) (N := 12) hx hb hts wu_X8 tyX8 tyX8_ok hown (hts _ wq_L_7) (hts _ wb_X8) (hts _ wn_X8) hK hP hD hS hA rfl (fun j hj => by have h9 : j < 12 := hj; revert j; decide) (Nat.le_of_ble_eq_true rfl) (Nat.le_of_ble_eq_true rfl) dL_law_0 (fun qx H hP hD hS => ?_)
  refine W.widen (k := 1) (n := 12) (Nat.le_of_ble_eq_true rfl) (Nat.le_of_ble_eq_true rfl) ?_
  have hP : va_P (dC, dI) vwCl (([] : va_W) ++ ([(qx, .inr (8, [.null, .null, .null, .null, .null, .null, .null, .int 0, .int 0, .int 0, .int 0, .int 0]))] : va_W)) H := hP
  have hD : va_D (fun q : Nat => s.heap.size ≤ q) (([] : va_W) ++ ([(qx, .inr (8, [.null, .null, .null, .null, .null, .null, .null, .int 0, .int 0, .int 0, .int 0, .int 0]))] : va_W)) := hD
  refine lv_dup hx hb dL_law_3 rfl ?_
  have hPc : va_P (dC, dI) vwCl [(qx, .inr (8, [.null, .null, .null, .null, .null, .null, .null, .int 0, .int 0, .int 0, .int 0, .int 0]))] H := c_lastP (ws := ([] : va_W)) hP
  have hDc : va_D (fun q : Nat => s.heap.size ≤ q) [(qx, .inr (8, [.null, .null, .null, .null, .null, .null, .null, .int 0, .int 0, .int 0, .int 0, .int 0]))] := c_lastD (ws := ([] : va_W)) hD
  have hFc : ∀ x, va_A [(qx, .inr (8, [.null, .null, .null, .null, .null, .null, .null, .int 0, .int 0, .int 0, .int 0, .int 0]))] H.size x → s.heap.size ≤ x := c_free hDc hS hA
  refine va_callv (va_runI (As := []) (rest := [.ref qx]) ⟨hx, hb, hml, hown, hts⟩ (mX8_init l dC dI cI cG cZ qx H.size) (cwI 0 hts (gd_s wc_X8_init) rfl rfl rfl (hts _ wn_X8) (hts _ wm_L_9) (hts _ wi_X8_init) rfl wd_X8_init ⟨Nat.le_of_ble_eq_true rfl, Nat.le_of_ble_eq_true rfl⟩) ⟨fun a U g mk q => by obtain ⟨q0, q1, qP, qK, qD, q5, q6, q7, q8, q9, q10, q11, q12, q13⟩ := q; exact ⟨q0, q1, qP, va_K.moved (u := U) (U := U.calling g mk a) (Vm.Alike.refl U.vm) qK, qD, va_AOA.moved (u := U) (U := U.calling g mk a) (Vm.Alike.refl U.vm) q5, va_Nw.same (u := U) (U := U.calling g mk a) rfl rfl q6, va_Nw.same (u := U) (U := U.calling g mk a) rfl rfl q7, va_Nw.same (u := U) (U := U.calling g mk a) rfl rfl q8, va_Nw.same (u := U) (U := U.calling g mk a) rfl rfl q9, va_Nw.same (u := U) (U := U.calling g mk a) rfl rfl q10, va_Nw.same (u := U) (U := U.calling g mk a) rfl rfl q11, va_Nw.same (u := U) (U := U.calling g mk a) rfl rfl q12, va_Nw.same (u := U) (U := U.calling g mk a) rfl rfl q13⟩, fun U hU hW => ⟨rfl, by rw [hU], by rw [hU]; exact hPc, va_K.moved hW.alike hK, hDc.weaken (fun _ _ _ _ => trivial), va_AOA.warm hW hO, va_Nw.warmM hW hNX4_11, va_Nw.warmM hW hNX7_17, va_Nw.warmM hW hNX8_18, va_Nw.warmM hW hNX8_25, va_Nw.warmM hW hNX8_32, va_Nw.warmM hW hNX8_39, va_Nw.warmM hW hNX8_46, va_Nw.warmM hW hNX8_53⟩⟩ rfl rfl hl.1 rfl (lv_room (Nat.le_of_ble_eq_true rfl)) dL_law_4 ⟨Nat.le_of_ble_eq_true rfl, Nat.le_of_ble_eq_true rfl⟩) hS (fun q _ h => hFc q h) hFc (fun ux t H1 locs ht hvm hw hB hz1 hk1 hS => ?_)
  obtain ⟨hP1, hK1, hD1⟩ := hB
  rw [ht] at hP1
  obtain ⟨hP, hD⟩ := c_join (ws := ([] : va_W)) hP hD hk1 hFc hP1 hD1
  generalize H1 = H at hP hS ⊢
  refine W.widen (k := 88) (n := 2862) (Nat.le_of_ble_eq_true rfl) (Nat.le_of_ble_eq_true rfl) ?_
  refine lv_astore_n (lv' := [(1, .ref qx), (0, .ref b)]) hx hb dL_law_7 rfl hl (by decide) rfl (fun ls hl => ?_)
  have hP : va_P (dC, dI) vwCl (fwX cI cG qx ux) H := by rw [← cwX8_flat cI cG cZ]; exact hP
  have hD : va_D (fun q : Nat => s.heap.size ≤ q) (fwX cI cG qx ux) := by rw [← cwX8_flat cI cG cZ]; exact hD
  refine va_new (ci := 9) (fs := [.int 0, .int 0, .null, .null, .null, .int 0, .null, .null, .null, .int 0, .int 0, .null, .null, .null, .null, .null, .null, .null, .null, .null, .null, .null, .null, .null, .int 0, .null, .null, .null, .null, .null, .null]) (C := RX9) (T := TX9) (N := 31) hx hb hts wu_X9 tyX9 tyX9_ok hown (hts _ wq_L_10) (hts _ wb_X9) (hts _ wn_X9) hK hP hD hS hA rfl (fun j hj => by have h9 : j < 31 := hj; revert j; decide) (Nat.le_of_ble_eq_true rfl) (Nat.le_of_ble_eq_true rfl) dL_law_8 (fun qr H hP hD hS => ?_)
  refine W.widen (k := 89) (n := 2893) (Nat.le_of_ble_eq_true rfl) (Nat.le_of_ble_eq_true rfl) ?_
  have hP : va_P (dC, dI) vwCl ((fwX cI cG qx ux) ++ ([(qr, .inr (9, [.int 0, .int 0, .null, .null, .null, .int 0, .null, .null, .null, .int 0, .int 0, .null, .null, .null, .null, .null, .null, .null, .null, .null, .null, .null, .null, .null, .int 0, .null, .null, .null, .null, .null, .null]))] : va_W)) H := hP
  have hD : va_D (fun q : Nat => s.heap.size ≤ q) ((fwX cI cG qx ux) ++ ([(qr, .inr (9, [.int 0, .int 0, .null, .null, .null, .int 0, .null, .null, .null, .int 0, .int 0, .null, .null, .null, .null, .null, .null, .null, .null, .null, .null, .null, .null, .null, .int 0, .null, .null, .null, .null, .null, .null]))] : va_W)) := hD
  refine lv_dup hx hb dL_law_11 rfl ?_
  have hPc : va_P (dC, dI) vwCl [(qr, .inr (9, [.int 0, .int 0, .null, .null, .null, .int 0, .null, .null, .null, .int 0, .int 0, .null, .null, .null, .null, .null, .null, .null, .null, .null, .null, .null, .null, .null, .int 0, .null, .null, .null, .null, .null, .null]))] H := c_lastP (ws := (fwX cI cG qx ux)) hP
  have hDc : va_D (fun q : Nat => s.heap.size ≤ q) [(qr, .inr (9, [.int 0, .int 0, .null, .null, .null, .int 0, .null, .null, .null, .int 0, .int 0, .null, .null, .null, .null, .null, .null, .null, .null, .null, .null, .null, .null, .null, .int 0, .null, .null, .null, .null, .null, .null]))] := c_lastD (ws := (fwX cI cG qx ux)) hD
  have hFc : ∀ x, va_A [(qr, .inr (9, [.int 0, .int 0, .null, .null, .null, .int 0, .null, .null, .null, .int 0, .int 0, .null, .null, .null, .null, .null, .null, .null, .null, .null, .null, .null, .null, .null, .int 0, .null, .null, .null, .null, .null, .null]))] H.size x → s.heap.size ≤ x := c_free hDc hS hA
  refine va_callv (va_runI (As := []) (rest := [.ref qr]) ⟨hx, hb, hml, hown, hts⟩ (mX9_init l dC dI cI cG cZ qr H.size) (cwI 0 hts (gd_s wc_X9_init) rfl rfl rfl (hts _ wn_X9) (hts _ wm_L_12) (hts _ wi_X9_init) rfl wd_X9_init ⟨Nat.le_of_ble_eq_true rfl, Nat.le_of_ble_eq_true rfl⟩) ⟨fun a U g mk q => by obtain ⟨q0, q1, qP, qK, qD⟩ := q; exact ⟨q0, q1, qP, va_K.moved (u := U) (U := U.calling g mk a) (Vm.Alike.refl U.vm) qK, qD⟩, fun U hU hW => ⟨rfl, by rw [hU], by rw [hU]; exact hPc, va_K.moved hW.alike hK, hDc.weaken (fun _ _ _ _ => trivial)⟩⟩ rfl rfl hl.1 rfl (lv_room (Nat.le_of_ble_eq_true rfl)) dL_law_12 ⟨Nat.le_of_ble_eq_true rfl, Nat.le_of_ble_eq_true rfl⟩) hS (fun q _ h => hFc q h) hFc (fun ur t H1 locs ht hvm hw hB hz1 hk1 hS => ?_)
  obtain ⟨hP1, hK1, hD1⟩ := hB
  rw [ht] at hP1
  obtain ⟨hP, hD⟩ := c_join (ws := (fwX cI cG qx ux)) hP hD hk1 hFc hP1 hD1
  generalize H1 = H at hP hS ⊢
  refine W.widen (k := 114) (n := 4517) (Nat.le_of_ble_eq_true rfl) (Nat.le_of_ble_eq_true rfl) ?_
  refine lv_astore_n (lv' := [(2, .ref qr), (1, .ref qx), (0, .ref b)]) hx hb dL_law_15 rfl hl (by decide) rfl (fun ls hl => ?_)
  refine li_iconst hx hb dL_law_16 ?_
  refine lv_istore_n (lv' := [(3, .int (i32 0)), (2, .ref qr), (1, .ref qx), (0, .ref b)]) hx hb dL_law_17 rfl hl (by decide) rfl (fun ls hl => ?_)
  have I : LwIn ((dC, dI), cI, cG, adX qx ux) ((dC, dI), cI, cZ, adR qr ur) s M0X M0R H locs := lw_make hK hP hD hS
  exact law_loop_open (g := ((dC, dI), cI, cG, adX qx ux)) (g2 := ((dC, dI), cI, cZ, adR qr ur)) hL C0 h_place h_road h_heap h_set h_gate h_undo h_apart h_next h_amount h_sum h_least h_plan h_alone h_height h_load h_far h_shown h_some h_gated h_draft h_clear h_copy h_judge h_beside h_count (L + 1) 0 (by decide) (by omega) (by omega) M0X M0R H _ ls h0 I (lv_sub hl [3, 2, 1, 0] rfl)
