/-! the calls that ask of a plan -/
theorem X8_refAt {a b u v : Int} {M : Mem} {post : Int → Mem → Prop} (B : BsX M) (h2 : ¬ ((hpX M a ∧ hpX M b) ∧ plX M u ∧ plX M v) → post (-2) M) (h4 : hpX M a → hpX M b → plX M u → plX M v → ¬ (JnX M ∧ smX M a b) → post (-4) M) (h0 : hpX M a → hpX M b → plX M u → plX M v → JnX M → smX M a b → post 0 M) : wpX8_refusalAtPlaces a b u v M post := by
  unfold wpX8_refusalAtPlaces jbX8_refusalAtPlaces_23
  refine X3_has (fun p0 p1 => ⟨fun c => by omega, fun _ => ?_⟩) (fun q => ⟨fun _ => h2 (fun c => q c.2.1), fun c => absurd rfl c⟩)
  refine X3_has (fun q0 q1 => ⟨fun _ => ?_, fun c => by omega⟩) (fun q => ⟨fun c => absurd rfl c, fun _ => h2 (fun c => q c.2.2)⟩)
  exact X8_refusal B (fun q => h2 (fun c => q c.1)) (fun pa pb q => h4 pa pb ⟨p0, p1⟩ ⟨q0, q1⟩ q) (fun pa pb J s => h0 pa pb ⟨p0, p1⟩ ⟨q0, q1⟩ J s)
theorem mk_plan {a b : Int} {X M : Mem} {post : Mem → Prop} (I : Inv X M) (pa : hpX X a) (pb : hpX X b) (J : JnX X) (hs : smX X a b) (h : ∀ X' : Mem, Inv X' M → Kx X X' → Fst (X 1 0) (dX X) (X (80 + a)) (X (80 + b)) (GX X') → Hts (X 1 0) (dX X) (X (80 + a)) (X (80 + b)) (X' 23) → post X') : wpX8_makePlan a b X post := by
  obtain ⟨B, R, P, Q⟩ := id I
  have w := bsx_wf B
  have ha : 0 ≤ a ∧ a < 8 := by unfold hpX at pa; omega
  have hb : 0 ≤ b ∧ b < 8 := by unfold hpX at pb; omega
  have new : jbX8_makePlan_17 post a b X := by
    unfold jbX8_makePlan_17
    refine ⟨ha, hb, tot_X B ha ?_⟩
    refine X6_make (δ := dX X) (by omega) (by omega) w.1 rfl (amt_X B ha hb) (jn_mtr B J) (fun u v p q _ _ => dX_in (by omega)) rfl hs (fun X1 hO F H X2 e2 X3 e3 => ?_)
    have z : ∀ k i : Int, (k = 0 → i ≠ 7 ∧ i ≠ 8) → X3 k i = X1 k i := fun k i q => by
      by_cases c : k = 0
      · rw [e3, mset_i (q c).2, e2, mset_i (q c).1]
      · rw [e3, mset_r c, e2, mset_r c]
    have z2 : ∀ k i : Int, ((1 ≤ k ∧ k ≤ 7) ∨ (15 ≤ k ∧ k ≤ 22) ∨ k = 27 ∨ (40 ≤ k ∧ k < 70) ∨ (80 ≤ k ∧ k < 88)) → X3 k i = X k i := fun k i q => by rw [z k i (by omega), hO k (by omega) (by omega) (by omega) (by omega) (by omega) (by omega) (by omega) (by omega) (by omega) (by omega) (by omega) (by omega)]
    have z0 : ∀ i : Int, i ≠ 7 → i ≠ 8 → X3 0 i = X 0 i := fun i q q2 => by rw [z 0 i (fun _ => ⟨q, q2⟩), hO 0 (by omega) (by omega) (by omega) (by omega) (by omega) (by omega) (by omega) (by omega) (by omega) (by omega) (by omega) (by omega)]
    have K : Kx X X3 := ⟨fun k i q => z2 k i (by omega), z0 11 (by omega) (by omega)⟩
    have eG : GX X3 = GX X1 := GX_eq (fun c p q => funext (fun i => z (70 + c) i (by omega)))
    have e23 : X3 23 = X1 23 := funext (fun i => z 23 i (by omega))
    have e7 : X3 0 7 = a := by rw [e3, mset_i (by omega), e2, mset_s]
    have e8 : X3 0 8 = b := by rw [e3, mset_s]
    refine h X3 ⟨kx_bsx K B, kx_bsr K (Kr_refl M) w.2.1.1 R, ?_, kx_rhx K (z0 9 (by omega) (by omega)) (z0 10 (by omega) (by omega)) (fun k i q => z2 k i (by omega)) Q⟩ K (by rw [eG]; exact F) (by rw [e23]; exact H)
    unfold PcX
    right
    rw [e7, e8, kx_dX K, kx_row K (k := 1) (by omega), kx_row K (k := 80 + a) (by omega), kx_row K (k := 80 + b) (by omega), eG, e23]
    exact ⟨ha, hb, F, H⟩
  unfold wpX8_makePlan
  refine ⟨fun _ => new, fun c => ⟨fun _ => new, fun c2 => ?_⟩⟩
  rcases P with q | ⟨q1, q2, F, H⟩
  · omega
  · rw [c, c2] at F H
    exact h X I (Qx_kx (Qx_refl X)) F H
theorem offL_kr {M M' : Mem} (h : OffL M M') : Kr M M' := ⟨fun k i a b => by rw [h k (by omega)], fun i _ => by rw [h 0 (by omega)]⟩
theorem fp_R {a b : Int} {X M : Mem} {H0 : Int → Int} {post : Mem → Prop} (B : BsX X) (J : JnX X) (R : BsR X M) (hE : ∀ u v : Int, 0 ≤ u → u < X 1 0 → 0 ≤ v → v < X 1 0 → M 10 (10 * u + v) = dX X u v) (ha : 0 ≤ a ∧ a < 8) (hb : 0 ≤ b ∧ b < 8) (hs : smX X a b) (hV : Pv (X 1 0) (dX X) (X (80 + a)) (X (80 + b)) H0)
    (h : ∀ M' : Mem, OffL M M' → Fst (X 1 0) (dX X) (X (80 + a)) (X (80 + b)) (gC M') → Hts (X 1 0) (dX X) (X (80 + a)) (X (80 + b)) (M' 14) → (∀ j : Int, 0 ≤ j → j < 100 → (∀ a b : Int, 0 ≤ a → a < X 1 0 → 0 ≤ b → b < X 1 0 → j ≠ 10 * a + b) → M' 11 j = 0) → post M') : wpX9_findPlan a b M post := by
  have w := bsx_wf B
  exact X9_findPlan w.1 R.1.1 ha hb (amt_X B ha hb) (fun v p q => ⟨R.2.2.1 a v ha.1 ha.2 p (by omega), R.2.2.1 b v hb.1 hb.2 p (by omega)⟩) (fun v p q => by rw [R.2.2.1 a v ha.1 ha.2 p q]; have := w.2.2.2.2.1 a v ha.1 ha.2 p q; omega) (jn_mtr B J) hE hs hV (fun M' hO F H _ hz => h M' hO F H hz)
theorem s_plan : St_plan Inv := by
  intro a b u v X M _ _ _ _ I
  obtain ⟨B, R, P, Q⟩ := id I
  have w := bsx_wf B
  unfold wpX8_plan
  refine X8_refAt B (fun q => ⟨fun c => absurd c (by decide), fun _ => ?_⟩) (fun pa pb pu pv q => ⟨fun c => absurd c (by decide), fun _ => ?_⟩) (fun pa pb pu pv J hs => ⟨fun _ => ?_, fun c => absurd rfl c⟩)
  · unfold wpX9_plan jbX9_plan_33
    refine hp_R B R (fun a0 a1 => ⟨fun c => by omega, fun _ => ?_⟩) (fun _ => ⟨fun _ => ⟨rfl, I⟩, fun c => absurd rfl c⟩)
    refine hp_R B R (fun b0 b1 => ⟨fun c => by omega, fun _ => ?_⟩) (fun _ => ⟨fun _ => ⟨rfl, I⟩, fun c => absurd rfl c⟩)
    refine pl_R B R (fun u0 u1 => ⟨fun c => by omega, fun _ => ?_⟩) (fun _ => ⟨fun _ => ⟨rfl, I⟩, fun c => absurd rfl c⟩)
    exact pl_R B R (fun v0 v1 => absurd ⟨⟨⟨a0, a1⟩, b0, b1⟩, ⟨u0, u1⟩, v0, v1⟩ q) (fun _ => ⟨fun c => absurd rfl c, fun _ => ⟨rfl, I⟩⟩)
  · unfold wpX9_plan
    refine hp_R B R (fun _ _ => ⟨fun c => by omega, fun _ => ?_⟩) (fun c => absurd pa c)
    refine hp_R B R (fun _ _ => ⟨fun c => by omega, fun _ => ?_⟩) (fun c => absurd pb c)
    refine pl_R B R (fun _ _ => ⟨fun c => by omega, fun _ => ?_⟩) (fun c => absurd pu c)
    refine pl_R B R (fun _ _ => ⟨fun _ => ?_, fun c => by omega⟩) (fun c => absurd pv c)
    exact X9_ref4 B R pa pb q (fun M' hO => ⟨fun c => absurd c (by decide), fun _ => ⟨rfl, inv_q I (Qx_refl X) (offT_kr hO)⟩⟩)
  · have ha : 0 ≤ a ∧ a < 8 := by unfold hpX at pa; omega
    have hb : 0 ≤ b ∧ b < 8 := by unfold hpX at pb; omega
    have hu : 0 ≤ u ∧ u < 10 := by unfold plX at pu; omega
    have hv : 0 ≤ v ∧ v < 10 := by unfold plX at pv; omega
    refine mk_plan I pa pb J hs (fun X' I' K F H => ⟨hu, hv, ?_⟩)
    unfold wpX9_plan
    refine hp_R B R (fun _ _ => ⟨fun c => by omega, fun _ => ?_⟩) (fun c => absurd pa c)
    refine hp_R B R (fun _ _ => ⟨fun c => by omega, fun _ => ?_⟩) (fun c => absurd pb c)
    refine pl_R B R (fun _ _ => ⟨fun c => by omega, fun _ => ?_⟩) (fun c => absurd pu c)
    refine pl_R B R (fun _ _ => ⟨fun _ => ?_, fun c => by omega⟩) (fun c => absurd pv c)
    refine X9_ref0 B R pa pb J hs (fun M' hO R' hE E => ⟨fun _ => ?_, fun c => absurd rfl c⟩)
    refine fp_R B J R' hE ha hb hs H.1 (fun M2 hO2 F2 H2 _ => ⟨by omega, ?_, inv_q I' (Qx_refl X') (Kr_trans (offT_kr hO) (offL_kr hO2))⟩)
    have := fst_one w.1.2 F F2 u v pu.1 pu.2 pv.1 pv.2
    rw [GX_in hu, gC_in ⟨hu, hv⟩] at this
    exact this
theorem pv_bnd {n : Int} {δ : Int → Int → Int} {α β H : Int → Int} (T : Mtr n δ) (h : Pv n δ α β H) : ∀ x : Int, 0 ≤ x → x < n → -100000 ≤ H x ∧ H x ≤ 100000 := fun x a b => by
  have h1 := h.1 x 0 a b (by omega) (by omega)
  have h2 := h.1 0 x (by omega) (by omega) a b
  have h3 := h.2.1 (by omega)
  have h4 := T.2.1 x 0 a b (by omega) (by omega)
  have h5 := T.2.1 0 x (by omega) (by omega) a b
  omega
theorem offR_qx {M M' : Mem} (h : OffR M M') : Qx M M' := fun k i q => by rw [h k (by omega) (by omega) (by omega)]
theorem s_alone : St_alone Inv := by
  intro a b X M _ _ I
  obtain ⟨B, R, P, Q⟩ := id I
  have w := bsx_wf B
  unfold wpX8_alone
  refine X8_refusal B (fun q => ⟨fun c => absurd c (by decide), fun _ => ?_⟩) (fun pa pb q => ⟨fun c => absurd c (by decide), fun _ => ?_⟩) (fun pa pb J hs => ⟨fun _ => ?_, fun c => absurd rfl c⟩)
  · unfold wpX9_alone
    exact X9_ref2 B R q ⟨fun c => absurd c (by decide), fun _ => ⟨rfl, I⟩⟩
  · unfold wpX9_alone
    exact X9_ref4 B R pa pb q (fun M' hO => ⟨fun c => absurd c (by decide), fun _ => ⟨rfl, inv_q I (Qx_refl X) (offT_kr hO)⟩⟩)
  · have ha : 0 ≤ a ∧ a < 8 := by unfold hpX at pa; omega
    have hb : 0 ≤ b ∧ b < 8 := by unfold hpX at pb; omega
    have T := jn_mtr B J
    refine mk_plan I pa pb J hs (fun X' I' K F H => ?_)
    have ref : ∀ (t : Int) (X2 : Mem), Qx X' X2 → ((∀ A : Int → Int → Int, Opt (X 1 0) (dX X) (X (80 + a)) (X (80 + b)) A → ∀ u v : Int, 0 ≤ u → u < X 1 0 → 0 ≤ v → v < X 1 0 → A u v ≤ GX X' u v) → t = 1) → ((∃ (u v : Int) (A : Int → Int → Int), Opt (X 1 0) (dX X) (X (80 + a)) (X (80 + b)) A ∧ 0 ≤ u ∧ u < X 1 0 ∧ 0 ≤ v ∧ v < X 1 0 ∧ A u v = GX X' u v + 1) → t = 0) → wpX9_alone a b M (fun r1 MR1 => t = r1 ∧ Inv X2 MR1) := fun t X2 hX2 t1 t0 => by
      unfold wpX9_alone
      refine X9_ref0 B R pa pb J hs (fun M' hO R' hE E => ⟨fun _ => ?_, fun c => absurd rfl c⟩)
      refine fp_R B J R' hE ha hb hs H.1 (fun M2 hO2 F2 H2 _ => X9_loosen (fun M3 hO3 h17 => ?_))
      have e1 := fst_one w.1.2 F F2
      have eg : gC M3 = gC M2 := by
        funext x y
        unfold gC
        rw [hO3 11 (by omega)]
      have r14 : M3 14 = M2 14 := hO3 14 (by omega)
      have r10 : M3 10 = M' 10 := by rw [hO3 10 (by omega), hO2 10 (by omega)]
      have r0 : M3 0 = M' 0 := by rw [hO3 0 (by omega), hO2 0 (by omega)]
      have kr3 : Kr M M3 := Kr_trans (offT_kr hO) (Kr_trans (offL_kr hO2) ⟨fun k i p q => by rw [hO3 k (by omega)], fun i _ => by rw [hO3 0 (by omega)]⟩)
      have offc : ∀ M4 : Mem, OffC M3 M4 → Kr M M4 := fun M4 h4 => Kr_trans kr3 ⟨fun k i p q => by rw [h4 k (by omega) (by omega) (by omega)], fun i _ => by rw [h4 0 (by omega) (by omega) (by omega)]⟩
      refine X9_aloneLoop (δ := dX X) (α := X (80 + a)) (β := X (80 + b)) (H := M2 14) w.1 (by rw [r0]; exact R'.1.1) (fun u v p q c d => by rw [r10]; exact hE u v p q c d) r14 (pv_bnd T H2.1) H2.1 (by rw [eg]; exact F2.1) h17 (fun M4 h4 hA => ⟨t1 (fun A hA2 u v p q c d => ?_), inv_q I' hX2 (offc M4 h4)⟩) (fun M4 u v A h4 hA p q c d hx => ⟨t0 ⟨u, v, A, hA, p, q, c, d, ?_⟩, inv_q I' hX2 (offc M4 h4)⟩)
      · have := hA A hA2 u v p q c d
        rw [eg, ← e1 u v p q c d] at this
        exact this
      · rw [hx, eg, e1 u v p q c d]
    have e0 : X' 1 0 = X 1 0 := K.1 1 0 (by omega)
    unfold jbX8_alone_38
    refine X6_hasOther (δ := dX X) (α := X (80 + a)) (β := X (80 + b)) (H := X' 23) w.1 e0 (fun u v p q _ _ => by rw [K.1 (50 + u) v (by omega)]; exact dX_in (by omega)) rfl (pv_bnd T H.1) H.1 F.1 (fun X2 h2 hA => ⟨fun _ => ref 1 X2 (offR_qx h2) (fun _ => rfl) (fun ⟨u, v, A, x1, x2, x3, x4, x5, x6⟩ => ?_), fun c => absurd rfl c⟩) (fun X2 u v A h2 hA p q c d hx => ⟨fun c => absurd c (by decide), fun _ => ref 0 X2 (offR_qx h2) (fun hall => ?_) (fun _ => rfl)⟩)
    · have := hA A x1 u v x2 x3 x4 x5
      omega
    · have := hall A hA u v p q c d
      omega
theorem s_height : St_height Inv := by
  intro a b v X M _ _ _ I
  obtain ⟨B, R, P, Q⟩ := id I
  have w := bsx_wf B
  unfold wpX8_height
  refine X8_refAt B (fun q => ⟨fun c => absurd c (by decide), fun _ => ?_⟩) (fun pa pb pu pv q => ⟨fun c => absurd c (by decide), fun _ => ?_⟩) (fun pa pb pu pv J hs => ⟨fun _ => ?_, fun c => absurd rfl c⟩)
  · unfold wpX9_height jbX9_height_17
    refine pl_R B R (fun v0 v1 => ⟨fun c => by omega, fun _ => ?_⟩) (fun _ => ⟨fun _ => ⟨rfl, I⟩, fun c => absurd rfl c⟩)
    exact X9_ref2 B R (fun z => q ⟨z, ⟨v0, v1⟩, v0, v1⟩) ⟨fun c => absurd c (by decide), fun _ => ⟨rfl, I⟩⟩
  · unfold wpX9_height jbX9_height_17
    refine pl_R B R (fun v0 v1 => ⟨fun c => by omega, fun _ => ?_⟩) (fun c => absurd pu c)
    exact X9_ref4 B R pa pb q (fun M' hO => ⟨fun c => absurd c (by decide), fun _ => ⟨rfl, inv_q I (Qx_refl X) (offT_kr hO)⟩⟩)
  · have ha : 0 ≤ a ∧ a < 8 := by unfold hpX at pa; omega
    have hb : 0 ≤ b ∧ b < 8 := by unfold hpX at pb; omega
    have hv : 0 ≤ v ∧ v < 10 := by unfold plX at pv; omega
    refine mk_plan I pa pb J hs (fun X' I' K F H => ⟨hv, ?_⟩)
    unfold wpX9_height jbX9_height_53
    refine pl_R B R (fun v0 v1 => ⟨fun c => by omega, fun _ => ?_⟩) (fun c => absurd pu c)
    refine X9_ref0 B R pa pb J hs (fun M' hO R' hE E => ⟨fun _ => ?_, fun c => absurd rfl c⟩)
    refine X9_planned w.1 R'.1.1 ha hb (amt_X B ha hb) (fun v p q => ⟨R'.2.2.1 a v ha.1 ha.2 p (by omega), R'.2.2.1 b v hb.1 hb.2 p (by omega)⟩) (fun v p q => by rw [R'.2.2.1 a v ha.1 ha.2 p q]; have := w.2.2.2.2.1 a v ha.1 ha.2 p q; omega) (jn_mtr B J) hE hs H.1 (fun c M2 hO2 c0 _ H2 _ _ => ⟨fun _ => ⟨hv, ?_, inv_q I' (Qx_refl X') (Kr_trans (offT_kr hO) ⟨fun k i p q => by rw [hO2 k (by omega)], fun i _ => by rw [hO2 0 (by omega)]⟩)⟩, fun q => absurd c0 q⟩)
    exact hts_one H H2 v pv.1 pv.2
