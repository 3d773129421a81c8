/-! load, far, shown -/
theorem nx_fun {X : Mem} (B : BsX X) (J : JnX X) : ∃ nx : Int → Int → Int, (∀ x y : Int, Nx (X 1 0) (fun w => x ≠ y ∧ X (50 + x) y ≠ 1000000 ∧ X (40 + x) w + X (50 + w) y = X (50 + x) y) (nx x y)) ∧ NxF (X 1 0) nx (dX X) := by
  have w := bsx_wf B
  have T := jn_mtr B J
  have hR := w.2.2.2.1
  have ex : ∀ x y : Int, ∃ r : Int, Nx (X 1 0) (fun w => x ≠ y ∧ X (50 + x) y ≠ 1000000 ∧ X (40 + x) w + X (50 + w) y = X (50 + x) y) r := fun x y => by
    have := nx_ex (X 1 0).toNat (fun w => x ≠ y ∧ X (50 + x) y ≠ 1000000 ∧ X (40 + x) w + X (50 + w) y = X (50 + x) y)
    rw [Int.toNat_of_nonneg w.1.1] at this
    exact this
  refine ⟨fun x y => Classical.choose (ex x y), fun x y => Classical.choose_spec (ex x y), fun x y x0 x1 y0 y1 hne => ?_, fun x x0 x1 => ?_⟩
  · have h := Classical.choose_spec (ex x y)
    show (0 ≤ Classical.choose (ex x y) ∧ Classical.choose (ex x y) < X 1 0) ∧ dX X (Classical.choose (ex x y)) y < dX X x y
    generalize Classical.choose (ex x y) = r at h ⊢
    have t := T.2.1 x y x0 x1 y0 y1
    rw [← dX_in (by omega)] at t
    rcases h with ⟨a, b⟩ | ⟨a, b, c, d⟩
    · obtain ⟨z, z0, z1, z2, z3⟩ := Ds_hop (fun u w' => by have := dr_pos (K := 1000000) (by omega) hR u w'; omega) (fun u => dr_self hR u) B.2.2.2.2.2 x0 x1 y0 y1 hne (show X (50 + x) y < 1000000 by omega)
      have z3 : X (50 + x) y = dr 1000000 (X 1 1) (X 15) (X 16) (X 17) x z + X (50 + z) y := z3
      have e := B.2.2.2.2.1 x z x0 x1 z0 z1
      exact absurd ⟨hne, by omega, by omega⟩ (b z z0 z1)
    · have e := B.2.2.2.2.1 x r x0 x1 a b
      have p := dr_pos (K := 1000000) (by omega) hR x r
      have c3 := c.2.2
      refine ⟨⟨a, b⟩, ?_⟩
      rw [← dX_in (by omega), ← dX_in (by omega)]
      omega
  · have h := Classical.choose_spec (ex x x)
    show Classical.choose (ex x x) = -1
    generalize Classical.choose (ex x x) = r at h ⊢
    rcases h with ⟨a, b⟩ | ⟨a, b, c, d⟩
    · exact a
    · exact absurd rfl c.1
theorem nxf_ext {n : Int} {nx d e : Int → Int → Int} (h : ∀ x y : Int, 0 ≤ x → x < n → 0 ≤ y → y < n → e x y = d x y) (H : NxF n nx d) : NxF n nx e := ⟨fun x y a b c q z => by
  have k := H.1 x y a b c q z
  refine ⟨k.1, ?_⟩
  rw [h x y a b c q, h _ y k.1.1 k.1.2 c q]
  exact k.2, H.2⟩
theorem ldv_c {nx G F : Int → Int → Int} {u w f v : Int} (h : G f v = F f v) : ldv nx G u w f v = ldv nx F u w f v := by
  by_cases c : u ≠ v ∧ nx u v = w ∧ Thr nx v u f
  · rw [ldv_y c, ldv_y c, h]
  · rw [ldv_n c, ldv_n c]
theorem pl_b {n : Int} {α β : Int → Int} {G : Int → Int → Int} (hα : ∀ v : Int, 0 ≤ v → v < n → α v ≤ 1000) (h : Pl n α β G) : ∀ u v : Int, 0 ≤ u → u < n → 0 ≤ v → v < n → 0 ≤ G u v ∧ G u v ≤ 1000 := fun u v a b c d => by
  refine ⟨h.1 u v a b c d, ?_⟩
  have h1 := su_term (f := G u) (fun k p q => h.1 u k a b p q) c d
  have h2 := h.2.1 u a b
  have h3 := hα u a b
  omega
theorem s_load : St_load Inv := by
  intro a b u v X M _ _ _ _ I
  obtain ⟨B, R, P, Q⟩ := id I
  have w := bsx_wf B
  unfold wpX8_load
  refine X8_refAt B (fun q => ⟨fun c => absurd c (by decide), fun _ => ?_⟩) (fun pa pb pu pv q => ⟨fun c => absurd c (by decide), fun _ => ?_⟩) (fun pa pb pu pv J hs => ⟨fun _ => ?_, fun c => absurd rfl c⟩)
  · unfold wpX9_load jbX9_load_33
    refine hp_R B R (fun a0 a1 => ⟨fun c => by omega, fun _ => ?_⟩) (fun _ => ⟨fun _ => ⟨rfl, I⟩, fun c => absurd rfl c⟩)
    refine hp_R B R (fun b0 b1 => ⟨fun c => by omega, fun _ => ?_⟩) (fun _ => ⟨fun _ => ⟨rfl, I⟩, fun c => absurd rfl c⟩)
    refine pl_R B R (fun u0 u1 => ⟨fun c => by omega, fun _ => ?_⟩) (fun _ => ⟨fun _ => ⟨rfl, I⟩, fun c => absurd rfl c⟩)
    exact pl_R B R (fun v0 v1 => absurd ⟨⟨⟨a0, a1⟩, b0, b1⟩, ⟨u0, u1⟩, v0, v1⟩ q) (fun _ => ⟨fun c => absurd rfl c, fun _ => ⟨rfl, I⟩⟩)
  · unfold wpX9_load
    refine hp_R B R (fun _ _ => ⟨fun c => by omega, fun _ => ?_⟩) (fun c => absurd pa c)
    refine hp_R B R (fun _ _ => ⟨fun c => by omega, fun _ => ?_⟩) (fun c => absurd pb c)
    refine pl_R B R (fun _ _ => ⟨fun c => by omega, fun _ => ?_⟩) (fun c => absurd pu c)
    refine pl_R B R (fun _ _ => ⟨fun _ => ?_, fun c => by omega⟩) (fun c => absurd pv c)
    exact X9_ref4 B R pa pb q (fun M' hO => ⟨fun c => absurd c (by decide), fun _ => ⟨rfl, inv_q I (Qx_refl X) (offT_kr hO)⟩⟩)
  · have ha : 0 ≤ a ∧ a < 8 := by unfold hpX at pa; omega
    have hb : 0 ≤ b ∧ b < 8 := by unfold hpX at pb; omega
    have hu : 0 ≤ u ∧ u < 10 := by unfold plX at pu; omega
    have hv : 0 ≤ v ∧ v < 10 := by unfold plX at pv; omega
    obtain ⟨nx, hnx, hF⟩ := nx_fun B J
    have hα := amt_X B ha hb
    refine mk_plan I pa pb J hs (fun X' I' K F H => ?_)
    have e0 : X' 1 0 = X 1 0 := K.1 1 0 (by omega)
    have r50 : ∀ x y : Int, 0 ≤ x → x < X 1 0 → X' (50 + x) y = X (50 + x) y := fun x y p q => K.1 (50 + x) y (by omega)
    have r40 : ∀ x y : Int, 0 ≤ x → x < X 1 0 → X' (40 + x) y = X (40 + x) y := fun x y p q => K.1 (40 + x) y (by omega)
    have gb := pl_b (fun v p q => (hα v p q).1.2) F.1.1
    refine X6_carried (nx := nx) w.1 e0 pu pv (fun x y p q c d => by rw [r50 x y p q, r40 x y p q]; exact hd_X B x y p q c d) (nxf_ext (fun x y p q c d => by show X' (50 + x) y = dX X x y; rw [r50 x y p q]; exact dX_in (by omega)) hF) (fun x y r p q c d hr => ?_) (fun x y p q c d => by rw [← GX_in (M := X') (by omega)]; exact gb x y p q c d) ?_
    · refine nx_one (fun z z0 z1 => ?_) hr (hnx x y)
      rw [r50 x y p q, r40 x z p q, r50 z y z0 z1]
    · unfold wpX9_load
      refine hp_R B R (fun _ _ => ⟨fun c => by omega, fun _ => ?_⟩) (fun c => absurd pa c)
      refine hp_R B R (fun _ _ => ⟨fun c => by omega, fun _ => ?_⟩) (fun c => absurd pb c)
      refine pl_R B R (fun _ _ => ⟨fun c => by omega, fun _ => ?_⟩) (fun c => absurd pu c)
      refine pl_R B R (fun _ _ => ⟨fun _ => ?_, fun c => by omega⟩) (fun c => absurd pv c)
      refine X9_ref0 B R pa pb J hs (fun M' hO R' hE E => ⟨fun _ => ?_, fun c => absurd rfl c⟩)
      refine fp_R B J R' hE ha hb hs H.1 (fun M2 hO2 F2 H2 _ => ?_)
      have R2 : BsR X M2 := kx_bsr (Qx_kx (Qx_refl X)) (offL_kr hO2) w.2.1.1 R'
      have r10 : M2 10 = M' 10 := hO2 10 (by omega)
      have gb2 := pl_b (fun v p q => (hα v p q).1.2) F2.1.1
      refine X9_carried (nx := nx) w.1 w.2.1 w.2.2.2.1 R2.1.1 R2.1.2.1 R2.2.1 pu (fun x y p q c d => by rw [r10]; have z := E.2.1 x y p q c d; exact ⟨z.1, z.2.1⟩) (nxf_ext (fun x y p q c d => by show M2 10 (10 * x + y) = dX X x y; rw [r10]; exact hE x y p q c d) hF) (fun x y t p q c d ht => ?_) (fun x y p q c d => by rw [← gC_in (M := M2) (by omega)]; exact gb2 x y p q c d) ⟨?_, inv_q I' (Qx_refl X') (Kr_trans (offT_kr hO) (offL_kr hO2))⟩
      · rw [r10] at ht
        exact (nx_one (fun z z0 z1 => nx_same (d := fun u v => X (50 + u) v) (dir := fun u v => X (40 + u) v) w.1 w.2.2.2.1 B.2.2.2.2.1 B.2.2.2.2.2 E ⟨p, q⟩ ⟨c, d⟩ ⟨z0, z1⟩) (hnx x y) ht).symm
      · refine su_congr (fun f f0 f1 => su_congr (fun t t0 t1 => ldv_c ?_))
        have := fst_one w.1.2 F F2 f t f0 f1 t0 t1
        rw [GX_in (by omega), gC_in (by omega)] at this
        exact this
theorem mk_reach {a b : Int} {X M : Mem} {post : Mem → Prop} (I : Inv X M) (pa : hpX X a) (pb : hpX X b) (J : JnX X) (hs : smX X a b) (h : ∀ X' : Mem, Inv X' M → Kx X X' → RchX (X 1 0) (dX X) (X (80 + a)) (X (80 + b)) X' → post X') : wpX8_makeReach a b X post := by
  obtain ⟨B, R, P, Q⟩ := id I
  have w := bsx_wf B
  have ha : 0 ≤ a ∧ a < 8 := by unfold hpX at pa; omega
  have hb : 0 ≤ b ∧ b < 8 := by unfold hpX at pb; omega
  have new : jbX8_makeReach_17 post a b X := by
    unfold jbX8_makeReach_17
    refine ⟨ha, hb, tot_X B ha ?_⟩
    refine X7_make (δ := dX X) (by omega) (by omega) w.1 rfl (amt_X B ha hb) (jn_mtr B J) (fun u v p q _ _ => dX_in (by omega)) rfl hs (fun X1 hO F X2 e2 X3 e3 => ?_)
    have z : ∀ k i : Int, (k = 0 → i ≠ 9 ∧ i ≠ 10) → X3 k i = X1 k i := fun k i q => by
      by_cases c : k = 0
      · rw [e3, mset_i (q c).2, e2, mset_i (q c).1]
      · rw [e3, mset_r c, e2, mset_r c]
    have z2 : ∀ k i : Int, ((1 ≤ k ∧ k ≤ 6) ∨ (15 ≤ k ∧ k ≤ 23) ∨ (40 ≤ k ∧ k < 88)) → X3 k i = X k i := fun k i q => by rw [z k i (by omega), hO k (by omega) (by omega) (by omega) (by omega) (by omega) (by omega) (by omega) (by omega) (by omega)]
    have z0 : ∀ i : Int, i ≠ 9 → i ≠ 10 → X3 0 i = X 0 i := fun i q q2 => by rw [z 0 i (fun _ => ⟨q, q2⟩), hO 0 (by omega) (by omega) (by omega) (by omega) (by omega) (by omega) (by omega) (by omega) (by omega)]
    have K : Kx X X3 := ⟨fun k i q => z2 k i (by omega), z0 11 (by omega) (by omega)⟩
    have F3 : RchX (X 1 0) (dX X) (X (80 + a)) (X (80 + b)) X3 := by
      unfold RchX at F ⊢
      rw [show X3 7 = X1 7 from funext (fun i => z 7 i (by omega)), show X3 27 = X1 27 from funext (fun i => z 27 i (by omega))]
      exact F
    have e9 : X3 0 9 = a := by rw [e3, mset_i (by omega), e2, mset_s]
    have e10 : X3 0 10 = b := by rw [e3, mset_s]
    refine h X3 ⟨kx_bsx K B, kx_bsr K (Kr_refl M) w.2.1.1 R, kx_pcx K (z0 7 (by omega) (by omega)) (z0 8 (by omega) (by omega)) (fun k i q => z2 k i (by omega)) P, ?_⟩ K F3
    unfold RhX
    right
    rw [e9, e10, kx_dX K, kx_row K (k := 1) (by omega), kx_row K (k := 80 + a) (by omega), kx_row K (k := 80 + b) (by omega)]
    exact ⟨ha, hb, F3⟩
  unfold wpX8_makeReach
  refine ⟨fun _ => new, fun c => ⟨fun _ => new, fun c2 => ?_⟩⟩
  rcases Q with q | ⟨q1, q2, F⟩
  · omega
  · rw [c, c2] at F
    exact h X I (Qx_kx (Qx_refl X)) F
theorem offI_kr {M M' : Mem} (h : OffI M M') : Kr M M' := ⟨fun k i a b => by rw [h k (by omega) (by omega) (by omega) (by omega) (by omega) (by omega)], fun i _ => by rw [h 0 (by omega) (by omega) (by omega) (by omega) (by omega) (by omega)]⟩
theorem ff_far {a b : Int} {X M : Mem} {post : Int → Mem → Prop} (B : BsX X) (J : JnX X) (R : BsR X M) (hE : ∀ u v : Int, 0 ≤ u → u < X 1 0 → 0 ≤ v → v < X 1 0 → M 10 (10 * u + v) = dX X u v) (ha : 0 ≤ a ∧ a < 8) (hb : 0 ≤ b ∧ b < 8) (hs : smX X a b) (h : ∀ (f : Int) (M' : Mem), OffI M M' → FarOk (X 1 0) (dX X) (X (80 + a)) (X (80 + b)) f → f ≤ 9000 → post f M') : wpX9_findFarthest a b M post := by
  have w := bsx_wf B
  exact X9_findFarthest w.1 R.1.1 ha hb (amt_X B ha hb) (fun v p q => ⟨R.2.2.1 a v ha.1 ha.2 p (by omega), R.2.2.1 b v hb.1 hb.2 p (by omega)⟩) (jn_mtr B J) hE hs h
theorem s_far : St_far Inv := by
  intro a b X M _ _ I
  obtain ⟨B, R, P, Q⟩ := id I
  have w := bsx_wf B
  unfold wpX8_far
  refine X8_refusal B (fun q => ⟨fun c => absurd c (by decide), fun _ => ?_⟩) (fun pa pb q => ⟨fun c => absurd c (by decide), fun _ => ?_⟩) (fun pa pb J hs => ⟨fun _ => ?_, fun c => absurd rfl c⟩)
  · unfold wpX9_far jbX9_far_21
    exact X9_ref2 B R q ⟨fun c => absurd c (by decide), fun _ => ⟨rfl, I⟩⟩
  · unfold wpX9_far jbX9_far_21
    exact X9_ref4 B R pa pb q (fun M' hO => ⟨fun c => absurd c (by decide), fun _ => ⟨rfl, inv_q I (Qx_refl X) (offT_kr hO)⟩⟩)
  · have ha : 0 ≤ a ∧ a < 8 := by unfold hpX at pa; omega
    have hb : 0 ≤ b ∧ b < 8 := by unfold hpX at pb; omega
    refine mk_reach I pa pb J hs (fun X' I' K F => ?_)
    unfold wpX9_far jbX9_far_21
    refine X9_ref0 B R pa pb J hs (fun M' hO R' hE E => ⟨fun _ => ?_, fun c => absurd rfl c⟩)
    exact ff_far B J R' hE ha hb hs (fun f M2 hO2 F2 _ => ⟨far_one F.1 F2, inv_q I' (Qx_refl X') (Kr_trans (offT_kr hO) (offI_kr hO2))⟩)
theorem s_shown : St_shown Inv := by
  intro a b u X M _ _ _ I
  obtain ⟨B, R, P, Q⟩ := id I
  have w := bsx_wf B
  unfold wpX8_shown
  refine X8_refAt B (fun q => ⟨fun c => absurd c (by decide), fun _ => ?_⟩) (fun pa pb pu pv q => ⟨fun c => absurd c (by decide), fun _ => ?_⟩) (fun pa pb pu pv J hs => ⟨fun _ => ?_, fun c => absurd rfl c⟩)
  · unfold wpX9_shown jbX9_shown_24
    refine hp_R B R (fun a0 a1 => ⟨fun c => by omega, fun _ => ?_⟩) (fun _ => ⟨fun _ => ⟨rfl, I⟩, fun c => absurd rfl c⟩)
    refine hp_R B R (fun b0 b1 => ⟨fun c => by omega, fun _ => ?_⟩) (fun _ => ⟨fun _ => ⟨rfl, I⟩, fun c => absurd rfl c⟩)
    exact pl_R B R (fun u0 u1 => absurd ⟨⟨⟨a0, a1⟩, b0, b1⟩, ⟨u0, u1⟩, u0, u1⟩ q) (fun _ => ⟨fun c => absurd rfl c, fun _ => ⟨rfl, I⟩⟩)
  · unfold wpX9_shown
    refine hp_R B R (fun _ _ => ⟨fun c => by omega, fun _ => ?_⟩) (fun c => absurd pa c)
    refine hp_R B R (fun _ _ => ⟨fun c => by omega, fun _ => ?_⟩) (fun c => absurd pb c)
    refine pl_R B R (fun _ _ => ⟨fun _ => ?_, fun c => by omega⟩) (fun c => absurd pu c)
    exact X9_ref4 B R pa pb q (fun M' hO => ⟨fun c => absurd c (by decide), fun _ => ⟨rfl, inv_q I (Qx_refl X) (offT_kr hO)⟩⟩)
  · have ha : 0 ≤ a ∧ a < 8 := by unfold hpX at pa; omega
    have hb : 0 ≤ b ∧ b < 8 := by unfold hpX at pb; omega
    have hu : 0 ≤ u ∧ u < 10 := by unfold plX at pu; omega
    refine mk_reach I pa pb J hs (fun X' I' K F => ⟨hu, ?_⟩)
    unfold wpX9_shown jbX9_shown_88 jbX9_shown_89
    refine hp_R B R (fun _ _ => ⟨fun c => by omega, fun _ => ?_⟩) (fun c => absurd pa c)
    refine hp_R B R (fun _ _ => ⟨fun c => by omega, fun _ => ?_⟩) (fun c => absurd pb c)
    refine pl_R B R (fun _ _ => ⟨fun _ => ?_, fun c => by omega⟩) (fun c => absurd pu c)
    refine X9_ref0 B R pa pb J hs (fun M' hO R' hE E => ⟨fun _ => ?_, fun c => absurd rfl c⟩)
    refine ff_far B J R' hE ha hb hs (fun f M2 hO2 F2 f9 => ?_)
    have ef : X' 7 0 = f := far_one F.1 F2
    have k2 := Kr_trans (offT_kr hO) (offI_kr hO2)
    have f0 := F2.1
    refine ⟨fun c => ⟨by omega, ?_⟩, fun c => ⟨F.2.1 (by omega) u pu.1 pu.2, inv_q I' (Qx_refl X') k2⟩⟩
    have R2 : BsR X M2 := kx_bsr (Qx_kx (Qx_refl X)) (offI_kr hO2) w.2.1.1 R'
    have r10 : M2 10 = M' 10 := hO2 10 (by omega) (by omega) (by omega) (by omega) (by omega) (by omega)
    refine X9_fits (δ := dX X) (α := X (80 + a)) (β := X (80 + b)) w.1 R2.1.1 ha hb (amt_X B ha hb) (fun v p q => ⟨R2.2.2.1 a v ha.1 ha.2 p (by omega), R2.2.2.1 b v hb.1 hb.2 p (by omega)⟩) (fun x y p q c d => by rw [r10]; exact hE x y p q c d) hs (fun M3 hO3 hf => absurd hf (F2.2.2 (f - 1) (by omega) (by omega))) (fun M3 hO3 hf _ hS => ⟨fun c => absurd rfl c, fun _ => ⟨by omega, ?_⟩⟩)
    have k3 := Kr_trans k2 (offI_kr hO3)
    obtain ⟨S, s1, s2⟩ := F.2.2 (by omega)
    have s3 : Shd (X 1 0) (fun u v => dX X u v ≤ f - 1) (X (80 + a)) (X (80 + b)) S := shd_near (fun x y _ _ _ _ => by rw [ef]; exact ⟨fun q => by omega, fun q => by omega⟩) s1
    have h1 := shd_half s3 hS u pu.1 pu.2
    have h2 := shd_half hS s3 u pu.1 pu.2
    rcases s2 u pu.1 pu.2 with ⟨x1, x2⟩ | ⟨x1, x2⟩
    · exact ⟨fun c => absurd c (h1 x2), fun _ => ⟨x1, inv_q I' (Qx_refl X') k3⟩⟩
    · exact ⟨fun _ => ⟨x1, inv_q I' (Qx_refl X') k3⟩, fun c => absurd (h2 c) x2⟩
