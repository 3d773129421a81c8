/-! set, gate, place, road -/
theorem wf_X {X1 : Mem} {n r hh : Int} {U V L : Int → Int} (e0 : X1 1 0 = n) (e1 : X1 1 1 = r) (e2 : X1 2 0 = hh) (hn : 0 ≤ n ∧ n ≤ 10) (hr : 0 ≤ r ∧ r ≤ 30) (hh0 : 0 ≤ hh ∧ hh ≤ 8) (hR : Rds n r U V L) (ha : ∀ g p : Int, 0 ≤ g → g < 8 → 0 ≤ p → p < 10 → 0 ≤ X1 (80 + g) p ∧ X1 (80 + g) p ≤ 1000 ∧ ((hh ≤ g ∨ n ≤ p) → X1 (80 + g) p = 0)) (hb : ∀ p : Int, 0 ≤ p → p < 10 → -1 ≤ X1 18 p ∧ X1 18 p ≤ 100000 ∧ (n ≤ p → X1 18 p = -1)) : WFc U V L (coX X1) := by
  subst e0 e1 e2
  exact ⟨hn, hr, hh0, hR, ha, hb⟩
theorem s_set : St_set Inv := by
  intro a p t X M _ _ _ I
  obtain ⟨B, R, P, Q⟩ := id I
  have w := bsx_wf B
  unfold wpX8_set jbX8_set_22 jbX8_set_36
  have bad : ¬ ((0 ≤ a ∧ a < X 2 0) ∧ 0 ≤ p ∧ p < X 1 0) → wpX9_set a p t M (fun r1 MR1 => -2 = r1 ∧ Inv X MR1) := fun q => by
    unfold wpX9_set jbX9_set_16
    refine hp_R B R (fun p0 p1 => ⟨fun c => by omega, fun _ => ?_⟩) (fun _ => ⟨fun _ => ⟨rfl, I⟩, fun c => absurd rfl c⟩)
    exact pl_R B R (fun q0 q1 => absurd ⟨⟨p0, p1⟩, q0, q1⟩ q) (fun _ => ⟨fun c => absurd rfl c, fun _ => ⟨rfl, I⟩⟩)
  refine X2_has (fun a0 a1 => ⟨fun c => by omega, fun _ => ?_⟩) (fun q => ⟨fun _ => bad (fun c => q c.1), fun c => absurd rfl c⟩)
  refine X3_has (fun p0 p1 => ⟨fun _ => ?_, fun c => by omega⟩) (fun q => ⟨fun c => absurd rfl c, fun _ => bad (fun c => q c.2)⟩)
  have out : ¬ (0 ≤ t ∧ t ≤ 1000) → wpX9_set a p t M (fun r1 MR1 => -3 = r1 ∧ Inv X MR1) := fun q => by
    unfold wpX9_set
    refine hp_R B R (fun _ _ => ⟨fun c => by omega, fun _ => ?_⟩) (fun c => absurd ⟨a0, a1⟩ c)
    refine pl_R B R (fun _ _ => ⟨fun _ => ?_, fun c => by omega⟩) (fun c => absurd ⟨p0, p1⟩ c)
    exact X9_in (fun c1 c2 => absurd ⟨c1, c2⟩ q) (fun _ => ⟨fun c => absurd rfl c, fun _ => ⟨rfl, I⟩⟩)
  refine ⟨fun c => out (by omega), fun c => ⟨fun c2 => ⟨by omega, by omega, fun v hv => ⟨by omega, by omega, fun X1 eX => ?_⟩⟩, fun c2 => out (by omega)⟩⟩
  have x1 : ∀ k i : Int, (k = 80 + a → i ≠ p) → X1 k i = X k i := fun k i q => by rw [eX]; exact if_neg (fun z => q z.1 z.2)
  have xs : X1 (80 + a) p = t := by rw [eX, mset_s]
  have xr : ∀ k : Int, k < 80 → X1 k = X k := fun k q => funext (fun i => x1 k i (by omega))
  refine note_X B (fun k i q => x1 k i (by omega)) (fun j _ _ => ⟨x1 15 j (by omega), x1 16 j (by omega), x1 17 j (by omega)⟩) ?_ (vld_3 ⟨by omega, by omega⟩) ?_ (fun u v p q s t => by rw [x1 (60 + u) v (by omega), x1 1 0 (by omega)]; exact B.2.2.2.1 u v p q s t) (fun u v p q s t => ?_) ?_ (fun X2 c d B2 P2 Q2 r2 r11 H => ?_)
  · rw [xr 15 (by omega), xr 16 (by omega), xr 17 (by omega)]
    refine wf_X (x1 1 0 (by omega)) (x1 1 1 (by omega)) (x1 2 0 (by omega)) w.1 w.2.1 w.2.2.1 w.2.2.2.1 (fun g q y0 y1 y2 y3 => ?_) (fun q y0 y1 => by rw [x1 18 q (by omega)]; exact w.2.2.2.2.2 q y0 y1)
    by_cases e : g = a ∧ q = p
    · rw [e.1, e.2, xs]; exact ⟨by omega, by omega, fun z => by omega⟩
    · rw [x1 (80 + g) q (fun z1 z2 => e ⟨by omega, z2⟩)]; exact w.2.2.2.2.1 g q y0 y1 y2 y3
  · show ceq (coX X) ((X1 1 0, X1 1 1, X1 2 0), (fun g q => if g = a ∧ q = p then v else X1 (80 + g) q), X1 18)
    refine ⟨?_, fun g q y0 y1 y2 y3 => ?_, fun q _ _ => x1 18 q (by omega)⟩
    · show ((X1 1 0, X1 1 1, X1 2 0) : Int × Int × Int) = (X 1 0, X 1 1, X 2 0)
      rw [x1 1 0 (by omega), x1 1 1 (by omega), x1 2 0 (by omega)]
    · show (if g = a ∧ q = p then v else X1 (80 + g) q) = X (80 + g) q
      by_cases e : g = a ∧ q = p
      · rw [if_pos e, e.1, e.2]; exact hv
      · rw [if_neg e]; exact x1 (80 + g) q (fun z1 z2 => e ⟨by omega, z2⟩)
  · rw [xr 15 (by omega), xr 16 (by omega), xr 17 (by omega), x1 1 1 (by omega)]
    rw [x1 1 0 (by omega)] at q t
    rw [x1 (40 + u) v (by omega)]; exact B.2.2.2.2.1 u v p q s t
  · rw [xr 15 (by omega), xr 16 (by omega), xr 17 (by omega), x1 1 1 (by omega), x1 1 0 (by omega)]
    exact Ds_ext (fun u v p q s t => x1 (50 + u) v (by omega)) B.2.2.2.2.2
  · unfold wpX9_set
    refine hp_R B R (fun _ _ => ⟨fun c => by omega, fun _ => ?_⟩) (fun c => absurd ⟨a0, a1⟩ c)
    refine pl_R B R (fun _ _ => ⟨fun _ => ?_, fun c => by omega⟩) (fun c => absurd ⟨p0, p1⟩ c)
    refine X9_in (fun c1 c2 => ⟨fun _ => ⟨by omega, fun z hz => ⟨by omega, fun y hy => note_R B R H (fun M1 o1 N => ⟨by omega, fun M2 e2 => ?_⟩)⟩⟩, fun c => by omega⟩) (fun d => absurd ⟨by omega, by omega⟩ d)
    have ey : y = v := by rw [hy, hz, hv]; exact R.2.2.1 a p a0 (by omega) p0 (by omega)
    have om : ∀ k i : Int, (k = 0 → i ≠ 10) → k ≠ 4 → (k < 7 ∨ 9 < k) → M2 k i = M k i := fun k i z1 z2 z3 => by rw [e2, mset_r z2]; exact o1 k i z3 z1
    have N2 := hsr_keep (M2 := M2) (fun k i z => by rw [e2, mset_r (by omega)]) N
    refine ⟨ey.symm, B2, ⟨⟨?_, ?_, ?_, ?_, by rw [N2.1, H.2.2.1]⟩, fun j p z => ?_, fun g q y0 y1 y2 y3 => ?_, fun p y0 y1 => ?_, fun u v y0 y1 y2 y3 => ?_, hist_R B R H N2 rfl (by rw [if_pos rfl]; exact hz) (fun _ => ey)⟩, P2, Q2⟩
    · rw [om 0 0 (by omega) (by omega) (by omega), r2 1 0 (by omega) (by omega) (by omega), x1 1 0 (by omega)]; exact R.1.1
    · rw [om 0 1 (by omega) (by omega) (by omega), r2 1 1 (by omega) (by omega) (by omega), x1 1 1 (by omega)]; exact R.1.2.1
    · rw [om 0 5 (by omega) (by omega) (by omega), r2 2 0 (by omega) (by omega) (by omega), x1 2 0 (by omega)]; exact R.1.2.2.1
    · rw [om 0 9 (by omega) (by omega) (by omega), r11, x1 0 11 (by omega)]; exact R.1.2.2.2.1
    · rw [r2 1 1 (by omega) (by omega) (by omega), x1 1 1 (by omega)] at z
      rw [om 1 j (by omega) (by omega) (by omega), om 2 j (by omega) (by omega) (by omega), om 3 j (by omega) (by omega) (by omega), r2 15 j (by omega) (by omega) (by omega), r2 16 j (by omega) (by omega) (by omega), r2 17 j (by omega) (by omega) (by omega), x1 15 j (by omega), x1 16 j (by omega), x1 17 j (by omega)]
      exact R.2.1 j p z
    · rw [r2 (80 + g) q (by omega) (by omega) (by omega)]
      by_cases e : g = a ∧ q = p
      · rw [e2, hz, e.1, e.2, mset_s, xs]
      · rw [x1 (80 + g) q (fun z1 z2 => e ⟨by omega, z2⟩), e2, hz, mset_i (ix_ne y2 y3 p0 (by omega) e), o1 4 _ (by omega) (by omega)]
        exact R.2.2.1 g q y0 y1 y2 y3
    · rw [om 5 p (by omega) (by omega) (by omega), r2 18 p (by omega) (by omega) (by omega), x1 18 p (by omega)]; exact R.2.2.2.1 p y0 y1
    · rw [om 6 _ (by omega) (by omega) (by omega), r2 (60 + u) v (by omega) (by omega) (by omega), x1 (60 + u) v (by omega)]; exact R.2.2.2.2.1 u v y0 y1 y2 y3
theorem s_gate : St_gate Inv := by
  intro p t X M _ _ I
  obtain ⟨B, R, P, Q⟩ := id I
  have w := bsx_wf B
  unfold wpX8_gate jbX8_gate_25
  have bad : ¬ (0 ≤ p ∧ p < X 1 0) → wpX9_gate p t M (fun r1 MR1 => -2 = r1 ∧ Inv X MR1) := fun q => by
    unfold wpX9_gate
    exact pl_R B R (fun q0 q1 => absurd ⟨q0, q1⟩ q) (fun _ => ⟨fun c => absurd rfl c, fun _ => ⟨rfl, I⟩⟩)
  refine X3_has (fun p0 p1 => ⟨fun _ => ?_, fun c => by omega⟩) (fun q => ⟨fun c => absurd rfl c, fun _ => bad (fun c => q c)⟩)
  have out : ¬ (-1 ≤ t ∧ t ≤ 100000) → wpX9_gate p t M (fun r1 MR1 => -3 = r1 ∧ Inv X MR1) := fun q => by
    unfold wpX9_gate
    refine pl_R B R (fun _ _ => ⟨fun _ => ?_, fun c => by omega⟩) (fun c => absurd ⟨p0, p1⟩ c)
    exact X9_in (fun c1 c2 => absurd ⟨c1, c2⟩ q) (fun _ => ⟨fun c => absurd rfl c, fun _ => ⟨rfl, I⟩⟩)
  refine ⟨fun c => out (by omega), fun c => ⟨fun c2 => ⟨by omega, fun v hv => ⟨by omega, fun X1 eX => ?_⟩⟩, fun c2 => out (by omega)⟩⟩
  have x1 : ∀ k i : Int, (k = 18 → i ≠ p) → X1 k i = X k i := fun k i q => by rw [eX]; exact if_neg (fun z => q z.1 z.2)
  have xs : X1 18 p = t := by rw [eX, mset_s]
  have xr : ∀ k : Int, k ≠ 18 → X1 k = X k := fun k q => funext (fun i => x1 k i (by omega))
  refine note_X B (fun k i q => x1 k i (by omega)) (fun j _ _ => ⟨x1 15 j (by omega), x1 16 j (by omega), x1 17 j (by omega)⟩) ?_ (vld_4 ⟨by omega, by omega⟩) ?_ (fun u v p q s t => by rw [x1 (60 + u) v (by omega), x1 1 0 (by omega)]; exact B.2.2.2.1 u v p q s t) (fun u v p q s t => ?_) ?_ (fun X2 c d B2 P2 Q2 r2 r11 H => ?_)
  · rw [xr 15 (by omega), xr 16 (by omega), xr 17 (by omega)]
    refine wf_X (x1 1 0 (by omega)) (x1 1 1 (by omega)) (x1 2 0 (by omega)) w.1 w.2.1 w.2.2.1 w.2.2.2.1 (fun g q y0 y1 y2 y3 => by rw [x1 (80 + g) q (by omega)]; exact w.2.2.2.2.1 g q y0 y1 y2 y3) (fun q y0 y1 => ?_)
    by_cases e : q = p
    · rw [e, xs]; exact ⟨by omega, by omega, fun z => by omega⟩
    · rw [x1 18 q (fun _ => e)]; exact w.2.2.2.2.2 q y0 y1
  · show ceq (coX X) ((X1 1 0, X1 1 1, X1 2 0), (fun g q => X1 (80 + g) q), fun q => if q = p then v else X1 18 q)
    refine ⟨?_, fun g q y0 y1 y2 y3 => x1 (80 + g) q (by omega), fun q _ _ => ?_⟩
    · show ((X1 1 0, X1 1 1, X1 2 0) : Int × Int × Int) = (X 1 0, X 1 1, X 2 0)
      rw [x1 1 0 (by omega), x1 1 1 (by omega), x1 2 0 (by omega)]
    · show (if q = p then v else X1 18 q) = X 18 q
      by_cases e : q = p
      · rw [if_pos e, e]; exact hv
      · rw [if_neg e]; exact x1 18 q (fun _ => e)
  · rw [xr 15 (by omega), xr 16 (by omega), xr 17 (by omega), x1 1 1 (by omega)]
    rw [x1 1 0 (by omega)] at q t
    rw [x1 (40 + u) v (by omega)]; exact B.2.2.2.2.1 u v p q s t
  · rw [xr 15 (by omega), xr 16 (by omega), xr 17 (by omega), x1 1 1 (by omega), x1 1 0 (by omega)]
    exact Ds_ext (fun u v p q s t => x1 (50 + u) v (by omega)) B.2.2.2.2.2
  · unfold wpX9_gate
    refine pl_R B R (fun _ _ => ⟨fun _ => ?_, fun c => by omega⟩) (fun c => absurd ⟨p0, p1⟩ c)
    refine X9_in (fun c1 c2 => ⟨fun _ => ⟨by omega, fun y hy => note_R B R H (fun M1 o1 N => ⟨by omega, fun M2 e2 => ?_⟩)⟩, fun c => by omega⟩) (fun d => absurd ⟨by omega, by omega⟩ d)
    have ey : y = v := by rw [hy, hv]; exact R.2.2.2.1 p p0 (by omega)
    have om : ∀ k i : Int, (k = 0 → i ≠ 10) → k ≠ 5 → (k < 7 ∨ 9 < k) → M2 k i = M k i := fun k i z1 z2 z3 => by rw [e2, mset_r z2]; exact o1 k i z3 z1
    have N2 := hsr_keep (M2 := M2) (fun k i z => by rw [e2, mset_r (by omega)]) N
    refine ⟨ey.symm, B2, ⟨⟨?_, ?_, ?_, ?_, by rw [N2.1, H.2.2.1]⟩, fun j p z => ?_, fun g q y0 y1 y2 y3 => ?_, fun q y0 y1 => ?_, fun u v y0 y1 y2 y3 => ?_, hist_R B R H N2 rfl (by rw [if_neg (by decide)]) (fun _ => ey)⟩, P2, Q2⟩
    · rw [om 0 0 (by omega) (by omega) (by omega), r2 1 0 (by omega) (by omega) (by omega), x1 1 0 (by omega)]; exact R.1.1
    · rw [om 0 1 (by omega) (by omega) (by omega), r2 1 1 (by omega) (by omega) (by omega), x1 1 1 (by omega)]; exact R.1.2.1
    · rw [om 0 5 (by omega) (by omega) (by omega), r2 2 0 (by omega) (by omega) (by omega), x1 2 0 (by omega)]; exact R.1.2.2.1
    · rw [om 0 9 (by omega) (by omega) (by omega), r11, x1 0 11 (by omega)]; exact R.1.2.2.2.1
    · rw [r2 1 1 (by omega) (by omega) (by omega), x1 1 1 (by omega)] at z
      rw [om 1 j (by omega) (by omega) (by omega), om 2 j (by omega) (by omega) (by omega), om 3 j (by omega) (by omega) (by omega), r2 15 j (by omega) (by omega) (by omega), r2 16 j (by omega) (by omega) (by omega), r2 17 j (by omega) (by omega) (by omega), x1 15 j (by omega), x1 16 j (by omega), x1 17 j (by omega)]
      exact R.2.1 j p z
    · rw [om 4 _ (by omega) (by omega) (by omega), r2 (80 + g) q (by omega) (by omega) (by omega), x1 (80 + g) q (by omega)]
      exact R.2.2.1 g q y0 y1 y2 y3
    · rw [r2 18 q (by omega) (by omega) (by omega)]
      by_cases e : q = p
      · rw [e2, e, mset_s, xs]
      · rw [x1 18 q (fun _ => e), e2, mset_i e, o1 5 q (by omega) (by omega)]; exact R.2.2.2.1 q y0 y1
    · rw [om 6 _ (by omega) (by omega) (by omega), r2 (60 + u) v (by omega) (by omega) (by omega), x1 (60 + u) v (by omega)]; exact R.2.2.2.2.1 u v y0 y1 y2 y3
