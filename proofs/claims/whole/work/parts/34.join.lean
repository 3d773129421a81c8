/-! arcs are laid -/
def Jn (z : Int) (M M' : Mem) (a1 a2 a3 a4 : Int) : Prop :=
  M' (8 + z) 0 = M (8 + z) 0 + 2 ∧ M' (8 + z) 1 = M (8 + z) 1 ∧ M' (8 + z) 2 = M (8 + z) 2
  ∧ M' (28 + z) = up (up (M (28 + z)) (M (8 + z) 0) a1) (M (8 + z) 0 + 1) a2 ∧ M' (30 + z) = up (up (M (30 + z)) (M (8 + z) 0) a2) (M (8 + z) 0 + 1) a1
  ∧ M' (32 + z) = up (up (M (32 + z)) (M (8 + z) 0) a3) (M (8 + z) 0 + 1) 0 ∧ M' (34 + z) = up (up (M (34 + z)) (M (8 + z) 0) a4) (M (8 + z) 0 + 1) (-a4)
  ∧ ∀ k : Int, k ≠ 8 + z → k ≠ 28 + z → k ≠ 30 + z → k ≠ 32 + z → k ≠ 34 + z → M' k = M k
theorem up2_lo {f : Int → Int} {N a b e : Int} (h : e < N) : up (up f N a) (N + 1) b e = f e := by
  rw [up_n (by omega), up_n (by omega)]
theorem up2_a (f : Int → Int) (N a b : Int) : up (up f N a) (N + 1) b N = a := by
  rw [up_n (by omega), up_s]
theorem fs_join {N a b : Int} {R φ φ' : Int → Int} (hN : N % 2 = 0) (h0 : 0 ≤ N) (hφ : ∀ e : Int, 0 ≤ e → e < N → φ' e = φ e) (hb : b = 0) : fs (N + 2) (up (up R N a) (N + 1) b) φ' = fs N R φ := by
  unfold fs
  rw [show (N + 2) / 2 = N / 2 + 1 by omega, su_s (by omega), show 2 * (N / 2) + 1 = N + 1 by omega, up_s, hb, Int.zero_mul, Int.add_zero]
  exact su_congr (fun j j0 j1 => by rw [up2_lo (by omega), hφ _ (by omega) (by omega)])
theorem X5_addArc {z a1 a2 a3 a4 : Int} {M : Mem} {post : Mem → Prop} (hz : z = 0 ∨ z = 1) (h0 : 0 ≤ M (8 + z) 0) (h1 : M (8 + z) 0 < 240)
    (h : ∀ M' : Mem, M' (8 + z) 0 = M (8 + z) 0 + 1 → M' (8 + z) 1 = M (8 + z) 1 → M' (8 + z) 2 = M (8 + z) 2 → M' (28 + z) = up (M (28 + z)) (M (8 + z) 0) a1 → M' (30 + z) = up (M (30 + z)) (M (8 + z) 0) a2 → M' (32 + z) = up (M (32 + z)) (M (8 + z) 0) a3 → M' (34 + z) = up (M (34 + z)) (M (8 + z) 0) a4 → (∀ k : Int, k ≠ 8 + z → k ≠ 28 + z → k ≠ 30 + z → k ≠ 32 + z → k ≠ 34 + z → M' k = M k) → post M') : wpX5_addArc z a1 a2 a3 a4 M post := by
  unfold wpX5_addArc
  refine ⟨⟨h0, h1⟩, fun M1 e1 => ?_⟩
  have f1 : M1 (8 + z) = M (8 + z) := by rw [e1, row_ne (by omega)]
  rw [f1]
  refine ⟨⟨h0, h1⟩, fun M2 e2 => ?_⟩
  have f2 : M2 (8 + z) = M (8 + z) := by rw [e2, row_ne (by omega), f1]
  rw [f2]
  refine ⟨⟨h0, h1⟩, fun M3 e3 => ?_⟩
  have f3 : M3 (8 + z) = M (8 + z) := by rw [e3, row_ne (by omega), f2]
  rw [f3]
  refine ⟨⟨h0, h1⟩, fun M4 e4 => ?_⟩
  have f4 : M4 (8 + z) = M (8 + z) := by rw [e4, row_ne (by omega), f3]
  rw [f4]
  refine ⟨by omega, fun M5 e5 => ?_⟩
  refine h M5 ?_ ?_ ?_ ?_ ?_ ?_ ?_ (fun k p1 p2 p3 p4 p5 => ?_)
  · rw [e5, mset_s]
  · rw [e5, mset_i (by omega), f4]
  · rw [e5, mset_i (by omega), f4]
  · rw [e5, row_ne (by omega), e4, row_ne (by omega), e3, row_ne (by omega), e2, row_ne (by omega), e1, row_up]
  · rw [e5, row_ne (by omega), e4, row_ne (by omega), e3, row_ne (by omega), e2, row_up, e1, row_ne (by omega)]
  · rw [e5, row_ne (by omega), e4, row_ne (by omega), e3, row_up, e2, row_ne (by omega), e1, row_ne (by omega)]
  · rw [e5, row_ne (by omega), e4, row_up, e3, row_ne (by omega), e2, row_ne (by omega), e1, row_ne (by omega)]
  · rw [e5, row_ne p1, e4, row_ne p5, e3, row_ne p4, e2, row_ne p3, e1, row_ne p2]
theorem jn_S {z a1 a2 a3 a4 : Int} {M M' : Mem} (hS : NetS z M) (hN : M (8 + z) 0 + 2 ≤ 240) (h1 : 0 ≤ a1 ∧ a1 < 22) (h2 : 0 ≤ a2 ∧ a2 < 22) (h4 : -9000 ≤ a4 ∧ a4 ≤ 9000) (hj : Jn z M M' a1 a2 a3 a4) : NetS z M' := by
  obtain ⟨⟨n0, n1⟩, hA, hP⟩ := hS
  obtain ⟨j0, j1, j2, jT, jQ, jR, jP, jO⟩ := hj
  unfold NetS
  rw [j0, jT, jQ, jP]
  refine ⟨by omega, fun e e0 e1 => ?_, by have := hP.1; omega, fun e e0 e1 => ?_⟩
  · by_cases c1 : e = M (8 + z) 0 + 1
    · rw [c1, up_s, up_s, up_s]; omega
    · by_cases c2 : e = M (8 + z) 0
      · rw [c2, up2_a, up2_a, up2_a]; omega
      · rw [up2_lo (by omega), up2_lo (by omega), up2_lo (by omega)]; exact hA e e0 (by omega)
  · have hp := hP.1
    by_cases c1 : e = M (8 + z) 0 + 1
    · have : pr1 e = M (8 + z) 0 := by unfold pr1; rw [if_neg (by omega)]; omega
      rw [this, c1, up_s, up_s, up_s, up2_a, up2_a, up2_a]
      exact ⟨rfl, rfl, by omega⟩
    · by_cases c2 : e = M (8 + z) 0
      · have : pr1 e = M (8 + z) 0 + 1 := by unfold pr1; rw [if_pos (by omega)]; omega
        rw [this, c2, up_s, up_s, up_s, up2_a, up2_a, up2_a]
        exact ⟨rfl, rfl, rfl⟩
      · obtain ⟨q0, q1⟩ := pr1_in e0 (show e < M (8 + z) 0 by omega) hp
        rw [up2_lo (by omega), up2_lo (by omega), up2_lo (by omega), up2_lo (by omega), up2_lo (by omega), up2_lo (by omega)]
        exact hP.2 e e0 (by omega)
theorem jn_D {z a1 a2 a3 a4 : Int} {M M' : Mem} {π : Int → Int} (hS : NetS z M) (hD : NetD z M π) (h3 : 0 ≤ a3 ∧ a3 ≤ 1000000) (hπ : 0 < a3 → π a2 ≤ π a1 + a4) (hj : Jn z M M' a1 a2 a3 a4) : NetD z M' π := by
  obtain ⟨⟨n0, n1⟩, hA, hP⟩ := hS
  obtain ⟨j0, j1, j2, jT, jQ, jR, jP, jO⟩ := hj
  obtain ⟨d1, d2, d3, d4, d5, d6, d7⟩ := hD
  have hp := hP.1
  unfold NetD PotZ
  rw [j0, j1, j2, jT, jQ, jR, jP]
  refine ⟨fun e e0 e1 => ?_, fun e e0 e1 e2 => ?_, d3, d4, fun w => ?_, ?_, d7.1, fun e e0 e1 e2 => ?_⟩
  · by_cases c1 : e = M (8 + z) 0 + 1
    · have : pr1 e = M (8 + z) 0 := by unfold pr1; rw [if_neg (by omega)]; omega
      rw [this, c1, up_s, up2_a]; omega
    · by_cases c2 : e = M (8 + z) 0
      · have : pr1 e = M (8 + z) 0 + 1 := by unfold pr1; rw [if_pos (by omega)]; omega
        rw [this, c2, up_s, up2_a]; omega
      · obtain ⟨q0, q1⟩ := pr1_in e0 (show e < M (8 + z) 0 by omega) hp
        rw [up2_lo (by omega), up2_lo (by omega)]
        exact d1 e e0 (by omega)
  · by_cases c1 : e = M (8 + z) 0 + 1
    · rw [c1, up_s] at e2; omega
    · by_cases c2 : e = M (8 + z) 0
      · rw [c2, up2_a] at e2
        rw [c2, up2_a, up2_a, up2_a]
        exact hπ e2
      · rw [up2_lo (by omega)] at e2
        rw [up2_lo (by omega), up2_lo (by omega), up2_lo (by omega)]
        exact d2 e e0 (by omega) e2
  · rw [fs_join (φ := fun e => w (M (28 + z) e) - w (M (30 + z) e)) hp n0 (fun e e0 e1 => by
      show w (up (up (M (28 + z)) _ _) _ _ e) - w (up (up (M (30 + z)) _ _) _ _ e) = _
      rw [up2_lo e1, up2_lo e1]) rfl]
    exact d5 w
  · rw [fs_join (φ := M (34 + z)) hp n0 (fun e e0 e1 => up2_lo e1) rfl]
    exact d6
  · by_cases c1 : e = M (8 + z) 0 + 1
    · rw [c1, up_s]; exact d7.1.1
    · rw [up2_lo (by omega)]
      exact d7.2 e e0 (by omega) e2
theorem X5_join {z a1 a2 a3 a4 : Int} {M : Mem} {π : Int → Int} {post : Mem → Prop} (hz : z = 0 ∨ z = 1) (hS : NetS z M) (hD : NetD z M π) (hN : M (8 + z) 0 + 2 ≤ 240) (h1 : 0 ≤ a1 ∧ a1 < 22) (h2 : 0 ≤ a2 ∧ a2 < 22) (h3 : 0 ≤ a3 ∧ a3 ≤ 1000000) (h4 : -9000 ≤ a4 ∧ a4 ≤ 9000) (hπ : 0 < a3 → π a2 ≤ π a1 + a4)
    (h : ∀ M' : Mem, Jn z M M' a1 a2 a3 a4 → NetS z M' → NetD z M' π → post M') : wpX5_join z a1 a2 a3 a4 M post := by
  unfold wpX5_join
  have n0 := hS.1.1
  refine ⟨by omega, fun _ => ?_, fun q => absurd hN q⟩
  refine X5_addArc hz n0 (by omega) (fun M1 x0 x1 x2 xT xQ xR xP xO => ⟨by omega, X5_addArc hz (by omega) (by omega) (fun M2 y0 y1 y2 yT yQ yR yP yO => ?_)⟩)
  have hj : Jn z M M2 a1 a2 a3 a4 := by
    refine ⟨by omega, by rw [y1, x1], by rw [y2, x2], by rw [yT, xT, x0], by rw [yQ, xQ, x0], by rw [yR, xR, x0], by rw [yP, xP, x0], fun k p1 p2 p3 p4 p5 => by rw [yO k p1 p2 p3 p4 p5, xO k p1 p2 p3 p4 p5]⟩
  exact h M2 hj (jn_S hS hN h1 h2 h4 hj) (jn_D hS hD h3 hπ hj)
theorem X5_empty {z : Int} {M : Mem} {post : Mem → Prop} (h : ∀ M' : Mem, M' (8 + z) 0 = 0 → M' (8 + z) 1 = 0 → M' (8 + z) 2 = 0 → (∀ k : Int, k ≠ 8 + z → M' k = M k) → NetS z M' → NetD z M' (fun _ => 0) → post M') : wpX5_empty z M post := by
  intro M1 e1 M2 e2 M3 e3
  have g0 : M3 (8 + z) 0 = 0 := by rw [e3, mset_i (by omega), e2, mset_i (by omega), e1, mset_s]
  have g1 : M3 (8 + z) 1 = 0 := by rw [e3, mset_i (by omega), e2, mset_s]
  have g2 : M3 (8 + z) 2 = 0 := by rw [e3, mset_s]
  refine h M3 g0 g1 g2 (fun k hk => by rw [e3, row_ne hk, e2, row_ne hk, e1, row_ne hk]) ?_ ?_
  · unfold NetS
    rw [g0]
    exact ⟨by omega, fun e _ _ => by omega, by omega, fun e _ _ => by omega⟩
  · unfold NetD PotZ
    rw [g0, g1, g2]
    refine ⟨fun e _ _ => by omega, fun e _ _ => by omega, fun _ _ _ => Int.le_refl _, rfl, fun w => ?_, rfl, by omega, fun e _ _ => by omega⟩
    rw [Int.zero_mul]; rfl
/-- arc 2 j from a1 to a2, of room a3, at the price a4 -/
def Arc (z : Int) (M : Mem) (j a1 a2 a3 a4 : Int) : Prop := 0 ≤ j ∧ 2 * j + 1 < M (8 + z) 0 ∧ M (28 + z) (2 * j) = a1 ∧ M (30 + z) (2 * j) = a2 ∧ M (32 + z) (2 * j) + M (32 + z) (2 * j + 1) = a3 ∧ M (34 + z) (2 * j) = a4
theorem arc_jn {z b1 b2 b3 b4 : Int} {M M' : Mem} {j a1 a2 a3 a4 : Int} (hj : Jn z M M' b1 b2 b3 b4) (h : Arc z M j a1 a2 a3 a4) : Arc z M' j a1 a2 a3 a4 := by
  obtain ⟨j0, j1, j2, jT, jQ, jR, jP, jO⟩ := hj
  obtain ⟨g1, g2, g3, g4, g5, g6⟩ := h
  unfold Arc
  rw [j0, jT, jQ, jR, jP, up2_lo (by omega), up2_lo (by omega), up2_lo (by omega), up2_lo (by omega), up2_lo (by omega)]
  exact ⟨g1, by omega, g3, g4, g5, g6⟩
theorem arc_new {z b1 b2 b3 b4 : Int} {M M' : Mem} (hS : NetS z M) (hj : Jn z M M' b1 b2 b3 b4) : Arc z M' (M (8 + z) 0 / 2) b1 b2 b3 b4 := by
  have hp := hS.2.2.1
  have hn := hS.1.1
  obtain ⟨j0, j1, j2, jT, jQ, jR, jP, jO⟩ := hj
  have e : 2 * (M (8 + z) 0 / 2) = M (8 + z) 0 := by omega
  unfold Arc
  rw [j0, jT, jQ, jR, jP, e, up_s, up2_a, up2_a, up2_a, up2_a]
  exact ⟨by omega, by omega, rfl, rfl, by omega, rfl⟩
theorem arc_off {z : Int} {M M' : Mem} {j a1 a2 a3 a4 : Int} (hz : z = 0 ∨ z = 1) (hO : OffN z M M') (h : Arc z M j a1 a2 a3 a4) : Arc z M' j a1 a2 a3 a4 := by
  obtain ⟨o1, o2, o3⟩ := hO
  obtain ⟨g1, g2, g3, g4, g5, g6⟩ := h
  unfold Arc
  have e := o3 (2 * j) (by omega) (by omega)
  rw [pr1_e] at e
  rw [o2, o1 (28 + z) (by omega) (by omega) (by omega) (by omega), o1 (30 + z) (by omega) (by omega) (by omega) (by omega), o1 (34 + z) (by omega) (by omega) (by omega) (by omega), e]
  exact ⟨g1, g2, g3, g4, g5, g6⟩
theorem sum_jn {z b1 b2 b3 b4 : Int} {M M' : Mem} (hS : NetS z M) (hj : Jn z M M' b1 b2 b3 b4) (φ : Int → Int) : su (M' (8 + z) 0 / 2) φ = su (M (8 + z) 0 / 2) φ + φ (M (8 + z) 0 / 2) := by
  have hp := hS.2.2.1
  have hn := hS.1.1
  rw [hj.1, show (M (8 + z) 0 + 2) / 2 = M (8 + z) 0 / 2 + 1 by omega, su_s (by omega)]
