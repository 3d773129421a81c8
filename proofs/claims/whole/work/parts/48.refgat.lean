/-! the reference's gated -/
def RD (M : Mem) (π : Int → Int) (mv sp : Int) : Prop :=
  (∀ e : Int, 0 ≤ e → e < M 0 24 → 0 ≤ M 22 e ∧ M 22 e + M 22 (pr1 e) ≤ 1000000000) ∧ PotV M π ∧ (∀ x : Int, 0 ≤ x → x < 22 → 0 ≤ π x) ∧ π 20 = 0
  ∧ (∀ w : Int → Int, fs (M 0 24) (M 22) (fun e => w (M 20 e) - w (M 21 e)) = mv * (w 20 - w 21))
  ∧ fs (M 0 24) (M 22) (M 23) = sp ∧ (0 ≤ mv ∧ 0 ≤ sp ∧ sp ≤ mv * 198000)
  ∧ ∀ e : Int, 0 ≤ e → e < M 0 24 → e % 2 = 1 → M 22 e ≤ mv
def Jr (M M' : Mem) (a1 a2 a3 a4 : Int) : Prop :=
  M' 0 24 = M 0 24 + 2 ∧ (∀ i : Int, i ≠ 24 → M' 0 i = M 0 i) ∧ M' 20 = up (up (M 20) (M 0 24) a1) (M 0 24 + 1) a2 ∧ M' 21 = up (up (M 21) (M 0 24) a2) (M 0 24 + 1) a1
  ∧ M' 22 = up (up (M 22) (M 0 24) a3) (M 0 24 + 1) 0 ∧ M' 23 = up (up (M 23) (M 0 24) a4) (M 0 24 + 1) (-a4)
  ∧ ∀ k : Int, k ≠ 0 → k ≠ 20 → k ≠ 21 → k ≠ 22 → k ≠ 23 → M' k = M k
def RArc (M : Mem) (j a1 a2 a3 a4 : Int) : Prop := 0 ≤ j ∧ 2 * j + 1 < M 0 24 ∧ M 20 (2 * j) = a1 ∧ M 21 (2 * j) = a2 ∧ M 22 (2 * j) + M 22 (2 * j + 1) = a3 ∧ M 23 (2 * j) = a4
theorem X9_arc {a1 a2 a3 a4 : Int} {M : Mem} {π : Int → Int} {post : Mem → Prop} (hS : RS M) (hD : RD M π 0 0) (hN : M 0 24 + 2 ≤ 200) (h1 : 0 ≤ a1 ∧ a1 < 22) (h2 : 0 ≤ a2 ∧ a2 < 22) (h3 : 0 ≤ a3 ∧ a3 ≤ 1000000000) (h4 : -9000 ≤ a4 ∧ a4 ≤ 9000) (hπ : 0 < a3 → π a2 ≤ π a1 + a4)
    (h : ∀ M' : Mem, Jr M M' a1 a2 a3 a4 → RS M' → RD M' π 0 0 → post M') : wpX9_arc a1 a2 a3 a4 M post := by
  obtain ⟨⟨n0, n1⟩, hA, hP⟩ := hS
  obtain ⟨d1, d2, d3, d4, d5, d6, d7, d8⟩ := hD
  have hp := hP.1
  unfold wpX9_arc
  refine ⟨by omega, fun M1 e1 => ?_⟩
  have f1 : M1 0 = M 0 := by rw [e1, row_ne (by omega)]
  rw [f1]
  refine ⟨by omega, fun M2 e2 => ?_⟩
  have f2 : M2 0 = M 0 := by rw [e2, row_ne (by omega), f1]
  rw [f2]
  refine ⟨by omega, fun M3 e3 => ?_⟩
  have f3 : M3 0 = M 0 := by rw [e3, row_ne (by omega), f2]
  rw [f3]
  refine ⟨by omega, fun M4 e4 => ?_⟩
  have f4 : M4 0 = M 0 := by rw [e4, row_ne (by omega), f3]
  rw [f4]
  refine ⟨by omega, fun M5 e5 => ?_⟩
  have f5 : M5 0 = M 0 := by rw [e5, row_ne (by omega), f4]
  rw [f5]
  refine ⟨by omega, fun M6 e6 => ?_⟩
  have f6 : M6 0 = M 0 := by rw [e6, row_ne (by omega), f5]
  rw [f6]
  refine ⟨by omega, fun M7 e7 => ?_⟩
  have f7 : M7 0 = M 0 := by rw [e7, row_ne (by omega), f6]
  rw [f7]
  refine ⟨by omega, by omega, fun M8 e8 => ?_⟩
  have f8 : M8 0 = M 0 := by rw [e8, row_ne (by omega), f7]
  rw [f8]
  refine ⟨by omega, fun M9 e9 => ?_⟩
  have j0 : M9 0 24 = M 0 24 + 2 := by rw [e9, mset_s]
  have jT : M9 20 = up (up (M 20) (M 0 24) a1) (M 0 24 + 1) a2 := by
    rw [e9, row_ne (by omega), e8, row_ne (by omega), e7, row_ne (by omega), e6, row_ne (by omega), e5, row_up, e4, row_ne (by omega), e3, row_ne (by omega), e2, row_ne (by omega), e1, row_up]
  have jQ : M9 21 = up (up (M 21) (M 0 24) a2) (M 0 24 + 1) a1 := by
    rw [e9, row_ne (by omega), e8, row_ne (by omega), e7, row_ne (by omega), e6, row_up, e5, row_ne (by omega), e4, row_ne (by omega), e3, row_ne (by omega), e2, row_up, e1, row_ne (by omega)]
  have jR : M9 22 = up (up (M 22) (M 0 24) a3) (M 0 24 + 1) 0 := by
    rw [e9, row_ne (by omega), e8, row_ne (by omega), e7, row_up, e6, row_ne (by omega), e5, row_ne (by omega), e4, row_ne (by omega), e3, row_up, e2, row_ne (by omega), e1, row_ne (by omega)]
  have jP : M9 23 = up (up (M 23) (M 0 24) a4) (M 0 24 + 1) (-a4) := by
    rw [e9, row_ne (by omega), e8, row_up, e7, row_ne (by omega), e6, row_ne (by omega), e5, row_ne (by omega), e4, row_up, e3, row_ne (by omega), e2, row_ne (by omega), e1, row_ne (by omega)]
  refine h M9 ⟨j0, fun i hi => by rw [e9, mset_i hi, f8], jT, jQ, jR, jP, fun k p1 p2 p3 p4 p5 => by rw [e9, row_ne p1, e8, row_ne p5, e7, row_ne p4, e6, row_ne p3, e5, row_ne p2, e4, row_ne p5, e3, row_ne p4, e2, row_ne p3, e1, row_ne p2]⟩ ?_ ?_
  · unfold RS
    rw [j0, jT, jQ, jP]
    refine ⟨by omega, fun e e0 e1 => ?_, by omega, fun e e0 e1 => ?_⟩
    · by_cases c1 : e = M 0 24 + 1
      · rw [c1, up_s, up_s, up_s]; omega
      · by_cases c2 : e = M 0 24
        · rw [c2, up2_a, up2_a, up2_a]; omega
        · rw [up2_lo (by omega), up2_lo (by omega), up2_lo (by omega)]; exact hA e e0 (by omega)
    · by_cases c1 : e = M 0 24 + 1
      · have : pr1 e = M 0 24 := by unfold pr1; rw [if_neg (by omega)]; omega
        rw [this, c1, up_s, up_s, up_s, up2_a, up2_a, up2_a]
        exact ⟨rfl, rfl, by omega⟩
      · by_cases c2 : e = M 0 24
        · have : pr1 e = M 0 24 + 1 := by unfold pr1; rw [if_pos (by omega)]; omega
          rw [this, c2, up_s, up_s, up_s, up2_a, up2_a, up2_a]
          exact ⟨rfl, rfl, rfl⟩
        · obtain ⟨q0, q1⟩ := pr1_in e0 (show e < M 0 24 by omega) hp
          rw [up2_lo (by omega), up2_lo (by omega), up2_lo (by omega), up2_lo (by omega), up2_lo (by omega), up2_lo (by omega)]
          exact hP.2 e e0 (by omega)
  · unfold RD PotV
    rw [j0, jT, jQ, jR, jP]
    refine ⟨fun e e0 e1 => ?_, fun e e0 e1 e2 => ?_, d3, d4, fun w => ?_, ?_, d7, fun e e0 e1 e2 => ?_⟩
    · by_cases c1 : e = M 0 24 + 1
      · have : pr1 e = M 0 24 := by unfold pr1; rw [if_neg (by omega)]; omega
        rw [this, c1, up_s, up2_a]; omega
      · by_cases c2 : e = M 0 24
        · have : pr1 e = M 0 24 + 1 := by unfold pr1; rw [if_pos (by omega)]; omega
          rw [this, c2, up_s, up2_a]; omega
        · obtain ⟨q0, q1⟩ := pr1_in e0 (show e < M 0 24 by omega) hp
          rw [up2_lo (by omega), up2_lo (by omega)]
          exact d1 e e0 (by omega)
    · by_cases c1 : e = M 0 24 + 1
      · rw [c1, up_s] at e2; omega
      · by_cases c2 : e = M 0 24
        · rw [c2, up2_a] at e2
          rw [c2, up2_a, up2_a, up2_a]
          exact hπ e2
        · rw [up2_lo (by omega)] at e2
          rw [up2_lo (by omega), up2_lo (by omega), up2_lo (by omega)]
          exact d2 e e0 (by omega) e2
    · rw [fs_join (φ := fun e => w (M 20 e) - w (M 21 e)) hp n0 (fun e e0 e1 => by
        show w (up (up (M 20) _ _) _ _ e) - w (up (up (M 21) _ _) _ _ e) = _
        rw [up2_lo e1, up2_lo e1]) rfl]
      exact d5 w
    · rw [fs_join (φ := M 23) hp n0 (fun e e0 e1 => up2_lo e1) rfl]
      exact d6
    · by_cases c1 : e = M 0 24 + 1
      · rw [c1, up_s]; exact Int.le_refl _
      · rw [up2_lo (by omega)]
        exact d8 e e0 (by omega) e2
theorem rarc_jn {b1 b2 b3 b4 : Int} {M M' : Mem} {j a1 a2 a3 a4 : Int} (hj : Jr M M' b1 b2 b3 b4) (h : RArc M j a1 a2 a3 a4) : RArc M' j a1 a2 a3 a4 := by
  obtain ⟨j0, j1, jT, jQ, jR, jP, jO⟩ := hj
  obtain ⟨g1, g2, g3, g4, g5, g6⟩ := h
  unfold RArc
  rw [j0, jT, jQ, jR, jP, up2_lo (by omega), up2_lo (by omega), up2_lo (by omega), up2_lo (by omega), up2_lo (by omega)]
  exact ⟨g1, by omega, g3, g4, g5, g6⟩
theorem rarc_new {b1 b2 b3 b4 : Int} {M M' : Mem} (hS : RS M) (hj : Jr M M' b1 b2 b3 b4) : RArc M' (M 0 24 / 2) b1 b2 b3 b4 := by
  have hp := hS.2.2.1
  have hn := hS.1.1
  obtain ⟨j0, j1, jT, jQ, jR, jP, jO⟩ := hj
  have e : 2 * (M 0 24 / 2) = M 0 24 := by omega
  unfold RArc
  rw [j0, jT, jQ, jR, jP, e, up_s, up2_a, up2_a, up2_a, up2_a]
  exact ⟨by omega, by omega, rfl, rfl, by omega, rfl⟩
theorem rsum_jn {b1 b2 b3 b4 : Int} {M M' : Mem} (hS : RS M) (hj : Jr M M' b1 b2 b3 b4) (φ : Int → Int) : su (M' 0 24 / 2) φ = su (M 0 24 / 2) φ + φ (M 0 24 / 2) := by
  have hp := hS.2.2.1
  have hn := hS.1.1
  rw [hj.1, show (M 0 24 + 2) / 2 = M 0 24 / 2 + 1 by omega, su_s (by omega)]
/-- rows that gated writes: 20 to 25, and the number of arcs -/
def OffA (M M' : Mem) : Prop := (∀ k : Int, k ≠ 0 → (k < 20 ∨ 25 < k) → M' k = M k) ∧ ∀ i : Int, i ≠ 24 → M' 0 i = M 0 i
theorem offA_jr {M M1 M2 : Mem} {a1 a2 a3 a4 : Int} (h : OffA M M1) (hj : Jr M1 M2 a1 a2 a3 a4) : OffA M M2 := by
  obtain ⟨j0, j1, jT, jQ, jR, jP, jO⟩ := hj
  exact ⟨fun k p1 p2 => by rw [jO k p1 (by omega) (by omega) (by omega) (by omega)]; exact h.1 k p1 p2, fun i hi => by rw [j1 i hi]; exact h.2 i hi⟩
def capR (B : Int → Int) (u : Int) : Int := if B u = -1 then 1000000000 else B u
/-- the reference's arcs -/
def GR (n r : Int) (α β B U V L : Int → Int) (M : Mem) (jg je j1 j2 : Int → Int) : Prop :=
  (∀ u : Int, 0 ≤ u → u < n → RArc M (jg u) u (10 + u) (capR B u) 0 ∧ (β u < α u → RArc M (je u) 20 u (α u - β u) 0) ∧ (¬ β u < α u → RArc M (je u) u 21 (β u - α u) 0)) ∧ (∀ i : Int, 0 ≤ i → i < r → RArc M (j1 i) (10 + U i) (V i) 1000000000 (L i) ∧ RArc M (j2 i) (10 + V i) (U i) 1000000000 (L i))
  ∧ ∀ φ : Int → Int, su (M 0 24 / 2) φ = su n (fun u => φ (jg u) + φ (je u)) + su r (fun i => φ (j1 i) + φ (j2 i))
theorem GR_jn {n r : Int} {α β B U V L : Int → Int} {M M' : Mem} {jg je j1 j2 : Int → Int} {b1 b2 b3 b4 : Int} (hj : Jr M M' b1 b2 b3 b4) (h : (∀ u : Int, 0 ≤ u → u < n → RArc M (jg u) u (10 + u) (capR B u) 0 ∧ (β u < α u → RArc M (je u) 20 u (α u - β u) 0) ∧ (¬ β u < α u → RArc M (je u) u 21 (β u - α u) 0)) ∧ (∀ i : Int, 0 ≤ i → i < r → RArc M (j1 i) (10 + U i) (V i) 1000000000 (L i) ∧ RArc M (j2 i) (10 + V i) (U i) 1000000000 (L i))) : (∀ u : Int, 0 ≤ u → u < n → RArc M' (jg u) u (10 + u) (capR B u) 0 ∧ (β u < α u → RArc M' (je u) 20 u (α u - β u) 0) ∧ (¬ β u < α u → RArc M' (je u) u 21 (β u - α u) 0)) ∧ (∀ i : Int, 0 ≤ i → i < r → RArc M' (j1 i) (10 + U i) (V i) 1000000000 (L i) ∧ RArc M' (j2 i) (10 + V i) (U i) 1000000000 (L i)) := by
  refine ⟨fun u a b => ?_, fun i a b => ?_⟩
  · obtain ⟨g1, g2, g3⟩ := h.1 u a b
    exact ⟨rarc_jn hj g1, fun q => rarc_jn hj (g2 q), fun q => rarc_jn hj (g3 q)⟩
  · obtain ⟨g1, g2⟩ := h.2 i a b
    exact ⟨rarc_jn hj g1, rarc_jn hj g2⟩
/-- the arcs are laid -/
theorem rg_build {n r a b : Int} {α β B U V L : Int → Int} {M : Mem} {post : Int → Mem → Prop} (hn : 0 ≤ n ∧ n ≤ 10) (hr : 0 ≤ r ∧ r ≤ 30) (ha : 0 ≤ a ∧ a < 8) (hb : 0 ≤ b ∧ b < 8) (e0 : M 0 0 = n) (e1 : M 0 1 = r) (hz : M 0 24 = 0) (hα : ∀ v : Int, 0 ≤ v → v < n → (0 ≤ α v ∧ α v ≤ 1000) ∧ 0 ≤ β v ∧ β v ≤ 1000) (hM : ∀ v : Int, 0 ≤ v → v < n → M 4 (10 * a + v) = α v ∧ M 4 (10 * b + v) = β v) (hB : ∀ v : Int, 0 ≤ v → v < n → M 5 v = B v ∧ -1 ≤ B v ∧ B v ≤ 100000) (hU : ∀ j : Int, 0 ≤ j → j < r → M 1 j = U j ∧ M 2 j = V j ∧ M 3 j = L j) (hR : Rds n r U V L)
    (h : ∀ (M' : Mem) (jg je j1 j2 : Int → Int), OffA M M' → RS M' → RD M' (fun _ => 0) 0 0 → GR n r α β B U V L M' jg je j1 j2 → ∃ j, lpX9_gated_220 post j (su n (fun u => if β u < α u then α u - β u else 0)) 0 M') : ∃ j, lpX9_gated_24 post j a b 0 0 M := by
  have S0 : RS M := by
    unfold RS
    rw [hz]
    exact ⟨by omega, fun e _ _ => by omega, by omega, fun e _ _ => by omega⟩
  have D0 : RD M (fun _ => 0) 0 0 := by
    unfold RD PotV
    rw [hz]
    refine ⟨fun e _ _ => by omega, fun e _ _ => by omega, fun _ _ _ => Int.le_refl _, rfl, fun w => ?_, rfl, by omega, fun e _ _ => by omega⟩
    rw [Int.zero_mul]; rfl
  have key2 : ∀ (f : Nat) (x : Int) (N : Mem) (jg je j1 j2 : Int → Int), 0 ≤ x → x ≤ r → r - x < f → OffA M N → RS N → RD N (fun _ => 0) 0 0 → N 0 24 ≤ 40 + 4 * x → GR n x α β B U V L N jg je j1 j2 → lpX9_gated_142 post f (su n (fun u => if β u < α u then α u - β u else 0)) x N := by
    intro f
    induction f with
    | zero => intro x N jg je j1 j2 _ _ g; omega
    | succ f ih =>
      intro x N jg je j1 j2 x0 x1 hf hO hS hD hN hG
      unfold lpX9_gated_142
      rw [hO.2 1 (by omega), e1, hO.1 1 (by omega) (by omega), hO.1 2 (by omega) (by omega), hO.1 3 (by omega) (by omega)]
      refine ⟨fun g => ?_, fun g => ?_⟩
      · have e : x = r := by omega
        subst e
        exact h N jg je j1 j2 hO hS hD hG
      · obtain ⟨f1, f2, f3⟩ := hU x x0 (by omega)
        obtain ⟨g1, g2, g3, g4, g5, g6, g7⟩ := hR x x0 (by omega)
        rw [f1, f2, f3]
        refine ⟨by omega, by omega, by omega, by omega, ?_⟩
        refine X9_arc hS hD (by omega) (by omega) (by omega) (by omega) (by omega) (fun _ => by show (0 : Int) ≤ 0 + L x; omega) (fun N1 hj1 hS1 hD1 => ?_)
        have o1 := offA_jr hO hj1
        rw [o1.1 1 (by omega) (by omega), o1.1 2 (by omega) (by omega), o1.1 3 (by omega) (by omega), f1, f2, f3]
        refine ⟨by omega, by omega, by omega, by omega, ?_⟩
        refine X9_arc hS1 hD1 (by rw [hj1.1]; omega) (by omega) (by omega) (by omega) (by omega) (fun _ => by show (0 : Int) ≤ 0 + L x; omega) (fun N2 hj2 hS2 hD2 => ⟨by omega, ?_⟩)
        obtain ⟨G1, G2, G3⟩ := hG
        have G' := GR_jn hj2 (GR_jn hj1 ⟨G1, G2⟩)
        refine ih (x + 1) N2 jg je (up j1 x (N 0 24 / 2)) (up j2 x (N1 0 24 / 2)) (by omega) (by omega) (by omega) (offA_jr o1 hj2) hS2 hD2 (by rw [hj2.1, hj1.1]; omega) ⟨G'.1, fun i i0 i1 => ?_, fun φ => ?_⟩
        · by_cases c : i = x
          · subst c
            rw [up_s, up_s]
            exact ⟨rarc_jn hj2 (rarc_new hS hj1), rarc_new hS1 hj2⟩
          · rw [up_n c, up_n c]
            exact G'.2 i i0 (by omega)
        · rw [rsum_jn hS1 hj2, rsum_jn hS hj1, G3 φ, su_s x0, up_s, up_s]
          rw [su_congr (n := x) (f := fun i => φ (up j1 x (N 0 24 / 2) i) + φ (up j2 x (N1 0 24 / 2) i)) (g := fun i => φ (j1 i) + φ (j2 i)) (fun i i0 i1 => by rw [up_n (by omega), up_n (by omega)])]
          omega
  have key : ∀ (f : Nat) (x : Int) (N : Mem) (jg je : Int → Int), 0 ≤ x → x ≤ n → n - x < f → OffA M N → RS N → RD N (fun _ => 0) 0 0 → N 0 24 ≤ 4 * x → GR x 0 α β B U V L N jg je (fun _ => 0) (fun _ => 0) → lpX9_gated_24 post f a b (su x (fun u => if β u < α u then α u - β u else 0)) x N := by
    intro f
    induction f with
    | zero => intro x N jg je _ _ g; omega
    | succ f ih =>
      intro x N jg je x0 x1 hf hO hS hD hN hG
      unfold lpX9_gated_24
      rw [hO.2 0 (by omega), e0, hO.1 4 (by omega) (by omega), hO.1 5 (by omega) (by omega)]
      refine ⟨fun g => ?_, fun g => ?_⟩
      · have e : x = n := by omega
        subst e
        exact ⟨31, key2 31 0 N jg je _ _ (by omega) (by omega) (by omega) hO hS hD (by omega) hG⟩
      · obtain ⟨m1, m2⟩ := hM x x0 (by omega)
        obtain ⟨b1, b2, b3⟩ := hB x x0 (by omega)
        have hx := hα x x0 (by omega)
        have sb := su_bnd (n := x) (B := 1000) (f := fun u => if β u < α u then α u - β u else 0) x0 (fun k k0 k1 => by
          have := hα k k0 (by omega)
          show 0 ≤ (if β k < α k then α k - β k else 0) ∧ (if β k < α k then α k - β k else 0) ≤ 1000
          split <;> omega)
        rw [m1, m2, b1]
        have gate : ∀ c : Int, c = capR B x → jbX9_gated_91 post (fun y1 y2 y4 y5 N => lpX9_gated_24 post f y1 y2 y4 y5 N) a b (su x (fun u => if β u < α u then α u - β u else 0)) x (α x - β x) c (10 + x) x N := fun c hc => by
          have hcb : 0 ≤ c ∧ c ≤ 1000000000 := by rw [hc]; unfold capR; split <;> omega
          unfold jbX9_gated_91 jbX9_gated_133
          refine X9_arc hS hD (by omega) (by omega) (by omega) hcb (by omega) (fun _ => by show (0 : Int) ≤ 0 + 0; omega) (fun N1 hj1 hS1 hD1 => ⟨fun q => ⟨by omega, ?_⟩, fun q => ?_⟩)
          · refine X9_arc hS1 hD1 (by rw [hj1.1]; omega) (by omega) (by omega) (by omega) (by omega) (fun _ => by show (0 : Int) ≤ 0 + 0; omega) (fun N2 hj2 hS2 hD2 => ⟨by omega, ?_⟩)
            obtain ⟨G1, G2, G3⟩ := hG
            have G' := GR_jn hj2 (GR_jn hj1 ⟨G1, G2⟩)
            have := ih (x + 1) N2 (up jg x (N 0 24 / 2)) (up je x (N1 0 24 / 2)) (by omega) (by omega) (by omega) (offA_jr (offA_jr hO hj1) hj2) hS2 hD2 (by rw [hj2.1, hj1.1]; omega) ⟨fun u u0 u1 => by
              by_cases c1 : u = x
              · subst c1
                rw [up_s, up_s]
                refine ⟨?_, fun q2 => by omega, fun _ => ?_⟩
                · rw [← hc]; exact rarc_jn hj2 (rarc_new hS hj1)
                · have := rarc_new hS1 hj2
                  rw [show -(α u - β u) = β u - α u by omega] at this
                  exact this
              · rw [up_n c1, up_n c1]
                exact G'.1 u u0 (by omega), fun i i0 i1 => by omega, fun φ => by
              rw [rsum_jn hS1 hj2, rsum_jn hS hj1, G3 φ, su_s x0, up_s, up_s]
              rw [su_congr (n := x) (f := fun i => φ (up jg x (N 0 24 / 2) i) + φ (up je x (N1 0 24 / 2) i)) (g := fun i => φ (jg i) + φ (je i)) (fun i i0 i1 => by rw [up_n (by omega), up_n (by omega)])]
              omega⟩
            rw [su_s x0, if_neg (by omega), Int.add_zero] at this
            exact this
          · refine X9_arc hS1 hD1 (by rw [hj1.1]; omega) (by omega) (by omega) (by omega) (by omega) (fun _ => by show (0 : Int) ≤ 0 + 0; omega) (fun N2 hj2 hS2 hD2 => ⟨by omega, fun w hw => ⟨by omega, ?_⟩⟩)
            obtain ⟨G1, G2, G3⟩ := hG
            have G' := GR_jn hj2 (GR_jn hj1 ⟨G1, G2⟩)
            have := ih (x + 1) N2 (up jg x (N 0 24 / 2)) (up je x (N1 0 24 / 2)) (by omega) (by omega) (by omega) (offA_jr (offA_jr hO hj1) hj2) hS2 hD2 (by rw [hj2.1, hj1.1]; omega) ⟨fun u u0 u1 => by
              by_cases c1 : u = x
              · subst c1
                rw [up_s, up_s]
                refine ⟨?_, fun _ => rarc_new hS1 hj2, fun q2 => by omega⟩
                rw [← hc]; exact rarc_jn hj2 (rarc_new hS hj1)
              · rw [up_n c1, up_n c1]
                exact G'.1 u u0 (by omega), fun i i0 i1 => by omega, fun φ => by
              rw [rsum_jn hS1 hj2, rsum_jn hS hj1, G3 φ, su_s x0, up_s, up_s]
              rw [su_congr (n := x) (f := fun i => φ (up jg x (N 0 24 / 2) i) + φ (up je x (N1 0 24 / 2) i)) (g := fun i => φ (jg i) + φ (je i)) (fun i i0 i1 => by rw [up_n (by omega), up_n (by omega)])]
              omega⟩
            rw [su_s x0, if_pos (by omega), ← hw] at this
            exact this
        refine ⟨by omega, by omega, by omega, fun w hw => ?_⟩
        subst hw
        refine ⟨by omega, fun q => ⟨by omega, by omega, gate _ ?_⟩, fun q => ⟨by omega, gate _ ?_⟩⟩
        · unfold capR; rw [if_neg q]
        · unfold capR; rw [if_pos q]
  exact ⟨11, key 11 0 M (fun _ => 0) (fun _ => 0) (by omega) (by omega) (by omega) ⟨fun _ _ _ => rfl, fun _ _ => rfl⟩ S0 D0 (by omega) ⟨fun u u0 u1 => by omega, fun i i0 i1 => by omega, fun φ => by rw [hz]; rfl⟩⟩
