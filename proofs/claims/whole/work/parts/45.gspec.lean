/-! goods along roads through gates: what is asked, and what shows that nothing is cheaper, or that nothing goes -/
def GFl (n K : Int) (dir : Int → Int → Int) (B α β : Int → Int) (X : Int → Int → Int) : Prop :=
  (∀ u v : Int, 0 ≤ u → u < n → 0 ≤ v → v < n → 0 ≤ X u v ∧ (0 < X u v → dir u v < K)) ∧ (∀ u : Int, 0 ≤ u → u < n → α u + su n (fun v => X v u) - su n (X u) = β u) ∧ ∀ u : Int, 0 ≤ u → u < n → B u ≠ -1 → su n (X u) ≤ B u
def Gat (n K : Int) (dir : Int → Int → Int) (B α β : Int → Int) (c : Int) : Prop := (c = -1 ∧ ∀ X : Int → Int → Int, ¬ GFl n K dir B α β X) ∨ (0 ≤ c ∧ (∃ X : Int → Int → Int, GFl n K dir B α β X ∧ cst n dir X = c) ∧ ∀ X : Int → Int → Int, GFl n K dir B α β X → c ≤ cst n dir X)
theorem gfl_two {n K J : Int} {d1 d2 : Int → Int → Int} {B α β : Int → Int} {X : Int → Int → Int} (hq : ∀ u v : Int, 0 ≤ u → u < n → 0 ≤ v → v < n → (d1 u v < K → d2 u v < J ∧ d1 u v = d2 u v)) (h : GFl n K d1 B α β X) : GFl n J d2 B α β X ∧ cst n d1 X = cst n d2 X := by
  obtain ⟨h1, h2, h3⟩ := h
  refine ⟨⟨fun u v a b c d => ⟨(h1 u v a b c d).1, fun q => (hq u v a b c d ((h1 u v a b c d).2 q)).1⟩, h2, h3⟩, su2_congr (fun u v a b c d => ?_)⟩
  by_cases q : 0 < X u v
  · rw [(hq u v a b c d ((h1 u v a b c d).2 q)).2]
  · have := (h1 u v a b c d).1
    rw [show X u v = 0 by omega, Int.zero_mul, Int.zero_mul]
theorem gat_one {n K J : Int} {d1 d2 : Int → Int → Int} {B α β : Int → Int} {c e : Int} (hq : ∀ u v : Int, 0 ≤ u → u < n → 0 ≤ v → v < n → (d1 u v < K ↔ d2 u v < J) ∧ (d1 u v < K → d1 u v = d2 u v)) (h : Gat n K d1 B α β c) (h2 : Gat n J d2 B α β e) : c = e := by
  have q1 : ∀ u v : Int, 0 ≤ u → u < n → 0 ≤ v → v < n → (d1 u v < K → d2 u v < J ∧ d1 u v = d2 u v) := fun u v a b c d q => ⟨(hq u v a b c d).1.mp q, (hq u v a b c d).2 q⟩
  have q2 : ∀ u v : Int, 0 ≤ u → u < n → 0 ≤ v → v < n → (d2 u v < J → d1 u v < K ∧ d2 u v = d1 u v) := fun u v a b c d q => ⟨(hq u v a b c d).1.mpr q, ((hq u v a b c d).2 ((hq u v a b c d).1.mpr q)).symm⟩
  rcases h with ⟨c1, c2⟩ | ⟨c0, ⟨X, c1, c2⟩, c3⟩
  · rcases h2 with ⟨e1, e2⟩ | ⟨e0, ⟨Y, e1, e2⟩, e3⟩
    · rw [c1, e1]
    · exact absurd (gfl_two q2 e1).1 (c2 Y)
  · rcases h2 with ⟨e1, e2⟩ | ⟨e0, ⟨Y, e1, e2⟩, e3⟩
    · exact absurd (gfl_two q1 c1).1 (e2 X)
    · have x1 := gfl_two q1 c1
      have y1 := gfl_two q2 e1
      have z1 := c3 Y y1.1
      have z2 := e3 X x1.1
      omega
/-- the cost by heights of coming (I) and leaving (O) -/
theorem g_dual {n : Int} {α β : Int → Int} {X : Int → Int → Int} (h : ∀ u : Int, 0 ≤ u → u < n → α u + su n (fun v => X v u) - su n (X u) = β u) (I O : Int → Int) : su n (fun u => su n (fun v => X u v * (I v - O u))) = su n (fun u => (β u - α u) * I u) + su n (fun u => su n (X u) * (I u - O u)) := by
  have e : su n (fun u => su n (fun v => X u v * (I v - O u))) = su n (fun u => su n (fun v => X u v * I v - X u v * O u)) := su2_congr (fun u v _ _ _ _ => Int.mul_sub _ _ _)
  rw [e, su2_sub, su_row, su_col, ← su_add, ← su_sub]
  refine su_congr (fun u a b => ?_)
  have h1 := h u a b
  have e1 : su n (fun v => X v u) = (β u - α u) + su n (X u) := by omega
  rw [e1, Int.add_mul, Int.mul_sub]
  omega
theorem g_opt {n K : Int} {dir : Int → Int → Int} {B α β I O : Int → Int} {X : Int → Int → Int} (hX : GFl n K dir B α β X) (c1 : ∀ u v : Int, 0 ≤ u → u < n → 0 ≤ v → v < n → dir u v < K → I v - O u ≤ dir u v) (c2 : ∀ u v : Int, 0 ≤ u → u < n → 0 ≤ v → v < n → 0 < X u v → I v - O u = dir u v) (c3 : ∀ u : Int, 0 ≤ u → u < n → (B u = -1 ∨ su n (X u) < B u) → O u ≤ I u) (c4 : ∀ u : Int, 0 ≤ u → u < n → 0 < su n (X u) → I u ≤ O u) : ∀ Y : Int → Int → Int, GFl n K dir B α β Y → cst n dir X ≤ cst n dir Y := by
  intro Y hY
  have x1 : cst n dir X = su n (fun u => (β u - α u) * I u) + su n (fun u => su n (X u) * (I u - O u)) := by
    rw [← g_dual hX.2.1 I O]
    refine su2_congr (fun u v a b c d => ?_)
    by_cases q : 0 < X u v
    · rw [c2 u v a b c d q]
    · have := (hX.1 u v a b c d).1
      rw [show X u v = 0 by omega, Int.zero_mul, Int.zero_mul]
  have y1 : su n (fun u => (β u - α u) * I u) + su n (fun u => su n (Y u) * (I u - O u)) ≤ cst n dir Y := by
    rw [← g_dual hY.2.1 I O]
    refine su2_le (fun u v a b c d => ?_)
    by_cases q : 0 < Y u v
    · exact Int.mul_le_mul_of_nonneg_left (c1 u v a b c d ((hY.1 u v a b c d).2 q)) (by omega)
    · have := (hY.1 u v a b c d).1
      rw [show Y u v = 0 by omega, Int.zero_mul, Int.zero_mul]
      exact Int.le_refl _
  have z : su n (fun u => su n (X u) * (I u - O u)) ≤ su n (fun u => su n (Y u) * (I u - O u)) := su_le (fun u a b => by
    have p1 := su_nonneg (n := n) (f := X u) (fun v c d => (hX.1 u v a b c d).1)
    have p2 := su_nonneg (n := n) (f := Y u) (fun v c d => (hY.1 u v a b c d).1)
    by_cases q : I u < O u
    · have q1 : B u ≠ -1 := fun r => by have := c3 u a b (Or.inl r); omega
      have q2 : su n (X u) = B u := by
        have r1 := hX.2.2 u a b q1
        by_cases r2 : su n (X u) < B u
        · have := c3 u a b (Or.inr r2); omega
        · omega
      have q3 := hY.2.2 u a b q1
      exact Int.mul_le_mul_of_nonpos_right (by omega) (by omega)
    · by_cases q1 : 0 < su n (X u)
      · have := c4 u a b q1
        rw [show I u - O u = 0 by omega, Int.mul_zero, Int.mul_zero]
        exact Int.le_refl _
      · rw [show su n (X u) = 0 by omega, Int.zero_mul]
        exact Int.mul_nonneg p2 (by omega))
  omega
/-- goods that are stuck: S, E: what has left each place from its heap, and come to its end -/
theorem g_stuck {n K : Int} {dir : Int → Int → Int} {B α β S E : Int → Int} {X : Int → Int → Int} {I O : Int → Prop} (hX : ∀ u v : Int, 0 ≤ u → u < n → 0 ≤ v → v < n → 0 ≤ X u v ∧ (0 < X u v → dir u v < K)) (hb : ∀ u : Int, 0 ≤ u → u < n → S u + su n (fun v => X v u) - su n (X u) = E u) (hB : ∀ u : Int, 0 ≤ u → u < n → B u ≠ -1 → su n (X u) ≤ B u)
    (k1 : ∀ u v : Int, 0 ≤ u → u < n → 0 ≤ v → v < n → O u → dir u v < K → I v) (k2 : ∀ u : Int, 0 ≤ u → u < n → I u → (B u = -1 ∨ su n (X u) < B u) → O u) (k3 : ∀ u v : Int, 0 ≤ u → u < n → 0 ≤ v → v < n → I v → 0 < X u v → O u) (k4 : ∀ u : Int, 0 ≤ u → u < n → O u → 0 < su n (X u) → I u) (k5 : ∀ u : Int, 0 ≤ u → u < n → I u → S u - E u ≤ α u - β u) (k6 : ∃ u : Int, 0 ≤ u ∧ u < n ∧ I u ∧ S u - E u < α u - β u) : ∀ Y : Int → Int → Int, ¬ GFl n K dir B α β Y := by
  intro Y hY
  -- what leaves the places of I
  have bal : ∀ (Z : Int → Int → Int) (D : Int → Int), (∀ u : Int, 0 ≤ u → u < n → D u = su n (Z u) - su n (fun v => Z v u)) → su n (fun u => ind (I u) (D u)) = su n (fun u => ind (I u) (su n (Z u))) - su n (fun u => su n (fun v => ind (I v) (Z u v))) := fun Z D hD => by
    rw [su_swap n n (fun u v => ind (I v) (Z u v)), ← su_sub]
    refine su_congr (fun u a b => ?_)
    by_cases c : I u
    · rw [ind_t c, ind_t c, hD u a b, su_congr (fun v _ _ => ind_t c)]
    · rw [ind_f c, ind_f c, su_all0 (fun v _ _ => ind_f c)]; rfl
  have bx := bal X (fun u => S u - E u) (fun u a b => by have := hb u a b; show S u - E u = _; omega)
  have by' := bal Y (fun u => α u - β u) (fun u a b => by have := hY.2.1 u a b; show α u - β u = _; omega)
  -- in X all that comes to I leaves O, in Y no less than all that leaves O
  have ix : su n (fun u => su n (fun v => ind (I v) (X u v))) = su n (fun u => ind (O u) (su n (X u))) := su_congr (fun u a b => by
    by_cases c : O u
    · rw [ind_t c]
      refine su_congr (fun v v0 v1 => ?_)
      by_cases q : 0 < X u v
      · rw [ind_t (k1 u v a b v0 v1 c ((hX u v a b v0 v1).2 q))]
      · have := (hX u v a b v0 v1).1
        rw [show X u v = 0 by omega]
        unfold ind
        split <;> rfl
    · rw [ind_f c]
      refine su_all0 (fun v v0 v1 => ?_)
      by_cases q : I v
      · rw [ind_t q]
        have := (hX u v a b v0 v1).1
        by_cases r : 0 < X u v
        · exact absurd (k3 u v a b v0 v1 q r) c
        · omega
      · exact ind_f q)
  have iy : su n (fun u => ind (O u) (su n (Y u))) ≤ su n (fun u => su n (fun v => ind (I v) (Y u v))) := su_le (fun u a b => by
    by_cases c : O u
    · rw [ind_t c]
      refine su_le (fun v v0 v1 => ?_)
      by_cases q : 0 < Y u v
      · rw [ind_t (k1 u v a b v0 v1 c ((hY.1 u v a b v0 v1).2 q))]
        exact Int.le_refl _
      · have := (hY.1 u v a b v0 v1).1
        rw [show Y u v = 0 by omega]
        exact ind_nonneg (Int.le_refl _)
    · rw [ind_f c]
      exact su_nonneg (fun v v0 v1 => ind_nonneg (hY.1 u v a b v0 v1).1))
  -- in X the gates between I and O are full
  have gx : su n (fun u => ind (I u) (su n (Y u)) - ind (O u) (su n (Y u))) ≤ su n (fun u => ind (I u) (su n (X u)) - ind (O u) (su n (X u))) := su_le (fun u a b => by
    have p1 := su_nonneg (n := n) (f := X u) (fun v c d => (hX u v a b c d).1)
    have p2 := su_nonneg (n := n) (f := Y u) (fun v c d => (hY.1 u v a b c d).1)
    by_cases ci : I u
    · by_cases co : O u
      · rw [ind_t ci, ind_t co, ind_t ci, ind_t co]; omega
      · rw [ind_t ci, ind_f co, ind_t ci, ind_f co]
        have q1 : B u ≠ -1 := fun r => co (k2 u a b ci (Or.inl r))
        have q2 : ¬ su n (X u) < B u := fun r => co (k2 u a b ci (Or.inr r))
        have q3 := hY.2.2 u a b q1
        omega
    · by_cases co : O u
      · rw [ind_f ci, ind_t co, ind_f ci, ind_t co]
        have q : ¬ 0 < su n (X u) := fun r => ci (k4 u a b co r)
        omega
      · rw [ind_f ci, ind_f co, ind_f ci, ind_f co]; omega)
  rw [su_sub, su_sub] at gx
  obtain ⟨w, w0, w1, w2, w3⟩ := k6
  have lt : su n (fun u => ind (I u) (S u - E u)) < su n (fun u => ind (I u) (α u - β u)) := by
    have le := su_le (n := n) (f := fun u => ind (I u) (S u - E u)) (g := fun u => ind (I u) (α u - β u)) (fun u a b => by
      show ind (I u) (S u - E u) ≤ ind (I u) (α u - β u)
      by_cases c : I u
      · rw [ind_t c, ind_t c]; exact k5 u a b c
      · rw [ind_f c, ind_f c]; exact Int.le_refl _)
    by_cases q : su n (fun u => ind (I u) (S u - E u)) = su n (fun u => ind (I u) (α u - β u))
    · have := su_eq_all (n := n) (f := fun u => ind (I u) (S u - E u)) (g := fun u => ind (I u) (α u - β u)) (fun u a b => by
        show ind (I u) (S u - E u) ≤ ind (I u) (α u - β u)
        by_cases c : I u
        · rw [ind_t c, ind_t c]; exact k5 u a b c
        · rw [ind_f c, ind_f c]; exact Int.le_refl _) q w w0 w1
      have this : ind (I w) (S w - E w) = ind (I w) (α w - β w) := this
      rw [ind_t w2, ind_t w2] at this
      omega
    · omega
  omega
