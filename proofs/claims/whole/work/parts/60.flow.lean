/-! a flow that is stuck -/
/-- S is closed under what a search does, and lets nothing through -/
def Stk (n : Int) (near : Int → Int → Prop) (α β : Int → Int) (G : Int → Int → Int) (S : Int → Prop) : Prop := (∀ u v : Int, 0 ≤ u → u < n → 0 ≤ v → v < n → 0 ≤ G u v ∧ (0 < G u v → near u v)) ∧ (∀ u : Int, 0 ≤ u → u < n → su n (G u) ≤ α u) ∧ (∀ v : Int, 0 ≤ v → v < n → su n (fun u => G u v) ≤ β v) ∧ Clo n near α G S ∧ (∀ u v : Int, 0 ≤ u → u < n → 0 ≤ v → v < n → S u → near u v → su n (fun u => G u v) = β v)
theorem stk_max {n : Int} {near : Int → Int → Prop} {α β : Int → Int} {G F : Int → Int → Int} {S : Int → Prop} (h : Stk n near α β G S) (f1 : ∀ u v : Int, 0 ≤ u → u < n → 0 ≤ v → v < n → 0 ≤ F u v ∧ (0 < F u v → near u v)) (f2 : ∀ u : Int, 0 ≤ u → u < n → su n (F u) ≤ α u) (f3 : ∀ v : Int, 0 ≤ v → v < n → su n (fun u => F u v) ≤ β v) : su n (fun u => su n (F u)) ≤ su n (fun u => su n (G u)) := by
  obtain ⟨g1, g2, g3, g4, g5⟩ := h
  have c1 := cut_eq (α := α) (β := β) (S := S) g1
  have c2 := cut_eq (α := α) (β := β) (S := S) f1
  have z1 : su n (fun u => ind (¬ S u) (α u - su n (G u))) = 0 := su_all0 (fun u a b => by
    by_cases c : S u
    · exact ind_f (fun q => q c)
    · rw [ind_t c]
      have := g2 u a b
      by_cases d : su n (G u) < α u
      · exact absurd (g4.1 u a b d) c
      · omega)
  have z2 : su n (fun v => ind (∃ u : Int, 0 ≤ u ∧ u < n ∧ S u ∧ near u v) (β v - su n (fun u => G u v))) = 0 := su_all0 (fun v a b => by
    by_cases c : ∃ u : Int, 0 ≤ u ∧ u < n ∧ S u ∧ near u v
    · rw [ind_t c]
      obtain ⟨u, u0, u1, u2, u3⟩ := c
      have := g5 u v u0 u1 a b u2 u3
      omega
    · exact ind_f c)
  have z3 : su n (fun u => su n (fun v => ind (¬ S u ∧ ∃ x : Int, 0 ≤ x ∧ x < n ∧ S x ∧ near x v) (G u v))) = 0 := su_all0 (fun u a b => su_all0 (fun v c d => by
    by_cases e : ¬ S u ∧ ∃ x : Int, 0 ≤ x ∧ x < n ∧ S x ∧ near x v
    · rw [ind_t e]
      obtain ⟨x, x0, x1, x2, x3⟩ := e.2
      have := (g1 u v a b c d).1
      by_cases q : 0 < G u v
      · exact absurd (g4.2 x v u x0 x1 c d a b x2 x3 q) e.1
      · omega
    · exact ind_f e))
  have p1 : 0 ≤ su n (fun u => ind (¬ S u) (α u - su n (F u))) := su_nonneg (fun u a b => ind_nonneg (by have := f2 u a b; omega))
  have p2 : 0 ≤ su n (fun v => ind (∃ u : Int, 0 ≤ u ∧ u < n ∧ S u ∧ near u v) (β v - su n (fun u => F u v))) := su_nonneg (fun v a b => ind_nonneg (by have := f3 v a b; omega))
  have p3 : 0 ≤ su n (fun u => su n (fun v => ind (¬ S u ∧ ∃ x : Int, 0 ≤ x ∧ x < n ∧ S x ∧ near x v) (F u v))) := su_nonneg (fun u a b => su_nonneg (fun v c d => ind_nonneg (f1 u v a b c d).1))
  omega
/-- what is stuck doesn't fit, and some two places are farther apart -/
theorem stk_not {n f : Int} {δ : Int → Int → Int} {α β : Int → Int} {G : Int → Int → Int} {S : Int → Prop} (h : Stk n (fun u v => δ u v ≤ f) α β G S) (hs : su n α = su n β) (hl : su n (fun u => su n (G u)) < su n α) : ¬ Fit n δ α β f ∧ ∃ u v : Int, 0 ≤ u ∧ u < n ∧ 0 ≤ v ∧ v < n ∧ f < δ u v := by
  refine ⟨fun q => ?_, ?_⟩
  · obtain ⟨F, hF, hf⟩ := q
    have := stk_max h (F := F) (fun u v a b c d => ⟨hF.1 u v a b c d, hf u v a b c d⟩) (fun u a b => by rw [hF.2.1 u a b]; exact Int.le_refl _) (fun v a b => by rw [hF.2.2 v a b]; exact Int.le_refl _)
    rw [su_congr (fun u a b => hF.2.1 u a b)] at this
    omega
  · apply Classical.byContradiction
    intro hc
    have near : ∀ u v : Int, 0 ≤ u → u < n → 0 ≤ v → v < n → δ u v ≤ f := fun u v a b c d => by
      by_cases q : f < δ u v
      · exact absurd ⟨u, v, a, b, c, d, q⟩ hc
      · omega
    obtain ⟨g1, g2, g3, g4, g5⟩ := h
    obtain ⟨u, u0, u1, u2⟩ := su_lt (n := n) (f := fun u => su n (G u)) (g := α) (fun u a b => g2 u a b) hl
    have hS := g4.1 u u0 u1 u2
    have e : su n (fun v => su n (fun u => G u v)) = su n β := su_congr (fun v a b => g5 u v u0 u1 a b hS (near u v u0 u1 a b))
    rw [su_swap n n (fun v u => G u v)] at e
    have e : su n (fun u => su n (G u)) = su n β := e
    omega
theorem stk_shd {n : Int} {near : Int → Int → Prop} {α β : Int → Int} {G : Int → Int → Int} {S : Int → Prop} (h : Stk n near α β G S) (hm : ∀ S' : Int → Prop, Clo n near α G S' → ∀ u : Int, 0 ≤ u → u < n → S u → S' u) : Shd n near α β S := ⟨G, h.1, h.2.1, h.2.2.1, h.2.2.2.1, h.2.2.2.2, hm⟩
theorem shd_near {n : Int} {near near' : Int → Int → Prop} {α β : Int → Int} {S : Int → Prop} (hn : ∀ u v : Int, 0 ≤ u → u < n → 0 ≤ v → v < n → (near u v ↔ near' u v)) (h : Shd n near α β S) : Shd n near' α β S := by
  obtain ⟨G, g1, g2, g3, g4, g5, g6⟩ := h
  refine ⟨G, fun u v a b c d => ⟨(g1 u v a b c d).1, fun q => (hn u v a b c d).mp ((g1 u v a b c d).2 q)⟩, g2, g3, ⟨g4.1, fun u v x a b c d e f hS hN hG => g4.2 u v x a b c d e f hS ((hn u v a b c d).mpr hN) hG⟩, fun u v a b c d hS hN => g5 u v a b c d hS ((hn u v a b c d).mpr hN), fun S' hS' => g6 S' ⟨hS'.1, fun u v x a b c d e f hS hN hG => hS'.2 u v x a b c d e f hS ((hn u v a b c d).mp hN) hG⟩⟩
