/-! plans, their cost, the first one, heights, far and shown: what they are, and that each is one -/
def Pl (n : Int) (α β : Int → Int) (G : Int → Int → Int) : Prop := (∀ u v : Int, 0 ≤ u → u < n → 0 ≤ v → v < n → 0 ≤ G u v) ∧ (∀ u : Int, 0 ≤ u → u < n → su n (G u) = α u) ∧ (∀ v : Int, 0 ≤ v → v < n → su n (fun u => G u v) = β v)
def cst (n : Int) (δ G : Int → Int → Int) : Int := su n (fun u => su n (fun v => G u v * δ u v))
def Opt (n : Int) (δ : Int → Int → Int) (α β : Int → Int) (G : Int → Int → Int) : Prop := Pl n α β G ∧ ∀ G' : Int → Int → Int, Pl n α β G' → cst n δ G ≤ cst n δ G'
def Fst (n : Int) (δ : Int → Int → Int) (α β : Int → Int) (G : Int → Int → Int) : Prop := Opt n δ α β G ∧ ∀ (u v : Int) (G' : Int → Int → Int), 0 ≤ u → u < n → 0 ≤ v → v < n → Opt n δ α β G' → (∀ x y : Int, 0 ≤ x → x < n → 0 ≤ y → y < n → (x < u ∨ (x = u ∧ y < v)) → G' x y = G x y) → G' u v ≤ G u v
def Pv (n : Int) (δ : Int → Int → Int) (α β H : Int → Int) : Prop := (∀ u v : Int, 0 ≤ u → u < n → 0 ≤ v → v < n → H u - H v ≤ δ u v) ∧ (0 < n → H 0 = 0) ∧ ∃ G : Int → Int → Int, Pl n α β G ∧ ∀ u v : Int, 0 ≤ u → u < n → 0 ≤ v → v < n → 0 < G u v → H u - H v = δ u v
def Hts (n : Int) (δ : Int → Int → Int) (α β H : Int → Int) : Prop := Pv n δ α β H ∧ ∀ H' : Int → Int, Pv n δ α β H' → ∀ v : Int, 0 ≤ v → v < n → H' v ≤ H v
theorem su2_le {n : Int} {F G : Int → Int → Int} (h : ∀ u v : Int, 0 ≤ u → u < n → 0 ≤ v → v < n → F u v ≤ G u v) : su n (fun u => su n (F u)) ≤ su n (fun u => su n (G u)) := su_le (fun u a b => su_le (fun v c d => h u v a b c d))
theorem su2_congr {n : Int} {F G : Int → Int → Int} (h : ∀ u v : Int, 0 ≤ u → u < n → 0 ≤ v → v < n → F u v = G u v) : su n (fun u => su n (F u)) = su n (fun u => su n (G u)) := su_congr (fun u a b => su_congr (fun v c d => h u v a b c d))
theorem su2_zero {n : Int} {F : Int → Int → Int} (h : ∀ u v : Int, 0 ≤ u → u < n → 0 ≤ v → v < n → 0 ≤ F u v) (hs : su n (fun u => su n (F u)) = 0) : ∀ u v : Int, 0 ≤ u → u < n → 0 ≤ v → v < n → F u v = 0 := by
  intro u v a b c d
  have h1 := su_zero_all (n := n) (f := fun u => su n (F u)) (fun u a b => su_nonneg (fun v c d => h u v a b c d)) hs u a b
  exact su_zero_all (fun v c d => h u v a b c d) h1 v c d
theorem su2_sub (n : Int) (F G : Int → Int → Int) : su n (fun u => su n (fun v => F u v - G u v)) = su n (fun u => su n (F u)) - su n (fun u => su n (G u)) := by
  rw [← su_sub]
  exact su_congr (fun u _ _ => su_sub _ _ _)
theorem su2_add (n : Int) (F G : Int → Int → Int) : su n (fun u => su n (fun v => F u v + G u v)) = su n (fun u => su n (F u)) + su n (fun u => su n (G u)) := by
  rw [← su_add]
  exact su_congr (fun u _ _ => su_add _ _ _)
/-- the sum of G times a height of its row, or of its column -/
theorem su_row (n : Int) (G : Int → Int → Int) (H : Int → Int) : su n (fun u => su n (fun v => G u v * H u)) = su n (fun u => su n (G u) * H u) := su_congr (fun u _ _ => su_mulr _ _ _)
theorem su_col (n : Int) (G : Int → Int → Int) (H : Int → Int) : su n (fun u => su n (fun v => G u v * H v)) = su n (fun v => su n (fun u => G u v) * H v) := by
  rw [su_swap]
  exact su_congr (fun v _ _ => su_mulr _ _ _)
theorem pl_dual {n : Int} {α β : Int → Int} {G : Int → Int → Int} (h : Pl n α β G) (H : Int → Int) : su n (fun u => su n (fun v => G u v * (H u - H v))) = su n (fun u => α u * H u) - su n (fun v => β v * H v) := by
  have e : su n (fun u => su n (fun v => G u v * (H u - H v))) = su n (fun u => su n (fun v => G u v * H u - G u v * H v)) := su2_congr (fun u v _ _ _ _ => Int.mul_sub _ _ _)
  rw [e, su2_sub, su_row, su_col, su_congr (fun u a b => by rw [h.2.1 u a b]), su_congr (f := fun v => su n (fun u => G u v) * H v) (fun v a b => by rw [h.2.2 v a b])]
theorem cst_ge {n : Int} {δ : Int → Int → Int} {α β H : Int → Int} {G : Int → Int → Int} (hH : ∀ u v : Int, 0 ≤ u → u < n → 0 ≤ v → v < n → H u - H v ≤ δ u v) (h : Pl n α β G) : su n (fun u => α u * H u) - su n (fun v => β v * H v) ≤ cst n δ G := by
  rw [← pl_dual h H]
  exact su2_le (fun u v a b c d => Int.mul_le_mul_of_nonneg_left (hH u v a b c d) (h.1 u v a b c d))
theorem cst_eq {n : Int} {δ : Int → Int → Int} {α β H : Int → Int} {G : Int → Int → Int} (h : Pl n α β G) (ht : ∀ u v : Int, 0 ≤ u → u < n → 0 ≤ v → v < n → 0 < G u v → H u - H v = δ u v) : su n (fun u => α u * H u) - su n (fun v => β v * H v) = cst n δ G := by
  rw [← pl_dual h H]
  refine su2_congr (fun u v a b c d => ?_)
  by_cases e : 0 < G u v
  · rw [ht u v a b c d e]
  · have := h.1 u v a b c d
    rw [show G u v = 0 by omega, Int.zero_mul, Int.zero_mul]
theorem opt_of {n : Int} {δ : Int → Int → Int} {α β H : Int → Int} {G : Int → Int → Int} (hH : ∀ u v : Int, 0 ≤ u → u < n → 0 ≤ v → v < n → H u - H v ≤ δ u v) (h : Pl n α β G) (ht : ∀ u v : Int, 0 ≤ u → u < n → 0 ≤ v → v < n → 0 < G u v → H u - H v = δ u v) : Opt n δ α β G := by
  refine ⟨h, fun G' h' => ?_⟩
  rw [← cst_eq h ht]
  exact cst_ge hH h'
/-- heights that prove are tight on each plan of least cost -/
theorem pv_tight {n : Int} {δ : Int → Int → Int} {α β H : Int → Int} {G : Int → Int → Int} (hp : Pv n δ α β H) (ho : Opt n δ α β G) : ∀ u v : Int, 0 ≤ u → u < n → 0 ≤ v → v < n → 0 < G u v → H u - H v = δ u v := by
  obtain ⟨h1, _, G0, g1, g2⟩ := hp
  have e1 := cst_eq g1 g2
  have e2 := ho.2 G0 g1
  have e3 := cst_ge h1 ho.1
  have e4 : su n (fun u => su n (fun v => G u v * δ u v - G u v * (H u - H v))) = 0 := by
    rw [su2_sub, pl_dual ho.1 H]
    have e5 : su n (fun u => su n (fun v => G u v * δ u v)) = cst n δ G := rfl
    rw [e5]
    omega
  have e6 := su2_zero (fun u v a b c d => by
    have := Int.mul_le_mul_of_nonneg_left (h1 u v a b c d) (ho.1.1 u v a b c d)
    show 0 ≤ G u v * δ u v - G u v * (H u - H v)
    omega) e4
  intro u v a b c d hg
  have e7 := e6 u v a b c d
  have e8 : G u v * (δ u v - (H u - H v)) = 0 := by rw [Int.mul_sub]; exact e7
  rcases Int.mul_eq_zero.mp e8 with q | q <;> omega
theorem fst_one {n : Int} {δ : Int → Int → Int} {α β : Int → Int} {F G : Int → Int → Int} (hn : n ≤ 10) (hF : Fst n δ α β F) (hG : Fst n δ α β G) : ∀ u v : Int, 0 ≤ u → u < n → 0 ≤ v → v < n → F u v = G u v := by
  have key : ∀ (k : Nat) (u v : Int), 10 * u + v < k → 0 ≤ u → u < n → 0 ≤ v → v < n → F u v = G u v := by
    intro k
    induction k with
    | zero => intro u v h a b c d; omega
    | succ k ih =>
      intro u v h a b c d
      have h1 := hF.2 u v G a b c d hG.1 (fun x y x0 x1 y0 y1 hb => (ih x y (by omega) x0 x1 y0 y1).symm)
      have h2 := hG.2 u v F a b c d hF.1 (fun x y x0 x1 y0 y1 hb => ih x y (by omega) x0 x1 y0 y1)
      omega
  intro u v a b c d
  exact key ((10 * u + v).toNat + 1) u v (by omega) a b c d
theorem hts_one {n : Int} {δ : Int → Int → Int} {α β H I : Int → Int} (hH : Hts n δ α β H) (hI : Hts n δ α β I) : ∀ v : Int, 0 ≤ v → v < n → H v = I v := fun v a b => by
  have h1 := hH.2 I hI.1 v a b
  have h2 := hI.2 H hH.1 v a b
  omega
/-! part of the goods: flows of a whole m -/
def Sm (n : Int) (α β : Int → Int) (m : Int) (G : Int → Int → Int) : Prop := (∀ u v : Int, 0 ≤ u → u < n → 0 ≤ v → v < n → 0 ≤ G u v) ∧ (∀ u : Int, 0 ≤ u → u < n → su n (G u) ≤ α u) ∧ (∀ v : Int, 0 ≤ v → v < n → su n (fun u => G u v) ≤ β v) ∧ su n (fun u => su n (G u)) = m
def Som (n : Int) (δ : Int → Int → Int) (α β : Int → Int) (m c : Int) : Prop := (∃ G : Int → Int → Int, Sm n α β m G ∧ cst n δ G = c) ∧ ∀ G : Int → Int → Int, Sm n α β m G → c ≤ cst n δ G
theorem som_one {n : Int} {δ : Int → Int → Int} {α β : Int → Int} {m c e : Int} (h : Som n δ α β m c) (h2 : Som n δ α β m e) : c = e := by
  obtain ⟨⟨G, g1, g2⟩, g3⟩ := h
  obtain ⟨⟨F, f1, f2⟩, f3⟩ := h2
  have := g3 F f1
  have := f3 G g1
  omega
theorem sm_dual {n : Int} {α β : Int → Int} {m : Int} {G : Int → Int → Int} (_ : Sm n α β m G) (A B : Int → Int) : su n (fun u => su n (fun v => G u v * (B v - A u))) = su n (fun v => su n (fun u => G u v) * B v) - su n (fun u => su n (G u) * A u) := by
  have e : su n (fun u => su n (fun v => G u v * (B v - A u))) = su n (fun u => su n (fun v => G u v * B v - G u v * A u)) := su2_congr (fun u v _ _ _ _ => Int.mul_sub _ _ _)
  rw [e, su2_sub, su_row, su_col]
/-- a flow with prices that prove it: rows A, columns B, l: the price of one more -/
theorem som_of {n : Int} {δ : Int → Int → Int} {α β A B : Int → Int} {m l : Int} {G : Int → Int → Int} (h : Sm n α β m G)
    (h1 : ∀ u v : Int, 0 ≤ u → u < n → 0 ≤ v → v < n → B v - A u ≤ δ u v) (h2 : ∀ u v : Int, 0 ≤ u → u < n → 0 ≤ v → v < n → 0 < G u v → B v - A u = δ u v)
    (h3 : ∀ u : Int, 0 ≤ u → u < n → (su n (G u) < α u → A u ≤ 0) ∧ (0 < su n (G u) → 0 ≤ A u)) (h4 : ∀ v : Int, 0 ≤ v → v < n → (su n (fun u => G u v) < β v → l ≤ B v) ∧ (0 < su n (fun u => G u v) → B v ≤ l)) : Som n δ α β m (cst n δ G) := by
  refine ⟨⟨G, h, rfl⟩, fun F f => ?_⟩
  have e1 : cst n δ G = su n (fun v => su n (fun u => G u v) * B v) - su n (fun u => su n (G u) * A u) := by
    rw [← sm_dual h A B]
    refine su2_congr (fun u v a b c d => ?_)
    by_cases e : 0 < G u v
    · rw [h2 u v a b c d e]
    · have := h.1 u v a b c d
      rw [show G u v = 0 by omega, Int.zero_mul, Int.zero_mul]
  have e2 : su n (fun v => su n (fun u => F u v) * B v) - su n (fun u => su n (F u) * A u) ≤ cst n δ F := by
    rw [← sm_dual f A B]
    exact su2_le (fun u v a b c d => Int.mul_le_mul_of_nonneg_left (h1 u v a b c d) (f.1 u v a b c d))
  have tot : ∀ E : Int → Int → Int, Sm n α β m E → su n (fun v => su n (fun u => E u v) * l) = m * l := fun E hE => by
    rw [su_mulr, su_swap n n (fun v u => E u v), hE.2.2.2]
  have e3 : su n (fun v => su n (fun u => G u v) * (B v - l)) ≤ su n (fun v => su n (fun u => F u v) * (B v - l)) := su_le (fun v a b => by
    obtain ⟨p1, p2⟩ := h4 v a b
    have q1 := f.2.2.1 v a b
    have q2 := h.2.2.1 v a b
    have q3 := su_nonneg (n := n) (f := fun u => G u v) (fun u c d => h.1 u v c d a b)
    have q4 := su_nonneg (n := n) (f := fun u => F u v) (fun u c d => f.1 u v c d a b)
    by_cases c1 : B v < l
    · have c2 : su n (fun u => G u v) = β v := by
        by_cases c3 : su n (fun u => G u v) < β v
        · have := p1 c3; omega
        · omega
      exact Int.mul_le_mul_of_nonpos_right (by omega) (by omega)
    · by_cases c2 : 0 < su n (fun u => G u v)
      · have := p2 c2
        rw [show B v - l = 0 by omega, Int.mul_zero, Int.mul_zero]
        exact Int.le_refl _
      · rw [show su n (fun u => G u v) = 0 by omega, Int.zero_mul]
        exact Int.mul_nonneg q4 (by omega))
  have e4 : su n (fun u => su n (F u) * A u) ≤ su n (fun u => su n (G u) * A u) := su_le (fun u a b => by
    obtain ⟨p1, p2⟩ := h3 u a b
    have q1 := f.2.1 u a b
    have q2 := h.2.1 u a b
    have q3 := su_nonneg (n := n) (f := G u) (fun v c d => h.1 u v a b c d)
    have q4 := su_nonneg (n := n) (f := F u) (fun v c d => f.1 u v a b c d)
    by_cases c1 : 0 < A u
    · have c2 : su n (G u) = α u := by
        by_cases c3 : su n (G u) < α u
        · have := p1 c3; omega
        · omega
      exact Int.mul_le_mul_of_nonneg_right (by omega) (by omega)
    · by_cases c2 : 0 < su n (G u)
      · have := p2 c2
        rw [show A u = 0 by omega, Int.mul_zero, Int.mul_zero]
        exact Int.le_refl _
      · rw [show su n (G u) = 0 by omega, Int.zero_mul]
        exact Int.mul_nonpos_of_nonneg_of_nonpos q4 (by omega))
  have sp : ∀ E : Int → Int → Int, Sm n α β m E → su n (fun v => su n (fun u => E u v) * (B v - l)) = su n (fun v => su n (fun u => E u v) * B v) - m * l := fun E hE => by
    rw [← tot E hE, ← su_sub]
    exact su_congr (fun v _ _ => Int.mul_sub _ _ _)
  have e5 := sp G h
  have e6 := sp F f
  omega
/-! far and shown -/
def Fit (n : Int) (δ : Int → Int → Int) (α β : Int → Int) (f : Int) : Prop := ∃ G : Int → Int → Int, Pl n α β G ∧ ∀ u v : Int, 0 ≤ u → u < n → 0 ≤ v → v < n → 0 < G u v → δ u v ≤ f
def FarOk (n : Int) (δ : Int → Int → Int) (α β : Int → Int) (f : Int) : Prop := 0 ≤ f ∧ Fit n δ α β f ∧ ∀ g : Int, 0 ≤ g → g < f → ¬ Fit n δ α β g
theorem far_one {n : Int} {δ : Int → Int → Int} {α β : Int → Int} {f g : Int} (h : FarOk n δ α β f) (h2 : FarOk n δ α β g) : f = g := by
  by_cases c : f < g
  · exact absurd h.2.1 (h2.2.2 f h.1 c)
  · by_cases c2 : g < f
    · exact absurd h2.2.1 (h.2.2 g h2.1 c2)
    · omega
/-- G: goods along near pairs; S: what a search from what is left reaches -/
def Clo (n : Int) (near : Int → Int → Prop) (α : Int → Int) (G : Int → Int → Int) (S : Int → Prop) : Prop := (∀ u : Int, 0 ≤ u → u < n → su n (G u) < α u → S u) ∧ ∀ u v x : Int, 0 ≤ u → u < n → 0 ≤ v → v < n → 0 ≤ x → x < n → S u → near u v → 0 < G x v → S x
def Shd (n : Int) (near : Int → Int → Prop) (α β : Int → Int) (S : Int → Prop) : Prop := ∃ G : Int → Int → Int, (∀ u v : Int, 0 ≤ u → u < n → 0 ≤ v → v < n → 0 ≤ G u v ∧ (0 < G u v → near u v)) ∧ (∀ u : Int, 0 ≤ u → u < n → su n (G u) ≤ α u) ∧ (∀ v : Int, 0 ≤ v → v < n → su n (fun u => G u v) ≤ β v) ∧ Clo n near α G S ∧ (∀ u v : Int, 0 ≤ u → u < n → 0 ≤ v → v < n → S u → near u v → su n (fun u => G u v) = β v) ∧ ∀ S' : Int → Prop, Clo n near α G S' → ∀ u : Int, 0 ≤ u → u < n → S u → S' u
noncomputable def ind (p : Prop) (x : Int) : Int := @ite Int p (Classical.propDecidable p) x 0
theorem ind_t {p : Prop} {x : Int} (h : p) : ind p x = x := if_pos h
theorem ind_f {p : Prop} {x : Int} (h : ¬ p) : ind p x = 0 := if_neg h
/-- what flows is at most what a cut lets through; how much less -/
theorem cut_eq {n : Int} {near : Int → Int → Prop} {α β : Int → Int} {G : Int → Int → Int} {S : Int → Prop} (hG : ∀ u v : Int, 0 ≤ u → u < n → 0 ≤ v → v < n → 0 ≤ G u v ∧ (0 < G u v → near u v)) : su n (fun u => su n (G u)) + (su n (fun u => ind (¬ S u) (α u - su n (G u))) + su n (fun v => ind (∃ u : Int, 0 ≤ u ∧ u < n ∧ S u ∧ near u v) (β v - su n (fun u => G u v))) + su n (fun u => su n (fun v => ind (¬ S u ∧ ∃ x : Int, 0 ≤ x ∧ x < n ∧ S x ∧ near x v) (G u v)))) = su n (fun u => ind (¬ S u) (α u)) + su n (fun v => ind (∃ u : Int, 0 ≤ u ∧ u < n ∧ S u ∧ near u v) (β v)) := by
  have e1 : su n (fun u => ind (¬ S u) (α u - su n (G u))) = su n (fun u => ind (¬ S u) (α u)) - su n (fun u => su n (fun v => ind (¬ S u) (G u v))) := by
    rw [← su_sub]
    refine su_congr (fun u a b => ?_)
    by_cases c : S u
    · rw [ind_f (fun q => q c), ind_f (fun q => q c), su_all0 (fun v _ _ => ind_f (fun q => q c))]; rfl
    · rw [ind_t c, ind_t c, su_congr (fun v _ _ => ind_t c)]
  have e2 : su n (fun v => ind (∃ u : Int, 0 ≤ u ∧ u < n ∧ S u ∧ near u v) (β v - su n (fun u => G u v))) = su n (fun v => ind (∃ u : Int, 0 ≤ u ∧ u < n ∧ S u ∧ near u v) (β v)) - su n (fun u => su n (fun v => ind (∃ u : Int, 0 ≤ u ∧ u < n ∧ S u ∧ near u v) (G u v))) := by
    rw [su_swap n n (fun u v => ind (∃ u : Int, 0 ≤ u ∧ u < n ∧ S u ∧ near u v) (G u v)), ← su_sub]
    refine su_congr (fun v a b => ?_)
    by_cases c : ∃ u : Int, 0 ≤ u ∧ u < n ∧ S u ∧ near u v
    · rw [ind_t c, ind_t c, su_congr (fun u _ _ => ind_t c)]
    · rw [ind_f c, ind_f c, su_all0 (fun u _ _ => ind_f c)]; rfl
  have e3 : su n (fun u => su n (G u)) = su n (fun u => su n (fun v => ind (¬ S u) (G u v) + ind (∃ u : Int, 0 ≤ u ∧ u < n ∧ S u ∧ near u v) (G u v) - ind (¬ S u ∧ ∃ x : Int, 0 ≤ x ∧ x < n ∧ S x ∧ near x v) (G u v))) := su2_congr (fun u v a b c d => by
    by_cases c1 : S u
    · rw [ind_f (fun q => q c1), ind_f (p := ¬ S u ∧ _) (fun q => q.1 c1)]
      by_cases c2 : 0 < G u v
      · rw [ind_t ⟨u, a, b, c1, (hG u v a b c d).2 c2⟩]; omega
      · have := (hG u v a b c d).1
        have h0 : G u v = 0 := by omega
        rw [h0]
        unfold ind
        split <;> rfl
    · rw [ind_t c1]
      by_cases c2 : ∃ u : Int, 0 ≤ u ∧ u < n ∧ S u ∧ near u v
      · rw [ind_t c2, ind_t ⟨c1, c2⟩]; omega
      · rw [ind_f c2, ind_f (fun q => c2 q.2)]; omega)
  have e4 : su n (fun u => su n (fun v => ind (¬ S u) (G u v) + ind (∃ u : Int, 0 ≤ u ∧ u < n ∧ S u ∧ near u v) (G u v) - ind (¬ S u ∧ ∃ x : Int, 0 ≤ x ∧ x < n ∧ S x ∧ near x v) (G u v))) = su n (fun u => su n (fun v => ind (¬ S u) (G u v))) + su n (fun u => su n (fun v => ind (∃ u : Int, 0 ≤ u ∧ u < n ∧ S u ∧ near u v) (G u v))) - su n (fun u => su n (fun v => ind (¬ S u ∧ ∃ x : Int, 0 ≤ x ∧ x < n ∧ S x ∧ near x v) (G u v))) := by
    rw [su2_sub n (fun u v => ind (¬ S u) (G u v) + ind (∃ u : Int, 0 ≤ u ∧ u < n ∧ S u ∧ near u v) (G u v)), su2_add]
  omega
theorem ind_nonneg {p : Prop} {x : Int} (h : 0 ≤ x) : 0 ≤ ind p x := by unfold ind; split <;> omega
theorem shd_half {n : Int} {near : Int → Int → Prop} {α β : Int → Int} {S S' : Int → Prop} (h : Shd n near α β S) (h' : Shd n near α β S') : ∀ u : Int, 0 ≤ u → u < n → S u → S' u := by
  obtain ⟨G, g1, g2, g3, g4, g5, g6⟩ := h
  obtain ⟨F, f1, f2, f3, f4, f5, f6⟩ := h'
  refine g6 S' ?_
  -- both flows are as great as their cuts
  have slack : ∀ (E : Int → Int → Int) (D : Int → Prop), (∀ u v : Int, 0 ≤ u → u < n → 0 ≤ v → v < n → 0 ≤ E u v ∧ (0 < E u v → near u v)) → (∀ u : Int, 0 ≤ u → u < n → su n (E u) ≤ α u) → (∀ v : Int, 0 ≤ v → v < n → su n (fun u => E u v) ≤ β v) → 0 ≤ su n (fun u => ind (¬ D u) (α u - su n (E u))) ∧ 0 ≤ su n (fun v => ind (∃ u : Int, 0 ≤ u ∧ u < n ∧ D u ∧ near u v) (β v - su n (fun u => E u v))) ∧ 0 ≤ su n (fun u => su n (fun v => ind (¬ D u ∧ ∃ x : Int, 0 ≤ x ∧ x < n ∧ D x ∧ near x v) (E u v))) := fun E D h1 h2 h3 => ⟨su_nonneg (fun u a b => ind_nonneg (by have := h2 u a b; omega)), su_nonneg (fun v a b => ind_nonneg (by have := h3 v a b; omega)), su_nonneg (fun u a b => su_nonneg (fun v c d => ind_nonneg (h1 u v a b c d).1))⟩
  have full : ∀ (E : Int → Int → Int) (D : Int → Prop), (∀ u v : Int, 0 ≤ u → u < n → 0 ≤ v → v < n → 0 ≤ E u v ∧ (0 < E u v → near u v)) → (∀ u : Int, 0 ≤ u → u < n → su n (E u) ≤ α u) → Clo n near α E D → (∀ u v : Int, 0 ≤ u → u < n → 0 ≤ v → v < n → D u → near u v → su n (fun u => E u v) = β v) → su n (fun u => ind (¬ D u) (α u - su n (E u))) = 0 ∧ su n (fun v => ind (∃ u : Int, 0 ≤ u ∧ u < n ∧ D u ∧ near u v) (β v - su n (fun u => E u v))) = 0 ∧ su n (fun u => su n (fun v => ind (¬ D u ∧ ∃ x : Int, 0 ≤ x ∧ x < n ∧ D x ∧ near x v) (E u v))) = 0 := fun E D h1 h2 h3 h4 => by
    refine ⟨su_all0 (fun u a b => ?_), su_all0 (fun v a b => ?_), su_all0 (fun u a b => su_all0 (fun v c d => ?_))⟩
    · by_cases c : D u
      · exact ind_f (fun q => q c)
      · rw [ind_t c]
        have := h2 u a b
        by_cases c2 : su n (E u) < α u
        · exact absurd (h3.1 u a b c2) c
        · omega
    · by_cases c : ∃ u : Int, 0 ≤ u ∧ u < n ∧ D u ∧ near u v
      · rw [ind_t c]
        obtain ⟨u, u0, u1, u2, u3⟩ := c
        have := h4 u v u0 u1 a b u2 u3
        omega
      · exact ind_f c
    · by_cases c1 : ¬ D u ∧ ∃ x : Int, 0 ≤ x ∧ x < n ∧ D x ∧ near x v
      · rw [ind_t c1]
        obtain ⟨x, x0, x1, x2, x3⟩ := c1.2
        have := (h1 u v a b c d).1
        by_cases c2 : 0 < E u v
        · exact absurd (h3.2 x v u x0 x1 c d a b x2 x3 c2) c1.1
        · omega
      · exact ind_f c1
  have c1 := cut_eq (α := α) (β := β) (S := S) g1
  have c2 := cut_eq (α := α) (β := β) (S := S') g1
  have c3 := cut_eq (α := α) (β := β) (S := S) f1
  have c4 := cut_eq (α := α) (β := β) (S := S') f1
  obtain ⟨s1, s2, s3⟩ := slack G S' g1 g2 g3
  obtain ⟨t1, t2, t3⟩ := slack F S f1 f2 f3
  obtain ⟨x1, x2, x3⟩ := full G S g1 g2 g4 g5
  obtain ⟨y1, y2, y3⟩ := full F S' f1 f2 f4 f5
  have z1 : su n (fun u => ind (¬ S' u) (α u - su n (G u))) = 0 := by omega
  have z3 : su n (fun u => su n (fun v => ind (¬ S' u ∧ ∃ x : Int, 0 ≤ x ∧ x < n ∧ S' x ∧ near x v) (G u v))) = 0 := by omega
  refine ⟨fun u a b hl => ?_, fun u v x u0 u1 v0 v1 x0 x1 hu hn hg => ?_⟩
  · apply Classical.byContradiction
    intro c
    have := su_zero_all (n := n) (fun u a b => ind_nonneg (p := ¬ S' u) (by have := g2 u a b; omega)) z1 u a b
    rw [ind_t c] at this
    omega
  · apply Classical.byContradiction
    intro c
    have := su2_zero (n := n) (fun u v a b c d => ind_nonneg (p := ¬ S' u ∧ ∃ x : Int, 0 ≤ x ∧ x < n ∧ S' x ∧ near x v) (g1 u v a b c d).1) z3 x v x0 x1 v0 v1
    rw [ind_t ⟨c, u, u0, u1, hu, hn⟩] at this
    omega
