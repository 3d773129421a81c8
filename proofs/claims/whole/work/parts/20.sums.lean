/-! sums of whole numbers over 0 .. n-1, and counting -/
def sm (n : Nat) (f : Int → Int) : Int := match n with
  | 0 => 0
  | k + 1 => sm k f + f k
theorem sm_0 (f : Int → Int) : sm 0 f = 0 := rfl
theorem sm_s (n : Nat) (f : Int → Int) : sm (n + 1) f = sm n f + f n := rfl
theorem sm_congr {n : Nat} {f g : Int → Int} (h : ∀ k : Int, 0 ≤ k → k < n → f k = g k) : sm n f = sm n g := by
  induction n with
  | zero => rfl
  | succ n ih =>
    rw [sm_s, sm_s, ih (fun k h0 h1 => h k h0 (by omega)), h n (by omega) (by omega)]
theorem sm_add (n : Nat) (f g : Int → Int) : sm n (fun k => f k + g k) = sm n f + sm n g := by
  induction n with
  | zero => rfl
  | succ n ih => rw [sm_s, sm_s, sm_s, ih]; omega
theorem sm_sub (n : Nat) (f g : Int → Int) : sm n (fun k => f k - g k) = sm n f - sm n g := by
  induction n with
  | zero => rfl
  | succ n ih => rw [sm_s, sm_s, sm_s, ih]; omega
theorem sm_neg (n : Nat) (f : Int → Int) : sm n (fun k => - f k) = - sm n f := by
  induction n with
  | zero => rfl
  | succ n ih => rw [sm_s, sm_s, ih]; omega
theorem sm_mul (n : Nat) (c : Int) (f : Int → Int) : sm n (fun k => c * f k) = c * sm n f := by
  induction n with
  | zero => simp [sm_0]
  | succ n ih => rw [sm_s, sm_s, ih, Int.mul_add]
theorem sm_mulr (n : Nat) (c : Int) (f : Int → Int) : sm n (fun k => f k * c) = sm n f * c := by
  induction n with
  | zero => simp [sm_0]
  | succ n ih => rw [sm_s, sm_s, ih, Int.add_mul]
theorem sm_zero (n : Nat) : sm n (fun _ => 0) = 0 := by
  induction n with
  | zero => rfl
  | succ n ih => rw [sm_s, ih]; rfl
theorem sm_const (n : Nat) (c : Int) : sm n (fun _ => c) = n * c := by
  induction n with
  | zero => simp [sm_0]
  | succ n ih => rw [sm_s, ih, Int.natCast_add, Int.add_mul]; simp
theorem sm_le {n : Nat} {f g : Int → Int} (h : ∀ k : Int, 0 ≤ k → k < n → f k ≤ g k) : sm n f ≤ sm n g := by
  induction n with
  | zero => exact Int.le_refl _
  | succ n ih =>
    rw [sm_s, sm_s]
    have h1 := ih (fun k h0 h1 => h k h0 (by omega))
    have h2 := h n (by omega) (by omega)
    omega
theorem sm_nonneg {n : Nat} {f : Int → Int} (h : ∀ k : Int, 0 ≤ k → k < n → 0 ≤ f k) : 0 ≤ sm n f := by
  have := sm_le (n := n) (f := fun _ => 0) (g := f) h
  rw [sm_zero] at this
  exact this
/-- one term of a sum of nonnegative ones is at most the sum -/
theorem sm_term {n : Nat} {f : Int → Int} (h : ∀ k : Int, 0 ≤ k → k < n → 0 ≤ f k) {j : Int} (h0 : 0 ≤ j) (hj : j < n) : f j ≤ sm n f := by
  induction n with
  | zero => omega
  | succ n ih =>
    rw [sm_s]
    by_cases e : j = n
    · subst e
      have := sm_nonneg (n := n) (f := f) (fun k a b => h k a (by omega))
      omega
    · have h1 := ih (fun k a b => h k a (by omega)) (by omega)
      have h2 := h n (by omega) (by omega)
      omega
theorem sm_zero_all {n : Nat} {f : Int → Int} (h : ∀ k : Int, 0 ≤ k → k < n → 0 ≤ f k) (hs : sm n f = 0) : ∀ j : Int, 0 ≤ j → j < n → f j = 0 := by
  intro j h0 hj
  have h1 := sm_term h h0 hj
  have h2 := h j h0 hj
  omega
/-- sums agree and the terms are ordered: the terms agree -/
theorem sm_eq_all {n : Nat} {f g : Int → Int} (h : ∀ k : Int, 0 ≤ k → k < n → f k ≤ g k) (hs : sm n f = sm n g) : ∀ j : Int, 0 ≤ j → j < n → f j = g j := by
  intro j h0 hj
  have := sm_zero_all (n := n) (f := fun k => g k - f k) (fun k a b => by have := h k a b; omega) (by rw [sm_sub]; omega) j h0 hj
  omega
theorem sm_swap (n m : Nat) (f : Int → Int → Int) : sm n (fun i => sm m (fun j => f i j)) = sm m (fun j => sm n (fun i => f i j)) := by
  induction n with
  | zero => rw [sm_0]; simp only [sm_0]; rw [sm_zero]
  | succ n ih =>
    rw [sm_s, ih, ← sm_add]
    rfl
/-- a change at one place -/
theorem sm_upd {n : Nat} {f g : Int → Int} {j : Int} (h0 : 0 ≤ j) (hj : j < n) (h : ∀ k : Int, 0 ≤ k → k < n → k ≠ j → g k = f k) : sm n g = sm n f - f j + g j := by
  induction n with
  | zero => omega
  | succ n ih =>
    rw [sm_s, sm_s]
    by_cases e : j = n
    · subst e
      rw [sm_congr (fun k a b => h k a (by omega) (by omega))]
      omega
    · rw [ih (by omega) (fun k a b c => h k a (by omega) c), h n (by omega) (by omega) (by omega)]
      omega
theorem sm_one {n : Nat} {f : Int → Int} {j : Int} (h0 : 0 ≤ j) (hj : j < n) (h : ∀ k : Int, 0 ≤ k → k < n → k ≠ j → f k = 0) : sm n f = f j := by
  have := sm_upd (n := n) (f := fun _ => 0) (g := f) h0 hj h
  rw [sm_zero] at this
  omega
theorem sm_out {n : Nat} {f g : Int → Int} (h : ∀ k : Int, 0 ≤ k → k < n → g k = f k) : sm n g = sm n f := sm_congr h
/-- longer by zeros -/
theorem sm_ext {n m : Nat} {f : Int → Int} (hnm : n ≤ m) (h : ∀ k : Int, n ≤ k → k < m → f k = 0) : sm m f = sm n f := by
  induction m with
  | zero => rw [show n = 0 by omega]
  | succ m ih =>
    by_cases e : n = m + 1
    · rw [e]
    · rw [sm_s, ih (by omega) (fun k a b => h k a (by omega)), h m (by omega) (by omega)]
      omega
/-! how many of 0 .. n-1 -/
noncomputable def ct (n : Nat) (p : Int → Prop) : Nat := match n with
  | 0 => 0
  | k + 1 => ct k p + (@ite Nat (p k) (Classical.propDecidable (p k)) 1 0)
theorem ct_s (n : Nat) (p : Int → Prop) : ct (n + 1) p = ct n p + @ite Nat (p n) (Classical.propDecidable (p n)) 1 0 := rfl
theorem ct_le (n : Nat) (p : Int → Prop) : ct n p ≤ n := by
  induction n with
  | zero => exact Nat.le_refl _
  | succ n ih =>
    rw [ct_s]
    split <;> omega
theorem ct_mono {n : Nat} {p q : Int → Prop} (h : ∀ k : Int, 0 ≤ k → k < n → p k → q k) : ct n p ≤ ct n q := by
  induction n with
  | zero => exact Nat.le_refl _
  | succ n ih =>
    have h1 := ih (fun k a b c => h k a (by omega) c)
    rw [ct_s, ct_s]
    by_cases hp : p n
    · rw [if_pos hp, if_pos (h n (by omega) (by omega) hp)]; omega
    · rw [if_neg hp]; omega
theorem ct_lt {n : Nat} {p q : Int → Prop} (h : ∀ k : Int, 0 ≤ k → k < n → p k → q k) {j : Int} (h0 : 0 ≤ j) (hj : j < n) (hp : ¬ p j) (hq : q j) : ct n p < ct n q := by
  induction n with
  | zero => omega
  | succ n ih =>
    rw [ct_s, ct_s]
    by_cases e : j = n
    · subst e
      have h1 := ct_mono (n := n) (fun k a b c => h k a (by omega) c)
      rw [if_neg hp, if_pos hq]; omega
    · have h1 := ih (fun k a b c => h k a (by omega) c) (by omega)
      by_cases hp2 : p n
      · rw [if_pos hp2, if_pos (h n (by omega) (by omega) hp2)]; omega
      · rw [if_neg hp2]; omega
theorem ct_ltn {n : Nat} {p : Int → Prop} {j : Int} (h0 : 0 ≤ j) (hj : j < n) (hp : ¬ p j) : ct n p < n := by
  have h1 := ct_lt (n := n) (p := p) (q := fun _ => True) (fun _ _ _ _ => trivial) h0 hj hp trivial
  have h2 := ct_le n (fun _ => True)
  omega
/-! loops: for (i = 0; i < e; i++), and by a measure -/
theorem lpN {σ : Type} (Wp : Nat → σ → Prop) (I : σ → Prop) (μ : σ → Nat) (hs : ∀ (n : Nat) (s : σ), I s → (∀ s', I s' → μ s' < μ s → Wp n s') → Wp (n + 1) s) (s : σ) (h : I s) : ∃ n, Wp n s := by
  have key : ∀ (k : Nat) (s : σ), I s → μ s < k → Wp k s := by
    intro k
    induction k with
    | zero => intro s _ h2; omega
    | succ k ih => intro s h1 h2; exact hs k s h1 (fun s' a b => ih s' a (by omega))
  exact ⟨μ s + 1, key _ s h (by omega)⟩
