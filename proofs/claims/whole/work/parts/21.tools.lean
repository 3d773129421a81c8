/-! sums over 0 ≤ k < n, n a whole number -/
def su (n : Int) (f : Int → Int) : Int := sm n.toNat f
theorem su_0 (f : Int → Int) : su 0 f = 0 := rfl
theorem su_s {n : Int} (h : 0 ≤ n) (f : Int → Int) : su (n + 1) f = su n f + f n := by
  unfold su
  rw [show (n + 1).toNat = n.toNat + 1 by omega, sm_s, Int.toNat_of_nonneg h]
theorem su_neg0 {n : Int} (h : n ≤ 0) (f : Int → Int) : su n f = 0 := by
  unfold su
  rw [show n.toNat = 0 by omega]; rfl
theorem su_congr {n : Int} {f g : Int → Int} (h : ∀ k : Int, 0 ≤ k → k < n → f k = g k) : su n f = su n g := sm_congr (fun k a b => h k a (by omega))
theorem su_add (n : Int) (f g : Int → Int) : su n (fun k => f k + g k) = su n f + su n g := sm_add _ f g
theorem su_sub (n : Int) (f g : Int → Int) : su n (fun k => f k - g k) = su n f - su n g := sm_sub _ f g
theorem su_neg (n : Int) (f : Int → Int) : su n (fun k => - f k) = - su n f := sm_neg _ f
theorem su_mul (n : Int) (c : Int) (f : Int → Int) : su n (fun k => c * f k) = c * su n f := sm_mul _ c f
theorem su_mulr (n : Int) (c : Int) (f : Int → Int) : su n (fun k => f k * c) = su n f * c := sm_mulr _ c f
theorem su_zero (n : Int) : su n (fun _ => 0) = 0 := sm_zero _
theorem su_const {n : Int} (h : 0 ≤ n) (c : Int) : su n (fun _ => c) = n * c := by
  unfold su
  rw [sm_const, Int.toNat_of_nonneg h]
theorem su_le {n : Int} {f g : Int → Int} (h : ∀ k : Int, 0 ≤ k → k < n → f k ≤ g k) : su n f ≤ su n g := sm_le (fun k a b => h k a (by omega))
theorem su_nonneg {n : Int} {f : Int → Int} (h : ∀ k : Int, 0 ≤ k → k < n → 0 ≤ f k) : 0 ≤ su n f := sm_nonneg (fun k a b => h k a (by omega))
theorem su_term {n : Int} {f : Int → Int} (h : ∀ k : Int, 0 ≤ k → k < n → 0 ≤ f k) {j : Int} (h0 : 0 ≤ j) (hj : j < n) : f j ≤ su n f := sm_term (fun k a b => h k a (by omega)) h0 (by omega)
theorem su_zero_all {n : Int} {f : Int → Int} (h : ∀ k : Int, 0 ≤ k → k < n → 0 ≤ f k) (hs : su n f = 0) : ∀ j : Int, 0 ≤ j → j < n → f j = 0 := fun j a b => sm_zero_all (fun k a b => h k a (by omega)) hs j a (by omega)
theorem su_eq_all {n : Int} {f g : Int → Int} (h : ∀ k : Int, 0 ≤ k → k < n → f k ≤ g k) (hs : su n f = su n g) : ∀ j : Int, 0 ≤ j → j < n → f j = g j := fun j a b => sm_eq_all (fun k a b => h k a (by omega)) hs j a (by omega)
theorem su_swap (n m : Int) (f : Int → Int → Int) : su n (fun i => su m (fun j => f i j)) = su m (fun j => su n (fun i => f i j)) := sm_swap _ _ f
theorem su_upd {n : Int} {f g : Int → Int} {j : Int} (h0 : 0 ≤ j) (hj : j < n) (h : ∀ k : Int, 0 ≤ k → k < n → k ≠ j → g k = f k) : su n g = su n f - f j + g j := sm_upd h0 (by omega) (fun k a b c => h k a (by omega) c)
theorem su_one {n : Int} {f : Int → Int} {j : Int} (h0 : 0 ≤ j) (hj : j < n) (h : ∀ k : Int, 0 ≤ k → k < n → k ≠ j → f k = 0) : su n f = f j := sm_one h0 (by omega) (fun k a b c => h k a (by omega) c)
theorem su_ext {n m : Int} {f : Int → Int} (hnm : n ≤ m) (h0 : 0 ≤ n) (h : ∀ k : Int, n ≤ k → k < m → f k = 0) : su m f = su n f := sm_ext (by omega) (fun k a b => h k (by omega) (by omega))
theorem su_all0 {n : Int} {f : Int → Int} (h : ∀ k : Int, 0 ≤ k → k < n → f k = 0) : su n f = 0 := by
  rw [su_congr (g := fun _ => 0) h, su_zero]
theorem su_bnd {n B : Int} {f : Int → Int} (h0 : 0 ≤ n) (h : ∀ k : Int, 0 ≤ k → k < n → 0 ≤ f k ∧ f k ≤ B) : 0 ≤ su n f ∧ su n f ≤ n * B := by
  refine ⟨su_nonneg (fun k a b => (h k a b).1), ?_⟩
  rw [← su_const h0 B]
  exact su_le (fun k a b => (h k a b).2)
theorem su_pos {n : Int} {f : Int → Int} (h : ∀ k : Int, 0 ≤ k → k < n → 0 ≤ f k) (hs : 0 < su n f) : ∃ j : Int, 0 ≤ j ∧ j < n ∧ 0 < f j := by
  apply Classical.byContradiction
  intro hc
  have := su_all0 (n := n) (f := f) (fun k a b => by
    have h1 := h k a b
    have h2 : ¬ 0 < f k := fun q => hc ⟨k, a, b, q⟩
    omega)
  omega
theorem su_lt {n : Int} {f g : Int → Int} (h : ∀ k : Int, 0 ≤ k → k < n → f k ≤ g k) (hs : su n f < su n g) : ∃ j : Int, 0 ≤ j ∧ j < n ∧ f j < g j := by
  obtain ⟨j, a, b, c⟩ := su_pos (n := n) (f := fun k => g k - f k) (fun k a b => by have := h k a b; omega) (by rw [su_sub]; omega)
  exact ⟨j, a, b, by omega⟩
/-! how many of 0 ≤ k < n -/
noncomputable def cn (n : Int) (p : Int → Prop) : Int := (ct n.toNat p : Nat)
theorem cn_nonneg (n : Int) (p : Int → Prop) : 0 ≤ cn n p := by unfold cn; omega
theorem cn_le {n : Int} (h : 0 ≤ n) (p : Int → Prop) : cn n p ≤ n := by have := ct_le n.toNat p; unfold cn; omega
theorem cn_mono {n : Int} {p q : Int → Prop} (h : ∀ k : Int, 0 ≤ k → k < n → p k → q k) : cn n p ≤ cn n q := by
  have := ct_mono (n := n.toNat) (p := p) (q := q) (fun k a b => h k a (by omega))
  unfold cn; omega
theorem cn_lt {n : Int} {p q : Int → Prop} (h : ∀ k : Int, 0 ≤ k → k < n → p k → q k) {j : Int} (h0 : 0 ≤ j) (hj : j < n) (hp : ¬ p j) (hq : q j) : cn n p < cn n q := by
  have := ct_lt (n := n.toNat) (p := p) (q := q) (fun k a b => h k a (by omega)) h0 (by omega) hp hq
  unfold cn; omega
theorem cn_ltn {n : Int} {p : Int → Prop} {j : Int} (h0 : 0 ≤ j) (hj : j < n) (hp : ¬ p j) : cn n p < n := by
  have := ct_ltn (n := n.toNat) (p := p) h0 (by omega) hp
  unfold cn; omega
theorem cn_s {n : Int} (h : 0 ≤ n) (p : Int → Prop) : cn (n + 1) p = cn n p + @ite Int (p n) (Classical.propDecidable (p n)) 1 0 := by
  unfold cn
  rw [show (n + 1).toNat = n.toNat + 1 by omega, ct_s, Int.toNat_of_nonneg h]
  split <;> omega
theorem cn_0 (p : Int → Prop) : cn 0 p = 0 := rfl
theorem cn_pos {n : Int} {p : Int → Prop} {j : Int} (h0 : 0 ≤ j) (hj : j < n) (hp : p j) : 0 < cn n p := by
  have := cn_lt (n := n) (p := fun _ => False) (q := p) (fun _ _ _ q => q.elim) h0 hj (fun q => q) hp
  have := cn_nonneg n (fun _ => False)
  omega
/-! least numbers -/
/-- a lowest point of f among 0 ≤ k < n that hold p -/
theorem ex_min (n : Nat) (p : Int → Prop) (f : Int → Int) (h : ∃ k : Int, 0 ≤ k ∧ k < n ∧ p k) : ∃ k : Int, 0 ≤ k ∧ k < n ∧ p k ∧ ∀ j : Int, 0 ≤ j → j < n → p j → f k ≤ f j := by
  induction n with
  | zero => obtain ⟨k, a, b, _⟩ := h; omega
  | succ n ih =>
    by_cases hx : ∃ k : Int, 0 ≤ k ∧ k < n ∧ p k
    · obtain ⟨k, a, b, c, d⟩ := ih hx
      by_cases hn : p n ∧ f n < f k
      · refine ⟨n, by omega, by omega, hn.1, fun j a1 b1 c1 => ?_⟩
        by_cases e : j = n
        · rw [e]; exact Int.le_refl _
        · have := d j a1 (by omega) c1; omega
      · refine ⟨k, a, by omega, c, fun j a1 b1 c1 => ?_⟩
        by_cases e : j = n
        · subst e
          by_cases e2 : f n < f k
          · exact absurd ⟨c1, e2⟩ hn
          · omega
        · exact d j a1 (by omega) c1
    · obtain ⟨k, a, b, c⟩ := h
      have e : k = n := by
        by_cases e : k = n
        · exact e
        · exact absurd ⟨k, a, by omega, c⟩ hx
      subst e
      refine ⟨n, by omega, by omega, c, fun j a1 b1 c1 => ?_⟩
      by_cases e : j = n
      · rw [e]; exact Int.le_refl _
      · exact absurd ⟨j, a1, by omega, c1⟩ hx
/-- the least of c and all f k -/
def mn (n : Nat) (c : Int) (p : Int → Bool) (f : Int → Int) : Int := match n with
  | 0 => c
  | k + 1 => if p k then min (mn k c p f) (f k) else mn k c p f
theorem mn_le (n : Nat) (c : Int) (p : Int → Bool) (f : Int → Int) : mn n c p f ≤ c := by
  induction n with
  | zero => exact Int.le_refl _
  | succ n ih => unfold mn; split <;> omega
theorem mn_le1 {n : Nat} {c : Int} {p : Int → Bool} {f : Int → Int} {k : Int} (h0 : 0 ≤ k) (h1 : k < n) (hp : p k = true) : mn n c p f ≤ f k := by
  induction n with
  | zero => omega
  | succ n ih =>
    unfold mn
    by_cases e : k = n
    · subst e; rw [if_pos hp]; omega
    · have := ih (by omega); split <;> omega
theorem mn_at (n : Nat) (c : Int) (p : Int → Bool) (f : Int → Int) : mn n c p f = c ∨ ∃ k : Int, 0 ≤ k ∧ k < n ∧ p k = true ∧ mn n c p f = f k := by
  induction n with
  | zero => exact Or.inl rfl
  | succ n ih =>
    unfold mn
    split
    · rename_i hp
      by_cases e : f n < mn n c p f
      · exact Or.inr ⟨n, by omega, by omega, hp, by omega⟩
      · rw [show min (mn n c p f) (f n) = mn n c p f by omega]
        rcases ih with h | ⟨k, a, b, d, e⟩
        · exact Or.inl h
        · exact Or.inr ⟨k, a, by omega, d, e⟩
    · rcases ih with h | ⟨k, a, b, d, e⟩
      · exact Or.inl h
      · exact Or.inr ⟨k, a, by omega, d, e⟩
theorem le_mn {n : Nat} {c d : Int} {p : Int → Bool} {f : Int → Int} (hc : d ≤ c) (h : ∀ k : Int, 0 ≤ k → k < n → p k = true → d ≤ f k) : d ≤ mn n c p f := by
  rcases mn_at n c p f with e | ⟨k, a, b, q, e⟩
  · omega
  · have := h k a b q; omega
/-! rows filled with one number -/
def mfill (M : Mem) (r n v : Int) : Mem := fun a j => if a = r ∧ 0 ≤ j ∧ j < n then v else M a j
theorem mfill_0 (M : Mem) (r v : Int) : mfill M r 0 v = M := by
  funext a j
  unfold mfill
  split
  · omega
  · rfl
theorem mfill_s {M : Mem} {r n v : Int} (h : 0 ≤ n) : mset (mfill M r n v) r n v = mfill M r (n + 1) v := by
  funext a j
  unfold mset mfill
  by_cases e : a = r
  · by_cases e1 : j = n
    · rw [if_pos ⟨e, e1⟩, if_pos ⟨e, by omega, by omega⟩]
    · rw [if_neg (fun q => e1 q.2)]
      by_cases e2 : 0 ≤ j ∧ j < n
      · rw [if_pos ⟨e, e2⟩, if_pos ⟨e, e2.1, by omega⟩]
      · rw [if_neg (fun q => e2 q.2), if_neg (fun q => e2 ⟨q.2.1, by omega⟩)]
  · rw [if_neg (fun q => e q.1), if_neg (fun q => e q.1), if_neg (fun q => e q.1)]
theorem mfill_in {M : Mem} {r n v j : Int} (h0 : 0 ≤ j) (h1 : j < n) : mfill M r n v r j = v := if_pos ⟨rfl, h0, h1⟩
theorem mfill_r {M : Mem} {r n v a j : Int} (h : a ≠ r) : mfill M r n v a j = M a j := if_neg (fun q => h q.1)
theorem J7_fill {r v : Int} {M : Mem} {post : Mem → Prop} (h0 : 0 < lenX r) (h1 : lenX r ≤ 1000) (h : post (mfill M r (lenX r) v)) : wpJ7_fill_53178 r v M post := by
  refine ⟨h0, fun w hw => ?_⟩
  subst hw
  have key : ∀ (k : Nat) (x : Int), 0 ≤ x → x ≤ lenX r → lenX r - x < k → lpJ7_fill_53178_5 r post k v x (lenX r) (mfill M r x v) := by
    intro k
    induction k with
    | zero => intro x _ _ q; omega
    | succ k ih =>
      intro x hx hx1 hk
      unfold lpJ7_fill_53178_5
      refine ⟨fun q => ?_, fun q => ⟨by omega, fun N hN => ⟨by omega, ?_⟩⟩⟩
      · rw [show x = lenX r by omega]; exact h
      · rw [hN, mfill_s hx]
        exact ih (x + 1) (by omega) (by omega) (by omega)
  refine ⟨(lenX r).toNat + 1, ?_⟩
  have := key ((lenX r).toNat + 1) 0 (by omega) (by omega) (by omega)
  rw [mfill_0] at this
  exact this
/-! small methods -/
theorem X2_has {a : Int} {M : Mem} {post : Int → Mem → Prop} (h1 : 0 ≤ a → a < M 2 0 → post 1 M) (h0 : ¬ (0 ≤ a ∧ a < M 2 0) → post 0 M) : wpX2_has a M post := by
  unfold wpX2_has jbX2_has_16 jbX2_has_17
  refine ⟨fun q => ⟨Or.inl rfl, h0 (by omega)⟩, fun q => ⟨fun q2 => ⟨Or.inl rfl, h0 (by omega)⟩, fun q2 => ⟨Or.inr rfl, h1 (by omega) (by omega)⟩⟩⟩
theorem X3_has {a : Int} {M : Mem} {post : Int → Mem → Prop} (h1 : 0 ≤ a → a < M 1 0 → post 1 M) (h0 : ¬ (0 ≤ a ∧ a < M 1 0) → post 0 M) : wpX3_has a M post := by
  unfold wpX3_has jbX3_has_16 jbX3_has_17
  refine ⟨fun q => ⟨Or.inl rfl, h0 (by omega)⟩, fun q => ⟨fun q2 => ⟨Or.inl rfl, h0 (by omega)⟩, fun q2 => ⟨Or.inr rfl, h1 (by omega) (by omega)⟩⟩⟩
theorem X9_in {a l m : Int} {M : Mem} {post : Int → Mem → Prop} (h1 : l ≤ a → a ≤ m → post 1 M) (h0 : ¬ (l ≤ a ∧ a ≤ m) → post 0 M) : wpX9_in a l m M post := by
  unfold wpX9_in jbX9_in_14 jbX9_in_15
  refine ⟨fun q => ⟨Or.inl rfl, h0 (by omega)⟩, fun q => ⟨fun q2 => ⟨Or.inl rfl, h0 (by omega)⟩, fun q2 => ⟨Or.inr rfl, h1 (by omega) (by omega)⟩⟩⟩
theorem X9_isPlace {a : Int} {M : Mem} {post : Int → Mem → Prop} (hn : 0 ≤ M 0 0 ∧ M 0 0 ≤ 10) (h1 : 0 ≤ a → a < M 0 0 → post 1 M) (h0 : ¬ (0 ≤ a ∧ a < M 0 0) → post 0 M) : wpX9_isPlace a M post := by
  unfold wpX9_isPlace
  exact ⟨by omega, X9_in (fun p q => ⟨Or.inr rfl, h1 p (by omega)⟩) (fun p => ⟨Or.inl rfl, h0 (by omega)⟩)⟩
theorem X9_isHeap {a : Int} {M : Mem} {post : Int → Mem → Prop} (hn : 0 ≤ M 0 5 ∧ M 0 5 ≤ 8) (h1 : 0 ≤ a → a < M 0 5 → post 1 M) (h0 : ¬ (0 ≤ a ∧ a < M 0 5) → post 0 M) : wpX9_isHeap a M post := by
  unfold wpX9_isHeap
  exact ⟨by omega, X9_in (fun p q => ⟨Or.inr rfl, h1 p (by omega)⟩) (fun p => ⟨Or.inl rfl, h0 (by omega)⟩)⟩
theorem X2_total {a : Int} {M : Mem} {post : Int → Mem → Prop} (ha : 0 ≤ a ∧ a < 8) (hM : ∀ v : Int, 0 ≤ v → v < 10 → 0 ≤ M (80 + a) v ∧ M (80 + a) v ≤ 1000) (h : post (su 10 (M (80 + a))) M) : wpX2_total a M post := by
  have key : ∀ (k : Nat) (x : Int), 0 ≤ x → x ≤ 10 → 10 - x < k → lpX2_total_4 post k a (su x (M (80 + a))) x M := by
    intro k
    induction k with
    | zero => intro x _ _ q; omega
    | succ k ih =>
      intro x hx hx1 hk
      unfold lpX2_total_4
      refine ⟨fun q => ?_, fun q => ⟨ha, by omega, ?_, fun v hv => ⟨by omega, ?_⟩⟩⟩
      · rw [show x = 10 by omega]; exact h
      · have h1 := su_bnd (n := x) (B := 1000) hx (fun k a b => hM k a (by omega))
        have h2 := hM x hx (by omega)
        omega
      · rw [hv, ← su_s hx]
        exact ih (x + 1) (by omega) (by omega) (by omega)
  exact ⟨11, key 11 0 (by omega) (by omega) (by omega)⟩
theorem X9_sumOf {a : Int} {M : Mem} {post : Int → Mem → Prop} (ha : 0 ≤ a ∧ a < 8) (hn : 0 ≤ M 0 0 ∧ M 0 0 ≤ 10) (hM : ∀ v : Int, 0 ≤ v → v < 10 → 0 ≤ M 4 (10 * a + v) ∧ M 4 (10 * a + v) ≤ 1000) (h : post (su (M 0 0) (fun v => M 4 (10 * a + v))) M) : wpX9_sumOf a M post := by
  have key : ∀ (k : Nat) (x : Int), 0 ≤ x → x ≤ M 0 0 → M 0 0 - x < k → lpX9_sumOf_4 post k a (su x (fun v => M 4 (10 * a + v))) x M := by
    intro k
    induction k with
    | zero => intro x _ _ q; omega
    | succ k ih =>
      intro x hx hx1 hk
      unfold lpX9_sumOf_4
      refine ⟨fun q => ?_, fun q => ⟨by omega, ?_, fun v hv => ⟨by omega, ?_⟩⟩⟩
      · rw [show x = M 0 0 by omega]; exact h
      · have h1 := su_bnd (n := x) (B := 1000) hx (fun k a b => hM k a (by omega))
        have h2 := hM x hx (by omega)
        omega
      · rw [hv]
        have := ih (x + 1) (by omega) (by omega) (by omega)
        rw [su_s hx] at this
        exact this
  exact ⟨11, key 11 0 (by omega) (by omega) (by omega)⟩
