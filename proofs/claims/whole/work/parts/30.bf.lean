/-! cheapest ways in a network: arcs e < N from T e to Q e with room R e and price P e; nodes x < J; K: no way -/
def ArcOk (J N B : Int) (T Q P : Int → Int) : Prop := ∀ e : Int, 0 ≤ e → e < N → 0 ≤ T e ∧ T e < J ∧ 0 ≤ Q e ∧ Q e < J ∧ -B ≤ P e ∧ P e ≤ B
def PotOk (N : Int) (T Q P R π : Int → Int) : Prop := ∀ e : Int, 0 ≤ e → e < N → 0 < R e → π (Q e) ≤ π (T e) + P e
/-- the state of a search: round k, arc j; s: time stamps, q: round stamps, t: the time -/
def BfI (J N B K : Int) (T Q P R π : Int → Int) (root : Int → Prop) (k j : Int) (d la s q : Int → Int) (t : Int) : Prop :=
  (∀ x : Int, 0 ≤ x → x < J → d x ≤ K ∧ (d x < K → π x ≤ d x ∧ d x ≤ B * cn J (fun y => d y < K)) ∧ s x < t ∧ 0 ≤ q x ∧ q x ≤ k ∧ (root x → d x ≤ 0))
  ∧ (∀ x : Int, 0 ≤ x → x < J → d x < K → (la x = -1 ∧ root x ∧ d x = 0 ∧ q x = 0) ∨ (0 ≤ la x ∧ la x < N ∧ Q (la x) = x ∧ 0 < R (la x) ∧ d (T (la x)) < K ∧ d (T (la x)) + P (la x) ≤ d x ∧ q x ≤ q (T (la x)) + 1 ∧ (d (T (la x)) + P (la x) = d x → s (T (la x)) < s x)))
  ∧ (∀ e : Int, 0 ≤ e → e < N → 0 < R e → d (T e) < K → q (T e) ≤ (if e < j then k - 1 else k - 2) → d (Q e) ≤ d (T e) + P e)
def up (f : Int → Int) (x v : Int) : Int → Int := fun y => if y = x then v else f y
theorem up_s (f : Int → Int) (x v : Int) : up f x v x = v := if_pos rfl
theorem up_n {f : Int → Int} {x v y : Int} (h : y ≠ x) : up f x v y = f y := if_neg h
theorem bf_skip {J N B K : Int} {T Q P R π : Int → Int} {root : Int → Prop} {k j : Int} {d la s q : Int → Int} {t : Int} (H : BfI J N B K T Q P R π root k j d la s q t) (h : 0 < R j → d (T j) < K → d (Q j) ≤ d (T j) + P j) : BfI J N B K T Q P R π root k (j + 1) d la s q t := by
  obtain ⟨h1, h2, h3⟩ := H
  refine ⟨h1, h2, fun e e0 e1 e2 e3 e4 => ?_⟩
  by_cases c : e = j
  · subst c; exact h e2 e3
  · refine h3 e e0 e1 e2 e3 ?_
    by_cases c2 : e < j
    · rw [if_pos c2]; rw [if_pos (by omega)] at e4; exact e4
    · rw [if_neg c2]; rw [if_neg (by omega)] at e4; exact e4
theorem bf_lower {J N B K : Int} {T Q P R π : Int → Int} {root : Int → Prop} {k j : Int} {d la s q : Int → Int} {t : Int} (hJ : 0 ≤ J) (hB : 0 ≤ B) (hK : B * J < K) (hA : ArcOk J N B T Q P) (hπ : PotOk N T Q P R π) (hk : 1 ≤ k) (j0 : 0 ≤ j) (j1 : j < N) (H : BfI J N B K T Q P R π root k j d la s q t) (hr : 0 < R j) (hd : d (T j) < K) (hl : d (T j) + P j < d (Q j)) : BfI J N B K T Q P R π root k (j + 1) (up d (Q j) (d (T j) + P j)) (up la (Q j) j) (up s (Q j) t) (up q (Q j) k) (t + 1) ∧ d (T j) + P j < K := by
  obtain ⟨h1, h2, h3⟩ := H
  obtain ⟨a1, a2, a3, a4, a5, a6⟩ := hA j j0 j1
  have hp := hπ j j0 j1 hr
  obtain ⟨b1, b2, b3, b4, b5, b6⟩ := h1 (T j) a1 a2
  obtain ⟨b7, b8⟩ := b2 hd
  obtain ⟨c1, c2, c3, c4, c5, c6⟩ := h1 (Q j) a3 a4
  have hxy : T j ≠ Q j := fun e => by rw [e] at hl hp; omega
  have hmono : cn J (fun y => d y < K) ≤ cn J (fun y => up d (Q j) (d (T j) + P j) y < K) := cn_mono (fun y _ _ hy => by
    show up d (Q j) (d (T j) + P j) y < K
    by_cases e : y = Q j
    · rw [e, up_s]; rw [e] at hy; omega
    · rw [up_n e]; exact hy)
  have hcJ : cn J (fun y => d y < K) ≤ J := cn_le hJ _
  have hBm : B * cn J (fun y => d y < K) ≤ B * J := Int.mul_le_mul_of_nonneg_left hcJ hB
  have hnew : d (T j) + P j < K ∧ d (T j) + P j ≤ B * cn J (fun y => up d (Q j) (d (T j) + P j) y < K) := by
    by_cases c : d (Q j) < K
    · obtain ⟨_, c8⟩ := c2 c
      have := Int.mul_le_mul_of_nonneg_left hmono hB
      omega
    · have hlt : cn J (fun y => d y < K) < J := cn_ltn a3 a4 c
      have g1 : B * (cn J (fun y => d y < K) + 1) ≤ B * J := Int.mul_le_mul_of_nonneg_left (by omega) hB
      rw [Int.mul_add, Int.mul_one] at g1
      have g2 : d (T j) + P j < K := by omega
      have hlt2 : cn J (fun y => d y < K) < cn J (fun y => up d (Q j) (d (T j) + P j) y < K) := cn_lt (fun y _ _ hy => by
        show up d (Q j) (d (T j) + P j) y < K
        by_cases e : y = Q j
        · rw [e, up_s]; exact g2
        · rw [up_n e]; exact hy) a3 a4 c (by show up d (Q j) (d (T j) + P j) (Q j) < K; rw [up_s]; exact g2)
      have g3 : B * (cn J (fun y => d y < K) + 1) ≤ B * cn J (fun y => up d (Q j) (d (T j) + P j) y < K) := Int.mul_le_mul_of_nonneg_left (by omega) hB
      rw [Int.mul_add, Int.mul_one] at g3
      omega
  have hq : k - 1 ≤ q (T j) := by
    apply Classical.byContradiction
    intro c
    have := h3 j j0 j1 hr hd (by rw [if_neg (by omega)]; omega)
    omega
  refine ⟨⟨fun x x0 x1 => ?_, fun x x0 x1 hx => ?_, fun e e0 e1 e2 e3 e4 => ?_⟩, hnew.1⟩
  · by_cases c : x = Q j
    · subst c
      rw [up_s, up_s, up_s]
      refine ⟨by omega, fun _ => ⟨by omega, hnew.2⟩, by omega, by omega, by omega, fun hr => ?_⟩
      have := c6 hr
      omega
    · rw [up_n c, up_n c, up_n c]
      obtain ⟨f1, f2, f3, f4, f5, f6⟩ := h1 x x0 x1
      refine ⟨f1, fun hx => ?_, by omega, f4, f5, f6⟩
      have := Int.mul_le_mul_of_nonneg_left hmono hB
      have := f2 hx
      omega
  · by_cases c : x = Q j
    · subst c
      right
      rw [up_s, up_s, up_s, up_s, up_n hxy, up_n hxy, up_n hxy]
      exact ⟨j0, j1, rfl, hr, hd, Int.le_refl _, by omega, fun _ => b3⟩
    · rw [up_n c] at hx
      rw [up_n c, up_n c, up_n c, up_n c]
      rcases h2 x x0 x1 hx with g | ⟨g1, g2, g3, g4, g5, g6, g7, g8⟩
      · exact Or.inl g
      · right
        by_cases c2 : T (la x) = Q j
        · rw [c2] at g5 g6 g7 g8
          rw [c2, up_s, up_s, up_s]
          exact ⟨g1, g2, g3, g4, hnew.1, by omega, by omega, fun hh => by omega⟩
        · rw [up_n c2, up_n c2, up_n c2]
          exact ⟨g1, g2, g3, g4, g5, g6, g7, g8⟩
  · by_cases c : T e = Q j
    · rw [c, up_s] at e4
      split at e4 <;> omega
    · rw [up_n c] at e3 e4 ⊢
      have hle : up d (Q j) (d (T j) + P j) (Q e) ≤ d (Q e) := by
        by_cases c2 : Q e = Q j
        · rw [c2, up_s]; omega
        · rw [up_n c2]; exact Int.le_refl _
      by_cases c3 : e = j
      · subst c3; rw [up_s]; exact Int.le_refl _
      · have := h3 e e0 e1 e2 e3 (by
          by_cases c4 : e < j
          · rw [if_pos c4]; rw [if_pos (by omega)] at e4; exact e4
          · rw [if_neg c4]; rw [if_neg (by omega)] at e4; exact e4)
        omega
theorem bf_round {J N B K : Int} {T Q P R π : Int → Int} {root : Int → Prop} {k : Int} {d la s q : Int → Int} {t : Int} (H : BfI J N B K T Q P R π root k N d la s q t) : BfI J N B K T Q P R π root (k + 1) 0 d la s q t := by
  obtain ⟨h1, h2, h3⟩ := H
  refine ⟨fun x x0 x1 => ?_, h2, fun e e0 e1 e2 e3 e4 => ?_⟩
  · obtain ⟨f1, f2, f3, f4, f5, f6⟩ := h1 x x0 x1
    exact ⟨f1, f2, f3, f4, by omega, f6⟩
  · rw [if_neg (by omega)] at e4
    exact h3 e e0 e1 e2 e3 (by rw [if_pos e1]; omega)
/-- the order of a search's nodes -/
noncomputable def rnk (J K : Int) (π d s : Int → Int) (x : Int) : Int := cn J (fun w => d w < K ∧ (d w - π w < d x - π x ∨ (d w - π w = d x - π x ∧ s w < s x)))
theorem rnk_lt {J K : Int} {π d s : Int → Int} {x y : Int} (y0 : 0 ≤ y) (y1 : y < J) (hy : d y < K) (h : d y - π y < d x - π x ∨ (d y - π y = d x - π x ∧ s y < s x)) : rnk J K π d s y < rnk J K π d s x := by
  refine cn_lt (fun w _ _ hw => ⟨hw.1, ?_⟩) y0 y1 (fun hw => ?_) ⟨hy, h⟩
  · have := hw.2; omega
  · have := hw.2; omega
theorem rnk_b {J K : Int} {π d s : Int → Int} {x : Int} (x0 : 0 ≤ x) (x1 : x < J) : 0 ≤ rnk J K π d s x ∧ rnk J K π d s x < J := ⟨cn_nonneg _ _, cn_ltn x0 x1 (fun hw => by have := hw.2; omega)⟩
theorem bf_rnk {J N B K : Int} {T Q P R π : Int → Int} {root : Int → Prop} {k j : Int} {d la s q : Int → Int} {t : Int} (hA : ArcOk J N B T Q P) (hπ : PotOk N T Q P R π) (H : BfI J N B K T Q P R π root k j d la s q t) {x : Int} (x0 : 0 ≤ x) (x1 : x < J) (hx : d x < K) (hl : la x ≠ -1) : rnk J K π d s (T (la x)) < rnk J K π d s x := by
  obtain ⟨h1, h2, h3⟩ := H
  rcases h2 x x0 x1 hx with g | ⟨g1, g2, g3, g4, g5, g6, g7, g8⟩
  · exact absurd g.1 hl
  · obtain ⟨a1, a2, _⟩ := hA (la x) g1 g2
    have hp := hπ (la x) g1 g2 g4
    rw [g3] at hp
    refine rnk_lt a1 a2 g5 ?_
    by_cases c : d (T (la x)) - π (T (la x)) < d x - π x
    · exact Or.inl c
    · have : d (T (la x)) + P (la x) = d x := by omega
      exact Or.inr ⟨by omega, g8 this⟩
theorem bf_q {J N B K : Int} {T Q P R π : Int → Int} {root : Int → Prop} {k j : Int} {d la s q : Int → Int} {t : Int} (hA : ArcOk J N B T Q P) (hπ : PotOk N T Q P R π) (H : BfI J N B K T Q P R π root k j d la s q t) : ∀ (m : Nat) (x : Int), 0 ≤ x → x < J → d x < K → rnk J K π d s x < m → q x ≤ rnk J K π d s x := by
  intro m
  induction m with
  | zero => intro x x0 x1 _ h; have := rnk_b (K := K) (π := π) (d := d) (s := s) x0 x1; omega
  | succ m ih =>
    intro x x0 x1 hx hm
    rcases H.2.1 x x0 x1 hx with g | ⟨g1, g2, g3, g4, g5, g6, g7, g8⟩
    · have := rnk_b (K := K) (π := π) (d := d) (s := s) x0 x1
      omega
    · have h1 := bf_rnk hA hπ H x0 x1 hx (by omega)
      obtain ⟨a1, a2, _⟩ := hA (la x) g1 g2
      have h2 := ih (T (la x)) a1 a2 g5 (by omega)
      omega
theorem bf_q2 {J N B K : Int} {T Q P R π : Int → Int} {root : Int → Prop} {k j : Int} {d la s q : Int → Int} {t : Int} (hA : ArcOk J N B T Q P) (hπ : PotOk N T Q P R π) (H : BfI J N B K T Q P R π root k j d la s q t) {x : Int} (x0 : 0 ≤ x) (x1 : x < J) (hx : d x < K) : q x < J := by
  have h1 := bf_q hA hπ H ((rnk J K π d s x).toNat + 1) x x0 x1 hx (by omega)
  have h2 := rnk_b (K := K) (π := π) (d := d) (s := s) x0 x1
  omega
/-- what a search leaves -/
def BfF (J N B K : Int) (T Q P R π : Int → Int) (root : Int → Prop) (d la ra : Int → Int) : Prop :=
  (∀ x : Int, 0 ≤ x → x < J → d x ≤ K ∧ (d x < K → π x ≤ d x ∧ d x ≤ B * J) ∧ (root x → d x ≤ 0) ∧ 0 ≤ ra x ∧ ra x < J)
  ∧ (∀ x : Int, 0 ≤ x → x < J → d x < K → (la x = -1 ∧ root x ∧ d x = 0) ∨ (0 ≤ la x ∧ la x < N ∧ Q (la x) = x ∧ 0 < R (la x) ∧ d (T (la x)) < K ∧ d x = d (T (la x)) + P (la x) ∧ ra (T (la x)) < ra x))
  ∧ (∀ e : Int, 0 ≤ e → e < N → 0 < R e → d (T e) < K → d (Q e) < K ∧ d (Q e) ≤ d (T e) + P e)
theorem bf_end {J N B K : Int} {T Q P R π : Int → Int} {root : Int → Prop} {k : Int} {d la s q : Int → Int} {t : Int} (hJ : 0 ≤ J) (hB : 0 ≤ B) (hK : B * J + B < K) (hA : ArcOk J N B T Q P) (hπ : PotOk N T Q P R π) (H : BfI J N B K T Q P R π root k N d la s q t) (hq : ∀ x : Int, 0 ≤ x → x < J → d x < K → q x < k) : ∃ ra : Int → Int, BfF J N B K T Q P R π root d la ra := by
  have fix : ∀ e : Int, 0 ≤ e → e < N → 0 < R e → d (T e) < K → d (Q e) < K ∧ d (Q e) ≤ d (T e) + P e := fun e e0 e1 e2 e3 => by
    obtain ⟨a1, a2, a3, a4, a5, a6⟩ := hA e e0 e1
    have h := H.2.2 e e0 e1 e2 e3 (by rw [if_pos e1]; have := hq (T e) a1 a2 e3; omega)
    have h2 := ((H.1 (T e) a1 a2).2.1 e3).2
    have h3 := Int.mul_le_mul_of_nonneg_left (cn_le hJ (fun y => d y < K)) hB
    exact ⟨by omega, h⟩
  refine ⟨rnk J K π d s, fun x x0 x1 => ?_, fun x x0 x1 hx => ?_, fix⟩
  · obtain ⟨f1, f2, f3, f4, f5, f6⟩ := H.1 x x0 x1
    obtain ⟨r1, r2⟩ := rnk_b (K := K) (π := π) (d := d) (s := s) x0 x1
    refine ⟨f1, fun hx => ?_, f6, r1, r2⟩
    have h3 := Int.mul_le_mul_of_nonneg_left (cn_le hJ (fun y => d y < K)) hB
    have := f2 hx
    omega
  · rcases H.2.1 x x0 x1 hx with g | ⟨g1, g2, g3, g4, g5, g6, g7, g8⟩
    · exact Or.inl ⟨g.1, g.2.1, g.2.2.1⟩
    · right
      have h1 := bf_rnk hA hπ H x0 x1 hx (by omega)
      have h2 := (fix (la x) g1 g2 g4 g5).2
      rw [g3] at h2
      exact ⟨g1, g2, g3, g4, g5, by omega, h1⟩
theorem bf_start {J N B K : Int} {T Q P R π : Int → Int} {root : Int → Prop} {d la : Int → Int} (hB : 0 ≤ B) (hK : 0 < K) (hr : ∀ x : Int, 0 ≤ x → x < J → (root x → d x = 0 ∧ π x ≤ 0) ∧ (¬ root x → d x = K) ∧ (root x → la x = -1)) : BfI J N B K T Q P R π root 1 0 d la (fun _ => 0) (fun _ => 0) 1 := by
  refine ⟨fun x x0 x1 => ?_, fun x x0 x1 hx => ?_, fun e e0 e1 e2 e3 e4 => ?_⟩
  · obtain ⟨g1, g2, g3⟩ := hr x x0 x1
    by_cases c : root x
    · have := g1 c
      refine ⟨by omega, fun _ => ⟨by omega, ?_⟩, Int.zero_lt_one, Int.le_refl _, Int.zero_le_ofNat 1, fun _ => by omega⟩
      have := Int.mul_nonneg hB (cn_nonneg J (fun y => d y < K))
      omega
    · have := g2 c
      exact ⟨by omega, fun _ => by omega, Int.zero_lt_one, Int.le_refl _, Int.zero_le_ofNat 1, fun q => absurd q c⟩
  · obtain ⟨g1, g2, g3⟩ := hr x x0 x1
    by_cases c : root x
    · exact Or.inl ⟨g3 c, c, (g1 c).1, rfl⟩
    · have := g2 c; omega
  · have e4 : (0 : Int) ≤ (if e < 0 then 1 - 1 else 1 - 2) := e4
    rw [if_neg (by omega)] at e4
    omega
