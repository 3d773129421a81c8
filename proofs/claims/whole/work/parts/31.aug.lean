/-! goods along the way that a search found -/
theorem pr1_e {j : Int} : pr1 (2 * j) = 2 * j + 1 := by unfold pr1; rw [if_pos (by omega)]
theorem pr1_o {j : Int} : pr1 (2 * j + 1) = 2 * j := by unfold pr1; rw [if_neg (by omega)]; omega
theorem pr1_pr1 (e : Int) : pr1 (pr1 e) = e := by unfold pr1; split <;> split <;> omega
theorem pr1_ne (e : Int) : pr1 e ≠ e := by unfold pr1; split <;> omega
theorem pr1_in {e N : Int} (h0 : 0 ≤ e) (h1 : e < N) (hN : N % 2 = 0) : 0 ≤ pr1 e ∧ pr1 e < N := by unfold pr1; split <;> omega
def PrsOk (N : Int) (T Q P : Int → Int) : Prop := N % 2 = 0 ∧ ∀ e : Int, 0 ≤ e → e < N → T (pr1 e) = Q e ∧ Q (pr1 e) = T e ∧ P (pr1 e) = - P e
def mv (R : Int → Int) (e m : Int) : Int → Int := fun a => if a = pr1 e then R a + m else if a = e then R a - m else R a
theorem mv_e (R : Int → Int) (e m : Int) : mv R e m e = R e - m := by
  unfold mv; rw [if_neg (fun q => pr1_ne e q.symm), if_pos rfl]
theorem mv_p (R : Int → Int) (e m : Int) : mv R e m (pr1 e) = R (pr1 e) + m := if_pos rfl
theorem mv_n {R : Int → Int} {e m a : Int} (h1 : a ≠ e) (h2 : a ≠ pr1 e) : mv R e m a = R a := by
  unfold mv; rw [if_neg h2, if_neg h1]
/-- the sum over an arc's own flow -/
def fs (N : Int) (R φ : Int → Int) : Int := su (N / 2) (fun j => R (2 * j + 1) * φ (2 * j))
theorem fs_mv {N : Int} {R φ : Int → Int} {e m : Int} (hN : N % 2 = 0) (e0 : 0 ≤ e) (e1 : e < N) (hφ : φ (pr1 e) = - φ e) : fs N (mv R e m) φ = fs N R φ + m * φ e := by
  unfold fs
  by_cases c : e % 2 = 0
  · have he : e = 2 * (e / 2) := by omega
    have hp : pr1 e = 2 * (e / 2) + 1 := by rw [← pr1_e, ← he]
    rw [su_upd (j := e / 2) (f := fun j => R (2 * j + 1) * φ (2 * j)) (by omega) (by omega) (fun k k0 k1 k2 => by
      show mv R e m (2 * k + 1) * φ (2 * k) = R (2 * k + 1) * φ (2 * k)
      rw [mv_n (by omega) (by omega)])]
    show su (N / 2) _ - R (2 * (e / 2) + 1) * φ (2 * (e / 2)) + mv R e m (2 * (e / 2) + 1) * φ (2 * (e / 2)) = _
    rw [← hp, mv_p, ← he, Int.add_mul]
    omega
  · have he : e = 2 * (e / 2) + 1 := by omega
    have hp : pr1 e = 2 * (e / 2) := by rw [he, pr1_o]; omega
    rw [su_upd (j := e / 2) (f := fun j => R (2 * j + 1) * φ (2 * j)) (by omega) (by omega) (fun k k0 k1 k2 => by
      show mv R e m (2 * k + 1) * φ (2 * k) = R (2 * k + 1) * φ (2 * k)
      rw [mv_n (by omega) (by omega)])]
    show su (N / 2) _ - R (2 * (e / 2) + 1) * φ (2 * (e / 2)) + mv R e m (2 * (e / 2) + 1) * φ (2 * (e / 2)) = _
    rw [← he, mv_e, ← hp, hφ, Int.sub_mul, Int.mul_neg, Int.mul_neg]
    omega
def nπ (K : Int) (π d : Int → Int) (c : Int) : Int → Int := fun x => if d x < K then min (d x) (π x + c) else π x + c
/-- m is taken along the way from node t back to node x -/
def AugI (J N K : Int) (T Q P Ro π d la ra : Int → Int) (t c m x : Int) (R : Int → Int) : Prop :=
  (0 ≤ x ∧ x < J ∧ d x < K ∧ d x - π x ≤ c)
  ∧ (∀ e : Int, 0 ≤ e → e < N → 0 ≤ R e ∧ R e + R (pr1 e) = Ro e + Ro (pr1 e) ∧ (0 < R e → nπ K π d c (Q e) ≤ nπ K π d c (T e) + P e))
  ∧ (∀ y : Int, 0 ≤ y → y < J → d y < K → la y ≠ -1 → ra y ≤ ra x → Ro (la y) ≤ R (la y))
  ∧ (∀ w : Int → Int, fs N R (fun e => w (T e) - w (Q e)) = fs N Ro (fun e => w (T e) - w (Q e)) + m * (w x - w t))
  ∧ fs N R P = fs N Ro P + m * (d t - d x)
  ∧ (∀ e : Int, 0 ≤ e → e < N → R e ≤ Ro e + m) ∧ ∀ y : Int, 0 ≤ y → y < J → d y < K → la y ≠ -1 → ra y ≤ ra x → R (pr1 (la y)) ≤ Ro (pr1 (la y))
theorem aug_start {J N B K : Int} {T Q P Ro π d la ra : Int → Int} {root : Int → Prop} {t c m : Int} (hπ : PotOk N T Q P Ro π) (hR : ∀ e : Int, 0 ≤ e → e < N → 0 ≤ Ro e) (F : BfF J N B K T Q P Ro π root d la ra) (t0 : 0 ≤ t) (t1 : t < J) (ht : d t < K) (hc : d t - π t ≤ c) (hm : 0 ≤ m) : AugI J N K T Q P Ro π d la ra t c m t Ro := by
  refine ⟨⟨t0, t1, ht, hc⟩, fun e e0 e1 => ⟨hR e e0 e1, rfl, fun hr => ?_⟩, fun _ _ _ _ _ _ => Int.le_refl _, fun w => ?_, ?_, fun e _ _ => by omega, fun _ _ _ _ _ _ => Int.le_refl _⟩
  · have hp := hπ e e0 e1 hr
    unfold nπ
    by_cases cc : d (T e) < K
    · obtain ⟨f1, f2⟩ := F.2.2 e e0 e1 hr cc
      rw [if_pos cc, if_pos f1]
      omega
    · rw [if_neg cc]
      split <;> omega
  · rw [Int.sub_self, Int.mul_zero, Int.add_zero]
  · rw [Int.sub_self, Int.mul_zero, Int.add_zero]
theorem aug_step {J N B K : Int} {T Q P Ro π d la ra R : Int → Int} {root : Int → Prop} {t c m x : Int} (hA : ArcOk J N B T Q P) (hP : PrsOk N T Q P) (hπ : PotOk N T Q P Ro π) (F : BfF J N B K T Q P Ro π root d la ra) (hm : 0 ≤ m) (H : AugI J N K T Q P Ro π d la ra t c m x R) (hl : la x ≠ -1) (hc : m ≤ Ro (la x)) : AugI J N K T Q P Ro π d la ra t c m (T (la x)) (mv R (la x) m) ∧ 0 ≤ la x ∧ la x < N ∧ m ≤ R (la x) ∧ ra (T (la x)) < ra x := by
  obtain ⟨⟨h1, h2, h3, h4⟩, h5, h6, h7, h8, h9, h10⟩ := H
  rcases F.2.1 x h1 h2 h3 with g | ⟨g1, g2, g3, g4, g5, g6, g7⟩
  · exact absurd g.1 hl
  · obtain ⟨a1, a2, a3, a4, a5, a6⟩ := hA (la x) g1 g2
    obtain ⟨p1, p2, p3⟩ := hP.2 (la x) g1 g2
    have hpi := hπ (la x) g1 g2 g4
    rw [g3] at hpi
    have hml : m ≤ R (la x) := by
      have := h6 x h1 h2 h3 hl (Int.le_refl _)
      omega
    obtain ⟨q0, q1⟩ := pr1_in g1 g2 hP.1
    have d4 : d (T (la x)) - π (T (la x)) ≤ c := by omega
    refine ⟨⟨⟨a1, a2, g5, d4⟩, fun e e0 e1 => ?_, fun y y0 y1 yk yl yr => ?_, fun w => ?_, ?_, fun e e0 e1 => ?_, fun y y0 y1 yk yl yr => ?_⟩, g1, g2, hml, g7⟩
    · obtain ⟨r1, r2, r3⟩ := h5 e e0 e1
      by_cases cc : e = la x
      · subst cc
        rw [mv_e, mv_p]
        exact ⟨by omega, by omega, fun hr => r3 (by omega)⟩
      · by_cases c2 : e = pr1 (la x)
        · subst c2
          rw [pr1_pr1] at r2 ⊢
          rw [mv_e, mv_p]
          refine ⟨by omega, by omega, fun hr => ?_⟩
          rw [p1, p2, p3, g3]
          unfold nπ
          rw [if_pos h3, if_pos g5]
          omega
        · have c3 : pr1 e ≠ la x := fun q => c2 (by rw [← q, pr1_pr1])
          have c4 : pr1 e ≠ pr1 (la x) := fun q => cc (by rw [← pr1_pr1 e, q, pr1_pr1])
          rw [mv_n cc c2, mv_n c3 c4]
          exact ⟨r1, r2, r3⟩
    · have hyx : y ≠ x := fun q => by subst q; omega
      have hly : la y ≠ la x := fun q => by
        rcases F.2.1 y y0 y1 yk with k | ⟨k1, k2, k3, _⟩
        · exact absurd k.1 yl
        · rw [q, g3] at k3; exact hyx k3.symm
      have := h6 y y0 y1 yk yl (by omega)
      by_cases c2 : la y = pr1 (la x)
      · rw [c2, mv_p]; rw [c2] at this; omega
      · rw [mv_n hly c2]; exact this
    · rw [fs_mv hP.1 g1 g2 (by show w (T (pr1 (la x))) - w (Q (pr1 (la x))) = - (w (T (la x)) - w (Q (la x))); rw [p1, p2]; omega), h7 w, g3]
      have e1 : m * (w (T (la x)) - w t) = m * (w x - w t) + m * (w (T (la x)) - w x) := by rw [← Int.mul_add]; congr 1; omega
      rw [e1]
      omega
    · rw [fs_mv hP.1 g1 g2 p3, h8]
      have e1 : m * (d t - d (T (la x))) = m * (d t - d x) + m * P (la x) := by rw [← Int.mul_add]; congr 1; omega
      rw [e1]
      omega
    · have r1 := h9 e e0 e1
      by_cases cc : e = la x
      · subst cc; rw [mv_e]; omega
      · by_cases c2 : e = pr1 (la x)
        · subst c2
          rw [mv_p]
          have := h10 x h1 h2 h3 hl (Int.le_refl _)
          omega
        · rw [mv_n cc c2]; exact r1
    · have hyx : y ≠ x := fun q => by subst q; omega
      have hly : la y ≠ la x := fun q => by
        rcases F.2.1 y y0 y1 yk with k | ⟨k1, k2, k3, _⟩
        · exact absurd k.1 yl
        · rw [q, g3] at k3; exact hyx k3.symm
      have t1 := h10 y y0 y1 yk yl (by omega)
      by_cases c2 : pr1 (la y) = la x
      · rw [c2, mv_e]
        have := h9 (la x) g1 g2
        omega
      · rw [mv_n c2 (fun q => hly (by rw [← pr1_pr1 (la y), q, pr1_pr1]))]; exact t1
/-- the way itself: its i-th node from t -/
def pth (T la : Int → Int) (t : Int) : Nat → Int
  | 0 => t
  | i + 1 => T (la (pth T la t i))
/-- each node of the way is reached, and lower than the ones behind it -/
theorem pth_in {J N B K : Int} {T Q P Ro π d la ra : Int → Int} {root : Int → Prop} {t : Int} (hA : ArcOk J N B T Q P) (F : BfF J N B K T Q P Ro π root d la ra) (t0 : 0 ≤ t) (t1 : t < J) (ht : d t < K) : ∀ i : Nat, (∀ k : Nat, k < i → la (pth T la t k) ≠ -1) → 0 ≤ pth T la t i ∧ pth T la t i < J ∧ d (pth T la t i) < K ∧ ra (pth T la t i) + i ≤ ra t := by
  intro i
  induction i with
  | zero => intro _; exact ⟨t0, t1, ht, by show ra t + ((0 : Nat) : Int) ≤ ra t; omega⟩
  | succ i ih =>
    intro h
    obtain ⟨g1, g2, g3, g4⟩ := ih (fun k hk => h k (by omega))
    have hl := h i (by omega)
    rcases F.2.1 _ g1 g2 g3 with k | ⟨k1, k2, k3, k4, k5, k6, k7⟩
    · exact absurd k.1 hl
    · obtain ⟨a1, a2, _⟩ := hA _ k1 k2
      refine ⟨a1, a2, k5, ?_⟩
      show ra (T (la (pth T la t i))) + ((i + 1 : Nat) : Int) ≤ ra t
      omega
