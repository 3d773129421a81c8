/-! the state, what can be taken back, and the invariant's ground -/
abbrev Co : Type := (Int × Int × Int) × (Int → Int → Int) × (Int → Int)
abbrev Rc : Type := Int × Int × Int × Int
def coX (M : Mem) : Co := ((M 1 0, M 1 1, M 2 0), (fun g p => M (80 + g) p), M 18)
def WFc (U V L : Int → Int) (c : Co) : Prop :=
  (0 ≤ c.1.1 ∧ c.1.1 ≤ 10) ∧ (0 ≤ c.1.2.1 ∧ c.1.2.1 ≤ 30) ∧ (0 ≤ c.1.2.2 ∧ c.1.2.2 ≤ 8) ∧ Rds c.1.1 c.1.2.1 U V L ∧ (∀ g p : Int, 0 ≤ g → g < 8 → 0 ≤ p → p < 10 → 0 ≤ c.2.1 g p ∧ c.2.1 g p ≤ 1000 ∧ ((c.1.2.2 ≤ g ∨ c.1.1 ≤ p) → c.2.1 g p = 0)) ∧ (∀ p : Int, 0 ≤ p → p < 10 → -1 ≤ c.2.2 p ∧ c.2.2 p ≤ 100000 ∧ (c.1.1 ≤ p → c.2.2 p = -1))
def und (ρ : Rc) (c : Co) : Co :=
  if ρ.1 = 0 then ((c.1.1 - 1, c.1.2.1, c.1.2.2), c.2.1, c.2.2) else if ρ.1 = 1 then ((c.1.1, c.1.2.1 - 1, c.1.2.2), c.2.1, c.2.2) else if ρ.1 = 2 then ((c.1.1, c.1.2.1, c.1.2.2 - 1), c.2.1, c.2.2) else if ρ.1 = 3 then (c.1, (fun g p => if g = ρ.2.1 ∧ p = ρ.2.2.1 then ρ.2.2.2 else c.2.1 g p), c.2.2) else (c.1, c.2.1, fun p => if p = ρ.2.1 then ρ.2.2.2 else c.2.2 p)
def vld (ρ : Rc) (c : Co) : Prop :=
  (0 ≤ ρ.1 ∧ ρ.1 ≤ 4) ∧ (ρ.1 = 0 → 1 ≤ c.1.1 ∧ ρ.2.1 = c.1.1 - 1) ∧ (ρ.1 = 1 → 1 ≤ c.1.2.1) ∧ (ρ.1 = 2 → 1 ≤ c.1.2.2) ∧ (ρ.1 = 3 → (0 ≤ ρ.2.1 ∧ ρ.2.1 < 8) ∧ 0 ≤ ρ.2.2.1 ∧ ρ.2.2.1 < 10) ∧ (ρ.1 = 4 → 0 ≤ ρ.2.1 ∧ ρ.2.1 < 10)
def chn (U V L : Int → Int) (ρ : Int → Rc) : Nat → Co → Prop
  | 0, c => WFc U V L c
  | k + 1, c => WFc U V L c ∧ vld (ρ k) c ∧ chn U V L ρ k (und (ρ k) c)
theorem chn_wf {U V L : Int → Int} {ρ : Int → Rc} {k : Nat} {c : Co} (h : chn U V L ρ k c) : WFc U V L c := by
  cases k with
  | zero => exact h
  | succ k => exact h.1
theorem und_r {ρ : Rc} {c : Co} : (und ρ c).1.2.1 ≤ c.1.2.1 := by
  unfold und
  split
  · exact Int.le_refl _
  · split
    · show c.1.2.1 - 1 ≤ c.1.2.1; omega
    · split
      · exact Int.le_refl _
      · split <;> exact Int.le_refl _
theorem WFc_ext {U V L U' V' L' : Int → Int} {c : Co} (h : ∀ j : Int, 0 ≤ j → j < c.1.2.1 → U' j = U j ∧ V' j = V j ∧ L' j = L j) (H : WFc U V L c) : WFc U' V' L' c := by
  obtain ⟨a, b, d, e, f, g⟩ := H
  refine ⟨a, b, d, fun j h0 h1 => ?_, f, g⟩
  obtain ⟨p, q, r⟩ := h j h0 h1
  rw [p, q, r]
  exact e j h0 h1
theorem chn_ext {U V L U' V' L' : Int → Int} {ρ σ : Int → Rc} {k : Nat} : ∀ {c : Co}, (∀ j : Int, 0 ≤ j → j < c.1.2.1 → U' j = U j ∧ V' j = V j ∧ L' j = L j) → (∀ i : Int, 0 ≤ i → i < k → σ i = ρ i) → chn U V L ρ k c → chn U' V' L' σ k c := by
  induction k with
  | zero => intro c h _ H; exact WFc_ext h H
  | succ k ih =>
    intro c h h2 H
    obtain ⟨a, b, d⟩ := H
    have e : σ k = ρ k := h2 k (by omega) (by omega)
    refine ⟨WFc_ext h a, by rw [e]; exact b, ?_⟩
    rw [e]
    refine ih (fun j h0 h1 => h j h0 ?_) (fun i h0 h1 => h2 i h0 (by omega)) d
    have := und_r (ρ := ρ k) (c := c)
    omega
theorem chn_drop {U V L : Int → Int} {ρ : Int → Rc} {k : Nat} : ∀ {c : Co}, chn U V L ρ (k + 1) c → chn U V L (fun i => ρ (i + 1)) k c := by
  induction k with
  | zero => intro c H; exact H.1
  | succ k ih =>
    intro c H
    obtain ⟨a, b, d⟩ := H
    have e : (fun i : Int => ρ (i + 1)) (k : Nat) = ρ ((k + 1 : Nat) : Int) := by
      show ρ ((k : Int) + 1) = _
      congr 1
    refine ⟨a, ?_, ?_⟩
    · rw [e]; exact b
    · rw [e]; exact ih d
def rcX (M : Mem) (i : Int) : Rc := (M 19 ((M 3 1 + i) % 30), M 20 ((M 3 1 + i) % 30), M 21 ((M 3 1 + i) % 30), M 22 ((M 3 1 + i) % 30))
/-- the class's changes: one more -/
theorem X0_keep {a1 a2 a3 a4 : Int} {M : Mem} {post : Mem → Prop} (h0 : 0 ≤ M 3 0 ∧ M 3 0 ≤ 30) (h1 : 0 ≤ M 3 1 ∧ M 3 1 < 30)
    (h : ∀ (M' : Mem) (c d : Int), (M 3 0 < 30 → c = M 3 0 ∧ d = 0) → (M 3 0 = 30 → c = 29 ∧ d = 1) → (∀ k i : Int, k ≠ 3 → k < 19 ∨ 22 < k → M' k i = M k i) → M' 3 0 = c + 1 → (0 ≤ M' 3 1 ∧ M' 3 1 < 30) → (∀ i : Int, 0 ≤ i → i < c → rcX M' i = rcX M (i + d)) → rcX M' c = (a1, a2, a3, a4) → post M') : wpX0_keep a1 a2 a3 a4 M post := by
  unfold wpX0_keep jbX0_keep_82
  refine ⟨by omega, by omega, by omega, fun s hs => ⟨by omega, fun M1 e1 => ⟨by omega, fun M2 e2 => ⟨by omega, fun M3 e3 => ⟨by omega, fun M4 e4 => ?_⟩⟩⟩⟩⟩
  have r3 : ∀ i : Int, M4 3 i = M 3 i := fun i => by rw [e4, mset_r (by omega), e3, mset_r (by omega), e2, mset_r (by omega), e1, mset_r (by omega)]
  have off : ∀ k i : Int, k ≠ 3 → k < 19 ∨ 22 < k → M4 k i = M k i := fun k i q q2 => by rw [e4, mset_r (by omega), e3, mset_r (by omega), e2, mset_r (by omega), e1, mset_r (by omega)]
  have at_s : M4 19 s = a1 ∧ M4 20 s = a2 ∧ M4 21 s = a3 ∧ M4 22 s = a4 := by
    refine ⟨?_, ?_, ?_, ?_⟩
    · rw [e4, mset_r (by omega), e3, mset_r (by omega), e2, mset_r (by omega), e1, mset_s]
    · rw [e4, mset_r (by omega), e3, mset_r (by omega), e2, mset_s]
    · rw [e4, mset_r (by omega), e3, mset_s]
    · rw [e4, mset_s]
  have at_n : ∀ j : Int, j ≠ s → M4 19 j = M 19 j ∧ M4 20 j = M 20 j ∧ M4 21 j = M 21 j ∧ M4 22 j = M 22 j := fun j hj => by
    refine ⟨?_, ?_, ?_, ?_⟩ <;> rw [e4, mset_i hj, e3, mset_i hj, e2, mset_i hj, e1, mset_i hj]
  refine ⟨fun q => ?_, fun q => ?_⟩
  · rw [r3] at q
    rw [r3]
    refine ⟨by omega, by omega, by omega, fun M5 e5 => ?_⟩
    have o5 : M5 3 1 = (M 3 1 + 1) % 30 := by rw [e5, mset_s]
    have q5 : ∀ k i : Int, k ≠ 3 → M5 k i = M4 k i := fun k i hk => by rw [e5, mset_r hk]
    refine h M5 29 1 (fun q2 => by omega) (fun _ => ⟨rfl, rfl⟩) (fun k i p p2 => by rw [q5 k i p, off k i p p2]) (by rw [e5, mset_i (by omega), r3]; omega) (by omega) (fun i p p2 => ?_) ?_
    · unfold rcX
      rw [o5, q5 19 _ (by omega), q5 20 _ (by omega), q5 21 _ (by omega), q5 22 _ (by omega), show ((M 3 1 + 1) % 30 + i) % 30 = (M 3 1 + (i + 1)) % 30 by omega]
      obtain ⟨x1, x2, x3, x4⟩ := at_n ((M 3 1 + (i + 1)) % 30) (by omega)
      rw [x1, x2, x3, x4]
    · unfold rcX
      rw [o5, q5 19 _ (by omega), q5 20 _ (by omega), q5 21 _ (by omega), q5 22 _ (by omega), show ((M 3 1 + 1) % 30 + 29) % 30 = s by omega]
      obtain ⟨x1, x2, x3, x4⟩ := at_s
      rw [x1, x2, x3, x4]
  · rw [r3] at q
    rw [r3]
    refine ⟨by omega, fun M5 e5 => ?_⟩
    have o5 : M5 3 1 = M 3 1 := by rw [e5, mset_i (by omega), r3]
    have q5 : ∀ k i : Int, k ≠ 3 → M5 k i = M4 k i := fun k i hk => by rw [e5, mset_r hk]
    refine h M5 (M 3 0) 0 (fun _ => ⟨rfl, rfl⟩) (fun q2 => by omega) (fun k i p p2 => by rw [q5 k i p, off k i p p2]) (by rw [e5, mset_s]) (by omega) (fun i p p2 => ?_) ?_
    · unfold rcX
      rw [o5, q5 19 _ (by omega), q5 20 _ (by omega), q5 21 _ (by omega), q5 22 _ (by omega), show i + 0 = i by omega]
      obtain ⟨x1, x2, x3, x4⟩ := at_n ((M 3 1 + i) % 30) (by omega)
      rw [x1, x2, x3, x4]
    · unfold rcX
      rw [o5, q5 19 _ (by omega), q5 20 _ (by omega), q5 21 _ (by omega), q5 22 _ (by omega), show (M 3 1 + M 3 0) % 30 = s by omega]
      obtain ⟨x1, x2, x3, x4⟩ := at_s
      rw [x1, x2, x3, x4]
/-- the reference's -/
theorem X9_keep {a1 a2 a3 : Int} {M : Mem} {post : Mem → Prop} (h0 : 0 ≤ M 0 10 ∧ M 0 10 ≤ 30)
    (h : ∀ (M' : Mem) (c d : Int), (M 0 10 < 30 → c = M 0 10 ∧ d = 0) → (M 0 10 = 30 → c = 29 ∧ d = 1) → (∀ k i : Int, k < 7 ∨ 9 < k → (k = 0 → i ≠ 10) → M' k i = M k i) → M' 0 10 = c + 1 → (∀ i : Int, 0 ≤ i → i < c → M' 7 i = M 7 (i + d) ∧ M' 8 i = M 8 (i + d) ∧ M' 9 i = M 9 (i + d)) → M' 7 c = a1 → M' 8 c = a2 → M' 9 c = a3 → post M') : wpX9_keep a1 a2 a3 M post := by
  have fin : ∀ (N : Mem) (c d : Int), 0 ≤ c → c < 30 → N 0 10 = c → (M 0 10 < 30 → c = M 0 10 ∧ d = 0) → (M 0 10 = 30 → c = 29 ∧ d = 1) → (∀ k i : Int, k < 7 ∨ 9 < k → (k = 0 → i ≠ 10) → N k i = M k i) → (∀ i : Int, 0 ≤ i → i < c → N 7 i = M 7 (i + d) ∧ N 8 i = M 8 (i + d) ∧ N 9 i = M 9 (i + d)) → jbX9_keep_79 post a1 a2 a3 N := by
    intro N c d hc0 hc1 hN g1 g2 g3 g4
    unfold jbX9_keep_79
    refine ⟨by omega, fun N1 e1 => ?_⟩
    have n1 : N1 0 10 = c := by rw [e1, mset_r (by omega), hN]
    rw [n1]
    refine ⟨by omega, fun N2 e2 => ?_⟩
    have n2 : N2 0 10 = c := by rw [e2, mset_r (by omega), n1]
    rw [n2]
    refine ⟨by omega, fun N3 e3 => ?_⟩
    have n3 : N3 0 10 = c := by rw [e3, mset_r (by omega), n2]
    rw [n3]
    refine ⟨by omega, fun N4 e4 => ?_⟩
    rw [hN] at e1
    have f4 : ∀ k i : Int, (k = 0 → i ≠ 10) → N4 k i = N3 k i := fun k i p => by
      rw [e4]
      by_cases e : k = 0
      · exact mset_i (p e)
      · exact mset_r e
    refine h N4 c d g1 g2 (fun k i p p2 => ?_) (by rw [e4, mset_s]) (fun i p p2 => ?_) ?_ ?_ ?_
    · rw [f4 k i p2, e3, mset_r (by omega), e2, mset_r (by omega), e1, mset_r (by omega)]; exact g3 k i p p2
    · obtain ⟨y1, y2, y3⟩ := g4 i p p2
      refine ⟨?_, ?_, ?_⟩ <;> rw [f4 _ _ (by omega), e3, mset_i (by omega), e2, mset_i (by omega), e1, mset_i (by omega)] <;> assumption
    · rw [f4 _ _ (by omega), e3, mset_r (by omega), e2, mset_r (by omega), e1, mset_s]
    · rw [f4 _ _ (by omega), e3, mset_r (by omega), e2, mset_s]
    · rw [f4 _ _ (by omega), e3, mset_s]
  unfold wpX9_keep
  refine ⟨fun q => fin M (M 0 10) 0 (by omega) (by omega) rfl (fun _ => ⟨rfl, rfl⟩) (fun q2 => absurd q2 q) (fun _ _ _ _ => rfl) (fun i _ _ => by rw [show i + 0 = i by omega]; exact ⟨rfl, rfl, rfl⟩), fun q => ?_⟩
  have key : ∀ (k : Nat) (x : Int) (N : Mem), 1 ≤ x → x ≤ 30 → 30 - x < k → (∀ k i : Int, k < 7 ∨ 9 < k → N k i = M k i) → (∀ i : Int, 0 ≤ i → i < 30 → N 7 i = M 7 (if i < x - 1 then i + 1 else i) ∧ N 8 i = M 8 (if i < x - 1 then i + 1 else i) ∧ N 9 i = M 9 (if i < x - 1 then i + 1 else i)) → lpX9_keep_12 post k a1 a2 a3 x N := by
    intro k
    induction k with
    | zero => intro x N _ _ q; omega
    | succ k ih =>
      intro x N hx hx1 hk hO hE
      unfold lpX9_keep_12
      refine ⟨fun q2 N1 e1 => ?_, fun q2 => ⟨by omega, by omega, fun N1 e1 => ⟨by omega, by omega, fun N2 e2 => ⟨by omega, by omega, fun N3 e3 => ⟨by omega, ?_⟩⟩⟩⟩⟩
      · refine fin N1 29 1 (by omega) (by omega) (by rw [e1, mset_s]) (fun _ => by omega) (fun _ => ⟨rfl, rfl⟩) (fun k i p p2 => ?_) (fun i p p2 => ?_)
        · rw [e1]
          by_cases e : k = 0
          · rw [mset_i (p2 e)]; exact hO k i p
          · rw [mset_r e]; exact hO k i p
        · obtain ⟨y1, y2, y3⟩ := hE i p (by omega)
          rw [if_pos (by omega)] at y1 y2 y3
          rw [e1, mset_r (by omega), mset_r (by omega), mset_r (by omega)]
          exact ⟨y1, y2, y3⟩
      · refine ih (x + 1) N3 (by omega) (by omega) (by omega) (fun k i p => ?_) (fun i p p2 => ?_)
        · rw [e3, mset_r (by omega), e2, mset_r (by omega), e1, mset_r (by omega)]; exact hO k i p
        · obtain ⟨y1, y2, y3⟩ := hE i p p2
          obtain ⟨z1, z2, z3⟩ := hE x (by omega) (by omega)
          rw [if_neg (by omega)] at z1 z2 z3
          by_cases e : i = x - 1
          · rw [if_pos (by omega)]
            subst e
            rw [show x - 1 + 1 = x by omega]
            refine ⟨?_, ?_, ?_⟩
            · rw [e3, mset_r (by omega), e2, mset_r (by omega), e1, mset_s, z1]
            · rw [e3, mset_r (by omega), e2, mset_s, e1, mset_r (by omega), z2]
            · rw [e3, mset_s, e2, mset_r (by omega), e1, mset_r (by omega), z3]
          · have e2' : (if i < x + 1 - 1 then i + 1 else i) = (if i < x - 1 then i + 1 else i) := by
              by_cases q : i < x - 1
              · rw [if_pos q, if_pos (by omega)]
              · rw [if_neg q, if_neg (by omega)]
            rw [e2', e3, mset_i e, e2, mset_i e, e1, mset_i e, mset_i e, mset_i e, mset_i e, mset_i e, mset_i e, mset_i e]
            exact ⟨y1, y2, y3⟩
  refine ⟨31, key 31 1 M (by omega) (by omega) (by omega) (fun _ _ _ => rfl) (fun i _ _ => ?_)⟩
  rw [if_neg (by omega)]
  exact ⟨rfl, rfl, rfl⟩
