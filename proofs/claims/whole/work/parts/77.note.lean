/-! the calls that change -/
theorem forget_X {X : Mem} {post : Mem → Prop} (h : ∀ X' : Mem, X' 0 7 = -1 → X' 0 9 = -1 → (∀ k i : Int, (k = 0 → i ≠ 7 ∧ i ≠ 9) → X' k i = X k i) → post X') : wpX8_forgetResults X post := fun X1 e1 X2 e2 => by
  refine h X2 (by rw [e2, mset_i (by omega), e1, mset_s]) (by rw [e2, mset_s]) (fun k i q => ?_)
  by_cases c : k = 0
  · rw [e2, mset_i (q c).2, e1, mset_i (q c).1]
  · rw [e2, mset_r c, e1, mset_r c]
def HsX (X X2 : Mem) (ρ : Rc) (c d : Int) : Prop := (X 3 0 < 30 → c = X 3 0 ∧ d = 0) ∧ (X 3 0 = 30 → c = 29 ∧ d = 1) ∧ X2 3 0 = c + 1 ∧ (∀ i : Int, 0 ≤ i → i < c → rcX X2 i = rcX X (i + d)) ∧ rcX X2 c = ρ
theorem note_X {X X1 : Mem} {a1 a2 a3 a4 : Int} {post : Mem → Prop} (B : BsX X) (h3 : ∀ k i : Int, (k = 3 ∨ (19 ≤ k ∧ k ≤ 22)) → X1 k i = X k i) (hU : ∀ j : Int, 0 ≤ j → j < X 1 1 → X1 15 j = X 15 j ∧ X1 16 j = X 16 j ∧ X1 17 j = X 17 j) (hW : WFc (X1 15) (X1 16) (X1 17) (coX X1)) (hv : vld (a1, a2, a3, a4) (coX X1)) (hc : ceq (coX X) (und (a1, a2, a3, a4) (coX X1))) (hd : ∀ u v : Int, 0 ≤ u → u < 10 → 0 ≤ v → v < 10 → (0 ≤ X1 (60 + u) v ∧ X1 (60 + u) v ≤ 10000) ∧ ((X1 1 0 ≤ u ∨ X1 1 0 ≤ v) → X1 (60 + u) v = 0)) (h40 : ∀ u v : Int, 0 ≤ u → u < X1 1 0 → 0 ≤ v → v < X1 1 0 → X1 (40 + u) v = dr 1000000 (X1 1 1) (X1 15) (X1 16) (X1 17) u v) (h50 : Ds (X1 1 0) (dr 1000000 (X1 1 1) (X1 15) (X1 16) (X1 17)) 1000000 (fun u v => X1 (50 + u) v))
    (h : ∀ (X2 : Mem) (c d : Int), BsX X2 → PcX X2 → RhX X2 → (∀ k i : Int, 1 ≤ k → k ≠ 3 → (k < 19 ∨ 22 < k) → X2 k i = X1 k i) → X2 0 11 = X1 0 11 → HsX X X2 (a1, a2, a3, a4) c d → post X2) : wpX8_noteChange a1 a2 a3 a4 X1 post := by
  have hk := B.2.1
  have ho := B.2.2.1
  have e30 := h3 3 0 (by omega)
  have e31 := h3 3 1 (by omega)
  have erc : rcX X1 = rcX X := by
    funext i
    unfold rcX
    rw [e31, h3 19 _ (by omega), h3 20 _ (by omega), h3 21 _ (by omega), h3 22 _ (by omega)]
  unfold wpX8_noteChange
  refine X0_keep (by omega) (by omega) (fun Y c d c1 c2 hO y3 y31 y4 y5 => forget_X (fun X2 f7 f9 fo => ?_))
  rw [e30] at c1 c2
  have r : ∀ k i : Int, 1 ≤ k → k ≠ 3 → (k < 19 ∨ 22 < k) → X2 k i = X1 k i := fun k i p q s => by rw [fo k i (by omega)]; exact hO k i q s
  have row : ∀ k : Int, 1 ≤ k → k ≠ 3 → (k < 19 ∨ 22 < k) → X2 k = X1 k := fun k p q s => funext (fun i => r k i p q s)
  have rc2 : rcX X2 = rcX Y := by
    funext i
    unfold rcX
    rw [fo 3 1 (by omega), fo 19 _ (by omega), fo 20 _ (by omega), fo 21 _ (by omega), fo 22 _ (by omega)]
  have x30 : X2 3 0 = c + 1 := by rw [fo 3 0 (by omega)]; exact y3
  have cb : 0 ≤ c ∧ c < 30 := by omega
  have wX := bsx_wf B
  have cq : ceq (coX X1) (coX X2) := ⟨by show ((X2 1 0, X2 1 1, X2 2 0) : Int × Int × Int) = (X1 1 0, X1 1 1, X1 2 0); rw [row 1 (by omega) (by omega) (by omega), row 2 (by omega) (by omega) (by omega)], fun g p x y z w => by show X2 (80 + g) p = X1 (80 + g) p; exact r (80 + g) p (by omega) (by omega) (by omega), fun p x y => by show X2 18 p = X1 18 p; exact r 18 p (by omega) (by omega) (by omega)⟩
  have hist : HsX X X2 (a1, a2, a3, a4) c d := ⟨c1, c2, x30, fun i p q => by rw [rc2, y4 i p q, erc], by rw [rc2]; exact y5⟩
  refine h X2 c d ?_ (Or.inl f7) (Or.inl f9) r (by rw [fo 0 11 (by omega)]; exact hO 0 11 (by omega) (by omega)) hist
  unfold BsX
  rw [row 15 (by omega) (by omega) (by omega), row 16 (by omega) (by omega) (by omega), row 17 (by omega) (by omega) (by omega), row 1 (by omega) (by omega) (by omega), x30]
  refine ⟨?_, by omega, by rw [fo 3 1 (by omega)]; exact y31, fun u v p q s t => by rw [r (60 + u) v (by omega) (by omega) (by omega)]; exact hd u v p q s t, fun u v p q s t => by rw [r (40 + u) v (by omega) (by omega) (by omega)]; exact h40 u v p q s t, Ds_ext (fun u v p q s t => r (50 + u) v (by omega) (by omega) (by omega)) h50⟩
  have ex : (c + 1).toNat = c.toNat + 1 := by omega
  rw [ex]
  refine chn_ceq cq ?_
  have ec : ((c.toNat : Nat) : Int) = c := Int.toNat_of_nonneg cb.1
  refine ⟨hW, by rw [ec, hist.2.2.2.2]; exact hv, ?_⟩
  rw [ec, hist.2.2.2.2]
  refine chn_ceq hc ?_
  by_cases k30 : X 3 0 < 30
  · have q := c1 k30
    refine chn_ext (fun j p s => hU j p s) (fun i p s => ?_) (show chn (X 15) (X 16) (X 17) (rcX X) c.toNat (coX X) by rw [q.1]; exact B.1)
    have := hist.2.2.2.1 i p (by omega)
    rw [q.2, show i + 0 = i by omega] at this
    exact this
  · have q := c2 (by omega)
    have b1 := B.1
    rw [show (X 3 0).toNat = c.toNat + 1 by omega] at b1
    refine chn_ext (fun j p s => hU j p s) (fun i p s => ?_) (chn_drop b1)
    have := hist.2.2.2.1 i p (by omega)
    rw [q.2] at this
    exact this
/-- the reference's list of changes -/
def HsR (M M2 : Mem) (b1 b2 b3 c d : Int) : Prop := M2 0 10 = c + 1 ∧ (∀ i : Int, 0 ≤ i → i < c → M2 7 i = M 7 (i + d) ∧ M2 8 i = M 8 (i + d) ∧ M2 9 i = M 9 (i + d)) ∧ M2 7 c = b1 ∧ M2 8 c = b2 ∧ M2 9 c = b3
theorem note_R {X M : Mem} (B : BsX X) (R : BsR X M) {X2 : Mem} {ρ : Rc} {c d b1 b2 b3 : Int} (H : HsX X X2 ρ c d) {post : Mem → Prop} (h : ∀ M1 : Mem, (∀ k i : Int, k < 7 ∨ 9 < k → (k = 0 → i ≠ 10) → M1 k i = M k i) → HsR M M1 b1 b2 b3 c d → post M1) : wpX9_keep b1 b2 b3 M post := by
  have hk := B.2.1
  have e := R.1.2.2.2.2
  refine X9_keep (by omega) (fun M1 c' d' g1 g2 g3 g4 g5 g6 g7 g8 => ?_)
  have ec : c' = c ∧ d' = d := by
    obtain ⟨h1, h2, _⟩ := H
    by_cases q : X 3 0 < 30
    · have := g1 (by omega); have := h1 q; omega
    · have := g2 (by omega); have := h2 (by omega); omega
  rw [ec.1] at g4 g5 g6 g7 g8
  rw [ec.2] at g5
  exact h M1 g3 ⟨g4, g5, g6, g7, g8⟩
theorem hist_R {X X2 M M2 : Mem} {a1 a2 a3 a4 c d b1 b2 b3 : Int} (B : BsX X) (R : BsR X M) (H : HsX X X2 (a1, a2, a3, a4) c d) (N : HsR M M2 b1 b2 b3 c d) (e1 : b1 = a1) (e2 : b2 = if a1 = 3 then 10 * a2 + a3 else a2) (e3 : 3 ≤ a1 → b3 = a4) : ∀ i : Int, 0 ≤ i → i < X2 3 0 → M2 7 i = (rcX X2 i).1 ∧ M2 8 i = (if (rcX X2 i).1 = 3 then 10 * (rcX X2 i).2.1 + (rcX X2 i).2.2.1 else (rcX X2 i).2.1) ∧ (3 ≤ (rcX X2 i).1 → M2 9 i = (rcX X2 i).2.2.2) := fun i p q => by
  obtain ⟨h1, h2, h3, h4, h5⟩ := H
  obtain ⟨n1, n2, n3, n4, n5⟩ := N
  have hk := B.2.1
  by_cases e : i = c
  · rw [e, h5, n3, n4, n5]
    exact ⟨e1, e2, e3⟩
  · have ic : i < c := by omega
    rw [h4 i p ic, (n2 i p ic).1, (n2 i p ic).2.1, (n2 i p ic).2.2]
    exact R.2.2.2.2.2 (i + d) (by omega) (by omega)
theorem hsr_keep {M M1 M2 : Mem} {b1 b2 b3 c d : Int} (h : ∀ k i : Int, (7 ≤ k ∧ k ≤ 9) ∨ (k = 0 ∧ i = 10) → M2 k i = M1 k i) (N : HsR M M1 b1 b2 b3 c d) : HsR M M2 b1 b2 b3 c d := by
  obtain ⟨n1, n2, n3, n4, n5⟩ := N
  unfold HsR
  rw [h 0 10 (by omega), h 7 c (by omega), h 8 c (by omega), h 9 c (by omega)]
  exact ⟨n1, fun i p q => by rw [h 7 i (by omega), h 8 i (by omega), h 9 i (by omega)]; exact n2 i p q, n3, n4, n5⟩
theorem vld_0 {a b c : Int} {e : Co} (h : 1 ≤ e.1.1 ∧ a = e.1.1 - 1) : vld (0, a, b, c) e := ⟨⟨by show (0 : Int) ≤ 0; decide, by show (0 : Int) ≤ 4; decide⟩, fun _ => h, fun z => absurd (show (0 : Int) = 1 from z) (by decide), fun z => absurd (show (0 : Int) = 2 from z) (by decide), fun z => absurd (show (0 : Int) = 3 from z) (by decide), fun z => absurd (show (0 : Int) = 4 from z) (by decide)⟩
theorem vld_1 {a b c : Int} {e : Co} (h : 1 ≤ e.1.2.1) : vld (1, a, b, c) e := ⟨⟨by show (0 : Int) ≤ 1; decide, by show (1 : Int) ≤ 4; decide⟩, fun z => absurd (show (1 : Int) = 0 from z) (by decide), fun _ => h, fun z => absurd (show (1 : Int) = 2 from z) (by decide), fun z => absurd (show (1 : Int) = 3 from z) (by decide), fun z => absurd (show (1 : Int) = 4 from z) (by decide)⟩
theorem vld_2 {a b c : Int} {e : Co} (h : 1 ≤ e.1.2.2) : vld (2, a, b, c) e := ⟨⟨by show (0 : Int) ≤ 2; decide, by show (2 : Int) ≤ 4; decide⟩, fun z => absurd (show (2 : Int) = 0 from z) (by decide), fun z => absurd (show (2 : Int) = 1 from z) (by decide), fun _ => h, fun z => absurd (show (2 : Int) = 3 from z) (by decide), fun z => absurd (show (2 : Int) = 4 from z) (by decide)⟩
theorem vld_3 {a b c : Int} {e : Co} (h : (0 ≤ a ∧ a < 8) ∧ 0 ≤ b ∧ b < 10) : vld (3, a, b, c) e := ⟨⟨by show (0 : Int) ≤ 3; decide, by show (3 : Int) ≤ 4; decide⟩, fun z => absurd (show (3 : Int) = 0 from z) (by decide), fun z => absurd (show (3 : Int) = 1 from z) (by decide), fun z => absurd (show (3 : Int) = 2 from z) (by decide), fun _ => h, fun z => absurd (show (3 : Int) = 4 from z) (by decide)⟩
theorem vld_4 {a b c : Int} {e : Co} (h : 0 ≤ a ∧ a < 10) : vld (4, a, b, c) e := ⟨⟨by show (0 : Int) ≤ 4; decide, by show (4 : Int) ≤ 4; decide⟩, fun z => absurd (show (4 : Int) = 0 from z) (by decide), fun z => absurd (show (4 : Int) = 1 from z) (by decide), fun z => absurd (show (4 : Int) = 2 from z) (by decide), fun z => absurd (show (4 : Int) = 3 from z) (by decide), fun _ => h⟩
theorem s_heap : St_heap Inv := by
  intro X M I
  obtain ⟨B, R, P, Q⟩ := id I
  have w := bsx_wf B
  have e5 := R.1.2.2.1
  unfold wpX8_heap
  refine ⟨fun g v hv => ⟨by omega, fun X1 eX => ?_⟩, fun g => ?_⟩
  · have x1 : ∀ k i : Int, k ≠ 2 → X1 k i = X k i := fun k i q => by rw [eX, mset_r q]
    have xr : ∀ k : Int, k ≠ 2 → X1 k = X k := fun k q => funext (fun i => x1 k i q)
    have x20 : X1 2 0 = X 2 0 + 1 := by rw [eX, mset_s]
    refine note_X B (fun k i q => x1 k i (by omega)) (fun j _ _ => ⟨x1 15 j (by omega), x1 16 j (by omega), x1 17 j (by omega)⟩) ?_ ?_ ?_ (fun u v p q s t => by rw [x1 (60 + u) v (by omega), x1 1 0 (by omega)]; exact B.2.2.2.1 u v p q s t) (fun u v p q s t => ?_) ?_ (fun X2 c d B2 P2 Q2 r2 r11 H => ?_)
    · rw [xr 15 (by omega), xr 16 (by omega), xr 17 (by omega)]
      refine ⟨by show 0 ≤ X1 1 0 ∧ X1 1 0 ≤ 10; rw [x1 1 0 (by omega)]; exact w.1, by show 0 ≤ X1 1 1 ∧ X1 1 1 ≤ 30; rw [x1 1 1 (by omega)]; exact w.2.1, by show 0 ≤ X1 2 0 ∧ X1 2 0 ≤ 8; omega, by show Rds (X1 1 0) (X1 1 1) _ _ _; rw [x1 1 0 (by omega), x1 1 1 (by omega)]; exact w.2.2.2.1, fun g p y0 y1 y2 y3 => ?_, fun p y0 y1 => ?_⟩
      · show 0 ≤ X1 (80 + g) p ∧ X1 (80 + g) p ≤ 1000 ∧ ((X1 2 0 ≤ g ∨ X1 1 0 ≤ p) → X1 (80 + g) p = 0)
        rw [x1 (80 + g) p (by omega), x1 1 0 (by omega)]
        have := w.2.2.2.2.1 g p y0 y1 y2 y3
        exact ⟨this.1, this.2.1, fun z => this.2.2 (by omega)⟩
      · show -1 ≤ X1 18 p ∧ X1 18 p ≤ 100000 ∧ (X1 1 0 ≤ p → X1 18 p = -1)
        rw [x1 18 p (by omega), x1 1 0 (by omega)]
        exact w.2.2.2.2.2 p y0 y1
    · exact vld_2 (by show 1 ≤ X1 2 0; omega)
    · show ceq (coX X) ((X1 1 0, X1 1 1, X1 2 0 - 1), (fun g p => X1 (80 + g) p), X1 18)
      refine ⟨?_, fun g p _ _ _ _ => x1 (80 + g) p (by omega), fun p _ _ => x1 18 p (by omega)⟩
      show ((X1 1 0, X1 1 1, X1 2 0 - 1) : Int × Int × Int) = (X 1 0, X 1 1, X 2 0)
      rw [x1 1 0 (by omega), x1 1 1 (by omega), x20, show X 2 0 + 1 - 1 = X 2 0 by omega]
    · rw [xr 15 (by omega), xr 16 (by omega), xr 17 (by omega), x1 1 1 (by omega)]
      rw [x1 1 0 (by omega)] at q t
      rw [x1 (40 + u) v (by omega)]; exact B.2.2.2.2.1 u v p q s t
    · rw [xr 15 (by omega), xr 16 (by omega), xr 17 (by omega), x1 1 1 (by omega), x1 1 0 (by omega)]
      exact Ds_ext (fun u v p q s t => x1 (50 + u) v (by omega)) B.2.2.2.2.2
    · unfold wpX9_heap
      refine ⟨fun _ => note_R B R H (fun M1 o1 N => ?_), fun z => by omega⟩
      have m05 : M1 0 5 = X 2 0 := by rw [o1 0 5 (by omega) (by omega)]; exact e5
      have key : ∀ (k : Nat) (x : Int) (N2 : Mem), 0 ≤ x → x ≤ 10 → 10 - x < k → (∀ k i : Int, k ≠ 4 → N2 k i = M1 k i) → (∀ g p : Int, 0 ≤ g → g < 8 → 0 ≤ p → p < 10 → N2 4 (10 * g + p) = X (80 + g) p) → lpX9_heap_24 (fun r1 MR1 => v = r1 ∧ Inv X2 MR1) k x N2 := by
        intro k
        induction k with
        | zero => intro x N2 _ _ g; omega
        | succ k ih =>
          intro x N2 x0 x1' hk n1 n2
          unfold lpX9_heap_24
          have n05 : N2 0 5 = X 2 0 := by rw [n1 0 5 (by omega)]; exact m05
          rw [n05]
          refine ⟨fun _ => ⟨by omega, fun N3 e3 => ?_⟩, fun q => ⟨by omega, fun N3 e3 => ⟨by omega, ih (x + 1) N3 (by omega) (by omega) (by omega) (fun k i z => by rw [e3, mset_r z]; exact n1 k i z) (fun g p y0 y1 y2 y3 => ?_)⟩⟩⟩
          · have n35 : N3 0 5 = X 2 0 + 1 := by rw [e3, mset_s]
            rw [n35]
            have o3 : ∀ k i : Int, (k = 0 → i ≠ 5) → N3 k i = N2 k i := fun k i z => by
              by_cases c : k = 0
              · rw [e3]; exact mset_i (z c)
              · rw [e3]; exact mset_r c
            have om : ∀ k i : Int, (k = 0 → i ≠ 5 ∧ i ≠ 10) → k ≠ 4 → (k < 7 ∨ 9 < k) → N3 k i = M k i := fun k i z z2 z3 => by rw [o3 k i (fun c => (z c).1), n1 k i z2]; exact o1 k i z3 (fun c => (z c).2)
            have N3' := hsr_keep (M2 := N3) (fun k i z => by rw [o3 k i (by omega)]; exact n1 k i (by omega)) N
            refine ⟨by omega, by omega, B2, ⟨⟨?_, ?_, ?_, ?_, by rw [N3'.1, H.2.2.1]⟩, fun j p z => ?_, fun g p y0 y1 y2 y3 => ?_, fun p y0 y1 => ?_, fun u v y0 y1 y2 y3 => ?_, hist_R B R H N3' rfl (by rw [if_neg (by decide)]; omega) (fun z => absurd z (by decide))⟩, P2, Q2⟩
            · rw [om 0 0 (by omega) (by omega) (by omega), r2 1 0 (by omega) (by omega) (by omega), x1 1 0 (by omega)]; exact R.1.1
            · rw [om 0 1 (by omega) (by omega) (by omega), r2 1 1 (by omega) (by omega) (by omega), x1 1 1 (by omega)]; exact R.1.2.1
            · rw [n35, r2 2 0 (by omega) (by omega) (by omega), x20]
            · rw [om 0 9 (by omega) (by omega) (by omega), r11, x1 0 11 (by omega)]; exact R.1.2.2.2.1
            · rw [r2 1 1 (by omega) (by omega) (by omega), x1 1 1 (by omega)] at z
              rw [om 1 j (by omega) (by omega) (by omega), om 2 j (by omega) (by omega) (by omega), om 3 j (by omega) (by omega) (by omega), r2 15 j (by omega) (by omega) (by omega), r2 16 j (by omega) (by omega) (by omega), r2 17 j (by omega) (by omega) (by omega), x1 15 j (by omega), x1 16 j (by omega), x1 17 j (by omega)]
              exact R.2.1 j p z
            · rw [o3 4 _ (by omega), n2 g p y0 y1 y2 y3, r2 (80 + g) p (by omega) (by omega) (by omega), x1 (80 + g) p (by omega)]
            · rw [om 5 p (by omega) (by omega) (by omega), r2 18 p (by omega) (by omega) (by omega), x1 18 p (by omega)]; exact R.2.2.2.1 p y0 y1
            · rw [om 6 _ (by omega) (by omega) (by omega), r2 (60 + u) v (by omega) (by omega) (by omega), x1 (60 + u) v (by omega)]; exact R.2.2.2.2.1 u v y0 y1 y2 y3
          · by_cases e : g = X 2 0 ∧ p = x
            · rw [e3, e.1, e.2, mset_s]
              exact ((w.2.2.2.2.1 (X 2 0) x w.2.2.1.1 (by omega) x0 (by omega)).2.2 (Or.inl (Int.le_refl _))).symm
            · rw [e3, mset_i (ix_ne y2 y3 x0 (by omega) e)]
              exact n2 g p y0 y1 y2 y3
      exact ⟨11, key 11 0 M1 (by omega) (by omega) (by omega) (fun _ _ _ => rfl) (fun g p y0 y1 y2 y3 => by rw [o1 4 _ (by omega) (by omega)]; exact R.2.2.1 g p y0 y1 y2 y3)⟩
  · unfold wpX9_heap
    exact ⟨fun z => by omega, fun _ => ⟨rfl, I⟩⟩
