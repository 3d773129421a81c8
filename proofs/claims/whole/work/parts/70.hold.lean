/-! the invariant -/
def dX (M : Mem) : Int → Int → Int := fun u v => if 0 ≤ u ∧ u < 10 then M (50 + u) v else 0
theorem dX_in {M : Mem} {u v : Int} (h : 0 ≤ u ∧ u < 10) : M (50 + u) v = dX M u v := (if_pos h).symm
def BsX (M : Mem) : Prop :=
  chn (M 15) (M 16) (M 17) (rcX M) (M 3 0).toNat (coX M) ∧ (0 ≤ M 3 0 ∧ M 3 0 ≤ 30) ∧ (0 ≤ M 3 1 ∧ M 3 1 < 30) ∧ (∀ u v : Int, 0 ≤ u → u < 10 → 0 ≤ v → v < 10 → (0 ≤ M (60 + u) v ∧ M (60 + u) v ≤ 10000) ∧ ((M 1 0 ≤ u ∨ M 1 0 ≤ v) → M (60 + u) v = 0)) ∧ (∀ u v : Int, 0 ≤ u → u < M 1 0 → 0 ≤ v → v < M 1 0 → M (40 + u) v = dr 1000000 (M 1 1) (M 15) (M 16) (M 17) u v) ∧ Ds (M 1 0) (dr 1000000 (M 1 1) (M 15) (M 16) (M 17)) 1000000 (fun u v => M (50 + u) v)
def BsR (X M : Mem) : Prop :=
  (M 0 0 = X 1 0 ∧ M 0 1 = X 1 1 ∧ M 0 5 = X 2 0 ∧ M 0 9 = X 0 11 ∧ M 0 10 = X 3 0) ∧ (∀ j : Int, 0 ≤ j → j < X 1 1 → M 1 j = X 15 j ∧ M 2 j = X 16 j ∧ M 3 j = X 17 j) ∧ (∀ g p : Int, 0 ≤ g → g < 8 → 0 ≤ p → p < 10 → M 4 (10 * g + p) = X (80 + g) p) ∧ (∀ p : Int, 0 ≤ p → p < 10 → M 5 p = X 18 p) ∧ (∀ u v : Int, 0 ≤ u → u < 10 → 0 ≤ v → v < 10 → M 6 (10 * u + v) = X (60 + u) v) ∧ (∀ i : Int, 0 ≤ i → i < X 3 0 → M 7 i = (rcX X i).1 ∧ M 8 i = (if (rcX X i).1 = 3 then 10 * (rcX X i).2.1 + (rcX X i).2.2.1 else (rcX X i).2.1) ∧ (3 ≤ (rcX X i).1 → M 9 i = (rcX X i).2.2.2))
def PcX (M : Mem) : Prop := M 0 7 = -1 ∨ ((0 ≤ M 0 7 ∧ M 0 7 < 8) ∧ (0 ≤ M 0 8 ∧ M 0 8 < 8) ∧ Fst (M 1 0) (dX M) (M (80 + M 0 7)) (M (80 + M 0 8)) (GX M) ∧ Hts (M 1 0) (dX M) (M (80 + M 0 7)) (M (80 + M 0 8)) (M 23))
def RhX (M : Mem) : Prop := M 0 9 = -1 ∨ ((0 ≤ M 0 9 ∧ M 0 9 < 8) ∧ (0 ≤ M 0 10 ∧ M 0 10 < 8) ∧ RchX (M 1 0) (dX M) (M (80 + M 0 9)) (M (80 + M 0 10)) M)
def Inv (X M : Mem) : Prop := BsX X ∧ BsR X M ∧ PcX X ∧ RhX X
/-- what the class's core is -/
def Kx (M M' : Mem) : Prop := (∀ k i : Int, ((1 ≤ k ∧ k ≤ 3) ∨ (15 ≤ k ∧ k ≤ 22) ∨ (40 ≤ k ∧ k < 70) ∨ (80 ≤ k ∧ k < 88)) → M' k i = M k i) ∧ M' 0 11 = M 0 11
def Qx (M M' : Mem) : Prop := ∀ k i : Int, ((0 ≤ k ∧ k ≤ 7) ∨ (15 ≤ k ∧ k ≤ 23) ∨ k = 27 ∨ (40 ≤ k ∧ k < 88)) → M' k i = M k i
def Kr (M M' : Mem) : Prop := (∀ k i : Int, 1 ≤ k → k ≤ 9 → M' k i = M k i) ∧ (∀ i : Int, i ≤ 10 → M' 0 i = M 0 i)
theorem Kr_refl (M : Mem) : Kr M M := ⟨fun _ _ _ _ => rfl, fun _ _ => rfl⟩
theorem Kr_trans {A B C : Mem} (h : Kr A B) (h2 : Kr B C) : Kr A C := ⟨fun k i a b => by rw [h2.1 k i a b, h.1 k i a b], fun i a => by rw [h2.2 i a, h.2 i a]⟩
theorem Qx_refl (M : Mem) : Qx M M := fun _ _ _ => rfl
theorem Qx_kx {M M' : Mem} (h : Qx M M') : Kx M M' := ⟨fun k i a => h k i (by omega), h 0 11 (by omega)⟩
def ceq (c e : Co) : Prop := e.1 = c.1 ∧ (∀ g p : Int, 0 ≤ g → g < 8 → 0 ≤ p → p < 10 → e.2.1 g p = c.2.1 g p) ∧ ∀ p : Int, 0 ≤ p → p < 10 → e.2.2 p = c.2.2 p
theorem wfc_ceq {U V L : Int → Int} {c e : Co} (h : ceq c e) (H : WFc U V L c) : WFc U V L e := by
  obtain ⟨a, b, d⟩ := h
  obtain ⟨h1, h2, h3, h4, h5, h6⟩ := H
  unfold WFc
  rw [a]
  refine ⟨h1, h2, h3, h4, fun g p x y z w => ?_, fun p x y => ?_⟩
  · rw [b g p x y z w]; exact h5 g p x y z w
  · rw [d p x y]; exact h6 p x y
theorem vld_ceq {ρ : Rc} {c e : Co} (h : ceq c e) (H : vld ρ c) : vld ρ e := by
  unfold vld at H ⊢
  rw [h.1]
  exact H
theorem und_ceq {ρ : Rc} {c e : Co} (h : ceq c e) : ceq (und ρ c) (und ρ e) := by
  obtain ⟨a, b, d⟩ := h
  unfold und
  split
  · exact ⟨by rw [a], b, d⟩
  · split
    · exact ⟨by rw [a], b, d⟩
    · split
      · exact ⟨by rw [a], b, d⟩
      · split
        · refine ⟨a, fun g p x y z w => ?_, d⟩
          show (if g = ρ.2.1 ∧ p = ρ.2.2.1 then ρ.2.2.2 else e.2.1 g p) = (if g = ρ.2.1 ∧ p = ρ.2.2.1 then ρ.2.2.2 else c.2.1 g p)
          rw [b g p x y z w]
        · refine ⟨a, b, fun p x y => ?_⟩
          show (if p = ρ.2.1 then ρ.2.2.2 else e.2.2 p) = (if p = ρ.2.1 then ρ.2.2.2 else c.2.2 p)
          rw [d p x y]
theorem chn_ceq {U V L : Int → Int} {ρ : Int → Rc} {k : Nat} : ∀ {c e : Co}, ceq c e → chn U V L ρ k c → chn U V L ρ k e := by
  induction k with
  | zero => intro c e h H; exact wfc_ceq h H
  | succ k ih => intro c e h H; exact ⟨wfc_ceq h H.1, vld_ceq h H.2.1, ih (und_ceq h) H.2.2⟩
theorem kx_row {M M' : Mem} (h : Kx M M') {k : Int} (hk : (1 ≤ k ∧ k ≤ 3) ∨ (15 ≤ k ∧ k ≤ 22) ∨ (40 ≤ k ∧ k < 70) ∨ (80 ≤ k ∧ k < 88)) : M' k = M k := funext (fun i => h.1 k i hk)
theorem kx_rc {M M' : Mem} (h : Kx M M') : rcX M' = rcX M := by
  funext i
  unfold rcX
  rw [kx_row h (k := 3) (by omega), kx_row h (k := 19) (by omega), kx_row h (k := 20) (by omega), kx_row h (k := 21) (by omega), kx_row h (k := 22) (by omega)]
theorem kx_bsx {M M' : Mem} (h : Kx M M') (H : BsX M) : BsX M' := by
  obtain ⟨h1, h2, h3, h4, h5, h6⟩ := H
  unfold BsX
  rw [kx_rc h, kx_row h (k := 15) (by omega), kx_row h (k := 16) (by omega), kx_row h (k := 17) (by omega), kx_row h (k := 3) (by omega), kx_row h (k := 1) (by omega)]
  refine ⟨chn_ceq ⟨?_, fun g p x y z w => ?_, fun p x y => ?_⟩ h1, h2, h3, fun u v a b c d => ?_, fun u v a b c d => ?_, Ds_ext (fun u v a b c d => ?_) h6⟩
  · show ((M' 1 0, M' 1 1, M' 2 0) : Int × Int × Int) = (M 1 0, M 1 1, M 2 0)
    rw [kx_row h (k := 1) (by omega), kx_row h (k := 2) (by omega)]
  · exact h.1 (80 + g) p (by omega)
  · exact h.1 18 p (by omega)
  · rw [h.1 (60 + u) v (by omega)]; exact h4 u v a b c d
  · have := (chn_wf h1).1
    have this : 0 ≤ M 1 0 ∧ M 1 0 ≤ 10 := this
    rw [h.1 (40 + u) v (by omega)]; exact h5 u v a b c d
  · have := (chn_wf h1).1
    have this : 0 ≤ M 1 0 ∧ M 1 0 ≤ 10 := this
    exact h.1 (50 + u) v (by omega)
theorem kx_bsr {X X' M M' : Mem} (h : Kx X X') (h2 : Kr M M') (hr : 0 ≤ X 1 1) (H : BsR X M) : BsR X' M' := by
  obtain ⟨⟨a1, a2, a3, a4, a5⟩, b, c, d, e, f⟩ := H
  unfold BsR
  rw [kx_rc h, kx_row h (k := 15) (by omega), kx_row h (k := 16) (by omega), kx_row h (k := 17) (by omega), kx_row h (k := 3) (by omega), kx_row h (k := 1) (by omega), kx_row h (k := 2) (by omega), kx_row h (k := 18) (by omega), h.2]
  refine ⟨⟨?_, ?_, ?_, ?_, ?_⟩, fun j p q => ?_, fun g p x y z w => ?_, fun p x y => ?_, fun u v x y z w => ?_, fun i p q => ?_⟩
  · rw [h2.2 0 (by omega)]; exact a1
  · rw [h2.2 1 (by omega)]; exact a2
  · rw [h2.2 5 (by omega)]; exact a3
  · rw [h2.2 9 (by omega)]; exact a4
  · rw [h2.2 10 (by omega)]; exact a5
  · rw [h2.1 1 j (by omega) (by omega), h2.1 2 j (by omega) (by omega), h2.1 3 j (by omega) (by omega)]; exact b j p q
  · rw [h2.1 4 _ (by omega) (by omega), h.1 (80 + g) p (by omega)]; exact c g p x y z w
  · rw [h2.1 5 _ (by omega) (by omega)]; exact d p x y
  · rw [h2.1 6 _ (by omega) (by omega), h.1 (60 + u) v (by omega)]; exact e u v x y z w
  · rw [h2.1 7 _ (by omega) (by omega), h2.1 8 _ (by omega) (by omega), h2.1 9 _ (by omega) (by omega)]; exact f i p q
theorem kx_dX {M M' : Mem} (h : Kx M M') : dX M' = dX M := by
  funext u v
  unfold dX
  by_cases c : 0 ≤ u ∧ u < 10
  · rw [if_pos c, if_pos c, h.1 (50 + u) v (by omega)]
  · rw [if_neg c, if_neg c]
theorem kx_pcx {M M' : Mem} (h : Kx M M') (h7 : M' 0 7 = M 0 7) (h8 : M' 0 8 = M 0 8) (hg : ∀ k i : Int, (k = 23 ∨ (70 ≤ k ∧ k < 80)) → M' k i = M k i) (H : PcX M) : PcX M' := by
  unfold PcX
  rw [h7, h8]
  rcases H with a | ⟨a, b, c, d⟩
  · exact Or.inl a
  · right
    have eg : GX M' = GX M := by
      funext x y
      unfold GX
      by_cases c : 0 ≤ x ∧ x < 10
      · rw [if_pos c, if_pos c, hg (70 + x) y (by omega)]
      · rw [if_neg c, if_neg c]
    rw [eg, kx_dX h, kx_row h (k := 1) (by omega), kx_row h (k := 80 + M 0 7) (by omega), kx_row h (k := 80 + M 0 8) (by omega), show M' 23 = M 23 from funext (fun i => hg 23 i (by omega))]
    exact ⟨a, b, c, d⟩
theorem kx_rhx {M M' : Mem} (h : Kx M M') (h7 : M' 0 9 = M 0 9) (h8 : M' 0 10 = M 0 10) (hg : ∀ k i : Int, (k = 7 ∨ k = 27) → M' k i = M k i) (H : RhX M) : RhX M' := by
  unfold RhX
  rw [h7, h8]
  rcases H with a | ⟨a, b, c⟩
  · exact Or.inl a
  · right
    rw [kx_dX h, kx_row h (k := 1) (by omega), kx_row h (k := 80 + M 0 9) (by omega), kx_row h (k := 80 + M 0 10) (by omega)]
    refine ⟨a, b, ?_⟩
    unfold RchX at c ⊢
    rw [show M' 7 = M 7 from funext (fun i => hg 7 i (by omega)), show M' 27 = M 27 from funext (fun i => hg 27 i (by omega))]
    exact c
theorem bsx_wf {M : Mem} (B : BsX M) : (0 ≤ M 1 0 ∧ M 1 0 ≤ 10) ∧ (0 ≤ M 1 1 ∧ M 1 1 ≤ 30) ∧ (0 ≤ M 2 0 ∧ M 2 0 ≤ 8) ∧ Rds (M 1 0) (M 1 1) (M 15) (M 16) (M 17) ∧ (∀ g p : Int, 0 ≤ g → g < 8 → 0 ≤ p → p < 10 → 0 ≤ M (80 + g) p ∧ M (80 + g) p ≤ 1000 ∧ ((M 2 0 ≤ g ∨ M 1 0 ≤ p) → M (80 + g) p = 0)) ∧ (∀ p : Int, 0 ≤ p → p < 10 → -1 ≤ M 18 p ∧ M 18 p ≤ 100000 ∧ (M 1 0 ≤ p → M 18 p = -1)) := chn_wf B.1
theorem inv_q {X X' M M' : Mem} (I : Inv X M) (h : Qx X X') (h2 : Kr M M') : Inv X' M' := by
  obtain ⟨a, b, c, d⟩ := I
  have w := bsx_wf a
  exact ⟨kx_bsx (Qx_kx h) a, kx_bsr (Qx_kx h) h2 w.2.1.1 b, kx_pcx (Qx_kx h) (h 0 7 (by omega)) (h 0 8 (by omega)) (fun k i q => h k i (by omega)) c, kx_rhx (Qx_kx h) (h 0 9 (by omega)) (h 0 10 (by omega)) (fun k i q => h k i (by omega)) d⟩
/-! joined -/
def JnX (M : Mem) : Prop := ∀ v : Int, 0 ≤ v → v < M 1 0 → M (50 + 0) v ≠ 1000000
theorem bsx_9000 {M : Mem} (B : BsX M) {u v : Int} (h1 : 0 ≤ u) (h2 : u < M 1 0) (h3 : 0 ≤ v) (h4 : v < M 1 0) (hl : M (50 + u) v < 1000000) : M (50 + u) v ≤ 9000 := by
  have w := bsx_wf B
  exact Ds_9000 w.1.2 (fun u w' => dr_pos (by omega) w.2.2.2.1 u w') (fun u => dr_self w.2.2.2.1 u) (fun u w' q => ((dr_two (J := 1000000) (by omega) (by omega) w.2.2.2.1 u w').2 q).2) B.2.2.2.2.2 h1 h2 h3 h4 hl
theorem jn_mtr {M : Mem} (B : BsX M) (J : JnX M) : Mtr (M 1 0) (dX M) := by
  have w := bsx_wf B
  have D := B.2.2.2.2.2
  have e : ∀ u v : Int, 0 ≤ u → u < M 1 0 → dX M u v = M (50 + u) v := fun u v a b => (dX_in (by omega)).symm
  have j : ∀ v : Int, 0 ≤ v → v < M 1 0 → M (50 + 0) v ≤ 9000 := fun v a b => by
    have := J v a b
    have := (D.2.1 0 v (by omega) (by omega) a b).2.1
    have this : M (50 + 0) v ≤ 1000000 := this
    exact bsx_9000 B (by omega) (by omega) a b (by omega)
  refine ⟨fun u a b => by rw [e u u a b]; exact D.1 u a b, fun u v a b c d => ?_, fun u x v a b c d p q => by rw [e u v a b, e u x a b, e x v c d]; exact D.2.2.1 u x v a b c d p q⟩
  rw [e u v a b]
  have h1 : 0 ≤ M (50 + u) v := (D.2.1 u v a b c d).1
  have h2 : M (50 + u) v ≤ M (50 + u) 0 + M (50 + 0) v := D.2.2.1 u 0 v a b (by omega) (by omega) c d
  have h3 : M (50 + u) 0 = M (50 + 0) u := Ds_sym (fun u w' => dr_sym _ _ _ _ _ u w') (fun u => dr_self w.2.2.2.1 u) D a b (by omega) (by omega)
  have h4 := j u a b
  have h5 := j v c d
  exact ⟨h1, bsx_9000 B a b c d (by omega)⟩
/-- the reference's distances are the class's -/
theorem far_two {X M : Mem} (B : BsX X) (E : Ds (X 1 0) (dr 1000000000 (X 1 1) (X 15) (X 16) (X 17)) 1000000000 (fun u v => M 10 (10 * u + v))) {u v : Int} (h1 : 0 ≤ u) (h2 : u < X 1 0) (h3 : 0 ≤ v) (h4 : v < X 1 0) : (X (50 + u) v < 1000000 ↔ M 10 (10 * u + v) < 1000000000) ∧ (X (50 + u) v < 1000000 → X (50 + u) v = M 10 (10 * u + v)) := by
  have w := bsx_wf B
  have hR := w.2.2.2.1
  exact Ds_two w.1.2 (by omega) (by omega) (fun u w => dr_pos (by omega) hR u w) (fun u w => dr_pos (by omega) hR u w) (fun u => dr_self hR u) (fun u => dr_self hR u) (fun u w q => ((dr_two (J := 1000000) (by omega) (by omega) hR u w).2 q).2) (fun u w q => ((dr_two (J := 1000000) (by omega) (by omega) hR u w).2 q).2) (fun u w => ⟨(dr_two (by omega) (by omega) hR u w).1, fun q => ((dr_two (by omega) (by omega) hR u w).2 q).1⟩) B.2.2.2.2.2 E h1 h2 h3 h4
theorem far_eq {X M : Mem} (B : BsX X) (J : JnX X) (E : Ds (X 1 0) (dr 1000000000 (X 1 1) (X 15) (X 16) (X 17)) 1000000000 (fun u v => M 10 (10 * u + v))) {u v : Int} (h1 : 0 ≤ u) (h2 : u < X 1 0) (h3 : 0 ≤ v) (h4 : v < X 1 0) : M 10 (10 * u + v) = dX X u v := by
  have w := bsx_wf B
  have m := (jn_mtr B J).2.1 u v h1 h2 h3 h4
  rw [← dX_in (by omega)] at m ⊢
  exact ((far_two B E h1 h2 h3 h4).2 (by omega)).symm
theorem offT_kr {M M' : Mem} (h : OffT M M') : Kr M M' := ⟨fun k i a b => h k i (by omega), fun i _ => h 0 i (by omega)⟩
/-! the refusals -/
def hpX (M : Mem) (a : Int) : Prop := 0 ≤ a ∧ a < M 2 0
def plX (M : Mem) (u : Int) : Prop := 0 ≤ u ∧ u < M 1 0
def smX (M : Mem) (a b : Int) : Prop := su (M 1 0) (M (80 + a)) = su (M 1 0) (M (80 + b))
theorem sum_10 {M : Mem} (B : BsX M) {a : Int} (ha : 0 ≤ a ∧ a < 8) : su 10 (M (80 + a)) = su (M 1 0) (M (80 + a)) := by
  have w := bsx_wf B
  exact su_ext w.1.2 w.1.1 (fun k p q => (w.2.2.2.2.1 a k ha.1 ha.2 (by omega) q).2.2 (Or.inr p))
theorem tot_X {M : Mem} (B : BsX M) {a : Int} {post : Int → Mem → Prop} (ha : 0 ≤ a ∧ a < 8) (h : post (su (M 1 0) (M (80 + a))) M) : wpX2_total a M post := by
  have w := bsx_wf B
  refine X2_total ha (fun v p q => by have := w.2.2.2.2.1 a v ha.1 ha.2 p q; omega) ?_
  rw [sum_10 B ha]
  exact h
theorem tot_R {X M : Mem} (B : BsX X) (R : BsR X M) {a : Int} {post : Int → Mem → Prop} (ha : 0 ≤ a ∧ a < 8) (h : post (su (X 1 0) (X (80 + a))) M) : wpX9_sumOf a M post := by
  have w := bsx_wf B
  have e0 := R.1.1
  refine X9_sumOf ha (by rw [e0]; exact w.1) (fun v p q => by rw [R.2.2.1 a v ha.1 ha.2 p q]; have := w.2.2.2.2.1 a v ha.1 ha.2 p q; omega) ?_
  rw [e0, su_congr (g := X (80 + a)) (fun k p q => R.2.2.1 a k ha.1 ha.2 p (by omega))]
  exact h
theorem jn_X {M : Mem} (B : BsX M) {post : Int → Mem → Prop} (h1 : JnX M → post 1 M) (h0 : ¬ JnX M → post 0 M) : wpX3_isJoined M post := by
  have w := bsx_wf B
  exact X3_isJoined w.1 rfl h1 (fun ⟨v, a, b, c⟩ => h0 (fun J => J v a b c))
theorem jn_R {X M : Mem} (B : BsX X) (R : BsR X M) {post : Int → Mem → Prop} (h1 : ∀ M' : Mem, OffT M M' → JnX X → (∀ u v : Int, 0 ≤ u → u < X 1 0 → 0 ≤ v → v < X 1 0 → M' 10 (10 * u + v) = dX X u v) → Ds (X 1 0) (dr 1000000000 (X 1 1) (X 15) (X 16) (X 17)) 1000000000 (fun u v => M' 10 (10 * u + v)) → post 1 M') (h0 : ∀ M' : Mem, OffT M M' → ¬ JnX X → post 0 M') : wpX9_isJoined M post := by
  have w := bsx_wf B
  refine X9_isJoined w.1 w.2.1 w.2.2.2.1 R.1.1 R.1.2.1 R.2.1 (fun M' hO E q => ?_) (fun M' hO E q => ?_)
  · have J : JnX X := fun v a b c => by
      have := (far_two B E (u := 0) (by omega) (by omega) a b).1.mpr (q v a b)
      omega
    exact h1 M' hO J (fun u v a b c d => far_eq B J E a b c d) E
  · refine h0 M' hO (fun J => ?_)
    obtain ⟨v, a, b, c⟩ := q
    have x := (B.2.2.2.2.2.2.1 0 v (by omega) (by omega) a b).2.1
    have x : X (50 + 0) v ≤ 1000000 := x
    have := J v a b
    have := (far_two B E (u := 0) (by omega) (by omega) a b).1.mp (by omega)
    omega
theorem X8_refusal {a b : Int} {M : Mem} {post : Int → Mem → Prop} (B : BsX M) (h2 : ¬ (hpX M a ∧ hpX M b) → post (-2) M) (h4 : hpX M a → hpX M b → ¬ (JnX M ∧ smX M a b) → post (-4) M) (h0 : hpX M a → hpX M b → JnX M → smX M a b → post 0 M) : wpX8_refusalOfMoving a b M post := by
  have w := bsx_wf B
  unfold wpX8_refusalOfMoving jbX8_refusalOfMoving_22 jbX8_refusalOfMoving_54
  refine X2_has (fun a0 a1 => ⟨fun q => by omega, fun _ => ?_⟩) (fun q => ⟨fun _ => h2 (fun p => q p.1), fun p => absurd rfl p⟩)
  refine X2_has (fun b0 b1 => ⟨fun _ => ?_, fun q => by omega⟩) (fun q => ⟨fun p => absurd rfl p, fun _ => h2 (fun p => q p.2)⟩)
  refine jn_X B (fun J => ⟨fun q => by omega, fun _ => ?_⟩) (fun J => ⟨fun _ => h4 ⟨a0, a1⟩ ⟨b0, b1⟩ (fun p => J p.1), fun p => absurd rfl p⟩)
  refine tot_X B (by omega) (tot_X B (by omega) ⟨fun q => h0 ⟨a0, a1⟩ ⟨b0, b1⟩ J q, fun q => h4 ⟨a0, a1⟩ ⟨b0, b1⟩ (fun p => q p.2)⟩)
theorem offT_bsr {X M M' : Mem} (B : BsX X) (R : BsR X M) (h : OffT M M') : BsR X M' := kx_bsr (Qx_kx (Qx_refl X)) (offT_kr h) (bsx_wf B).2.1.1 R
theorem X9_refusal {a b : Int} {X M : Mem} {post : Int → Mem → Prop} (B : BsX X) (R : BsR X M) (h2 : ¬ (hpX X a ∧ hpX X b) → post (-2) M) (h4 : ∀ M' : Mem, OffT M M' → hpX X a → hpX X b → ¬ (JnX X ∧ smX X a b) → post (-4) M') (h0 : ∀ M' : Mem, OffT M M' → hpX X a → hpX X b → JnX X → smX X a b → BsR X M' → (∀ u v : Int, 0 ≤ u → u < X 1 0 → 0 ≤ v → v < X 1 0 → M' 10 (10 * u + v) = dX X u v) → Ds (X 1 0) (dr 1000000000 (X 1 1) (X 15) (X 16) (X 17)) 1000000000 (fun u v => M' 10 (10 * u + v)) → post 0 M') : wpX9_against a b M post := by
  have w := bsx_wf B
  have e5 := R.1.2.2.1
  unfold wpX9_against jbX9_against_16 jbX9_against_39 jbX9_against_45
  refine X9_isHeap (by rw [e5]; exact w.2.2.1) (fun a0 a1 => ⟨fun q => by omega, fun _ => ?_⟩) (fun q => ⟨fun _ => h2 (fun p => q (by rw [e5]; exact p.1)), fun p => absurd rfl p⟩)
  refine X9_isHeap (by rw [e5]; exact w.2.2.1) (fun b0 b1 => ⟨fun _ => ?_, fun q => by omega⟩) (fun q => ⟨fun p => absurd rfl p, fun _ => h2 (fun p => q (by rw [e5]; exact p.2))⟩)
  rw [e5] at a1 b1
  refine jn_R B R (fun M' hO J hE E => ⟨fun q => by omega, fun _ => ?_⟩) (fun M' hO J => ⟨fun _ => h4 M' hO ⟨a0, a1⟩ ⟨b0, b1⟩ (fun p => J p.1), fun p => absurd rfl p⟩)
  have R' := offT_bsr B R hO
  refine tot_R B R' (by omega) (tot_R B R' (by omega) ⟨fun q => h0 M' hO ⟨a0, a1⟩ ⟨b0, b1⟩ J q R' hE E, fun q => h4 M' hO ⟨a0, a1⟩ ⟨b0, b1⟩ (fun p => q p.2)⟩)
theorem X9_ref2 {a b : Int} {X M : Mem} {post : Int → Mem → Prop} (B : BsX X) (R : BsR X M) (q : ¬ (hpX X a ∧ hpX X b)) (h : post (-2) M) : wpX9_against a b M post := X9_refusal B R (fun _ => h) (fun _ _ p p2 _ => absurd ⟨p, p2⟩ q) (fun _ _ p p2 _ _ _ _ _ => absurd ⟨p, p2⟩ q)
theorem X9_ref4 {a b : Int} {X M : Mem} {post : Int → Mem → Prop} (B : BsX X) (R : BsR X M) (pa : hpX X a) (pb : hpX X b) (q : ¬ (JnX X ∧ smX X a b)) (h : ∀ M' : Mem, OffT M M' → post (-4) M') : wpX9_against a b M post := X9_refusal B R (fun c => absurd ⟨pa, pb⟩ c) (fun M' hO _ _ _ => h M' hO) (fun _ _ _ _ p p2 _ _ _ => absurd ⟨p, p2⟩ q)
theorem X9_ref0 {a b : Int} {X M : Mem} {post : Int → Mem → Prop} (B : BsX X) (R : BsR X M) (pa : hpX X a) (pb : hpX X b) (J : JnX X) (hs : smX X a b) (h : ∀ M' : Mem, OffT M M' → BsR X M' → (∀ u v : Int, 0 ≤ u → u < X 1 0 → 0 ≤ v → v < X 1 0 → M' 10 (10 * u + v) = dX X u v) → Ds (X 1 0) (dr 1000000000 (X 1 1) (X 15) (X 16) (X 17)) 1000000000 (fun u v => M' 10 (10 * u + v)) → post 0 M') : wpX9_against a b M post := X9_refusal B R (fun c => absurd ⟨pa, pb⟩ c) (fun _ _ _ _ q => absurd ⟨J, hs⟩ q) (fun M' hO _ _ _ _ R' hE E => h M' hO R' hE E)
