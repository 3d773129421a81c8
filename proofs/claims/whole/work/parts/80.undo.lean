/-! undo -/
theorem undo_X {X Y : Mem} {post : Mem → Prop} (B : BsX X) (k0 : ¬ X 3 0 = 0) (h30 : Y 3 0 = X 3 0 - 1) (h3 : ∀ k i : Int, ((k = 3 ∧ i = 1) ∨ (15 ≤ k ∧ k ≤ 17) ∨ (19 ≤ k ∧ k ≤ 22)) → Y k i = X k i) (hc : ceq (und (rcX X (X 3 0 - 1)) (coX X)) (coX Y)) (hd : ∀ u v : Int, 0 ≤ u → u < 10 → 0 ≤ v → v < 10 → (0 ≤ Y (60 + u) v ∧ Y (60 + u) v ≤ 10000) ∧ ((Y 1 0 ≤ u ∨ Y 1 0 ≤ v) → Y (60 + u) v = 0)) (h40 : ∀ u v : Int, 0 ≤ u → u < Y 1 0 → 0 ≤ v → v < Y 1 0 → Y (40 + u) v = dr 1000000 (Y 1 1) (X 15) (X 16) (X 17) u v) (h50 : Ds (Y 1 0) (dr 1000000 (Y 1 1) (X 15) (X 16) (X 17)) 1000000 (fun u v => Y (50 + u) v)) (hn : 0 ≤ Y 1 0 ∧ Y 1 0 ≤ 10)
    (h : ∀ X2 : Mem, BsX X2 → PcX X2 → RhX X2 → (∀ k i : Int, 1 ≤ k → X2 k i = Y k i) → X2 0 11 = Y 0 11 → (∀ i : Int, rcX X2 i = rcX X i) → post X2) : wpX8_forgetResults Y post := by
  refine forget_X (fun X2 f7 f9 fo => ?_)
  have r : ∀ k i : Int, 1 ≤ k → X2 k i = Y k i := fun k i q => fo k i (by omega)
  have row : ∀ k : Int, 1 ≤ k → X2 k = Y k := fun k q => funext (fun i => r k i q)
  have rx : ∀ k : Int, ((15 ≤ k ∧ k ≤ 17) ∨ (19 ≤ k ∧ k ≤ 22)) → X2 k = X k := fun k q => funext (fun i => by rw [r k i (by omega)]; exact h3 k i (by omega))
  have hk := B.2.1
  have erc : ∀ i : Int, rcX X2 i = rcX X i := fun i => by
    unfold rcX
    rw [r 3 1 (by omega), h3 3 1 (by omega), rx 19 (by omega), rx 20 (by omega), rx 21 (by omega), rx 22 (by omega)]
  refine h X2 ?_ (Or.inl f7) (Or.inl f9) r (fo 0 11 (by omega)) erc
  unfold BsX
  rw [rx 15 (by omega), rx 16 (by omega), rx 17 (by omega), row 1 (by omega), r 3 0 (by omega), h30, show rcX X2 = rcX X from funext erc]
  refine ⟨?_, by omega, by rw [r 3 1 (by omega), h3 3 1 (by omega)]; exact B.2.2.1, fun u v a b c d => by rw [r (60 + u) v (by omega)]; exact hd u v a b c d, fun u v a b c d => by rw [r (40 + u) v (by omega)]; exact h40 u v a b c d, Ds_ext (fun u v a b c d => r (50 + u) v (by omega)) h50⟩
  have b1 := B.1
  rw [show (X 3 0).toNat = (X 3 0 - 1).toNat + 1 by omega] at b1
  have b2 := b1.2.2
  rw [show (((X 3 0 - 1).toNat : Nat) : Int) = X 3 0 - 1 by omega] at b2
  refine chn_ceq ?_ b2
  obtain ⟨c1, c2, c3⟩ := hc
  refine ⟨?_, fun g p x y z w => ?_, fun p x y => ?_⟩
  · rw [← c1]
    show ((X2 1 0, X2 1 1, X2 2 0) : Int × Int × Int) = (Y 1 0, Y 1 1, Y 2 0)
    rw [row 1 (by omega), row 2 (by omega)]
  · rw [← c2 g p x y z w]; exact r (80 + g) p (by omega)
  · rw [← c3 p x y]; exact r 18 p (by omega)
theorem bsr_back {X X2 M M2 : Mem} (R : BsR X M) (h30 : X2 3 0 = X 3 0 - 1) (hrc : ∀ i : Int, rcX X2 i = rcX X i) (m10 : M2 0 10 = X 3 0 - 1) (m7 : ∀ k i : Int, 7 ≤ k → k ≤ 9 → M2 k i = M k i) (a : M2 0 0 = X2 1 0) (b : M2 0 1 = X2 1 1) (c : M2 0 5 = X2 2 0) (d : M2 0 9 = X2 0 11) (e : ∀ j : Int, 0 ≤ j → j < X2 1 1 → M2 1 j = X2 15 j ∧ M2 2 j = X2 16 j ∧ M2 3 j = X2 17 j) (f : ∀ g p : Int, 0 ≤ g → g < 8 → 0 ≤ p → p < 10 → M2 4 (10 * g + p) = X2 (80 + g) p) (g : ∀ p : Int, 0 ≤ p → p < 10 → M2 5 p = X2 18 p) (i : ∀ u v : Int, 0 ≤ u → u < 10 → 0 ≤ v → v < 10 → M2 6 (10 * u + v) = X2 (60 + u) v) : BsR X2 M2 := by
  refine ⟨⟨a, b, c, d, by rw [m10, h30]⟩, e, f, g, i, fun j p q => ?_⟩
  rw [hrc j, m7 7 j (by omega) (by omega), m7 8 j (by omega) (by omega), m7 9 j (by omega) (by omega)]
  exact R.2.2.2.2.2 j p (by omega)
theorem undo_R {X M : Mem} {post : Int → Mem → Prop} (B : BsX X) (R : BsR X M) (k0 : ¬ X 3 0 = 0) (hk : 0 ≤ (rcX X (X 3 0 - 1)).1 ∧ (rcX X (X 3 0 - 1)).1 ≤ 4) {N : Mem} (eN : N = mset M 0 10 (X 3 0 - 1))
    (h0 : (rcX X (X 3 0 - 1)).1 = 0 → inR (N 0 0 - 1) ∧ ∀ N1 : Mem, N1 = mset N 0 0 (N 0 0 - 1) → ∃ j, lpX9_undo_56 post j (rcX X (X 3 0 - 1)).2.1 0 N1)
    (h1 : (rcX X (X 3 0 - 1)).1 = 1 → inR (N 0 1 - 1) ∧ ∀ N1 : Mem, N1 = mset N 0 1 (N 0 1 - 1) → post (N1 0 10) N1)
    (h2 : (rcX X (X 3 0 - 1)).1 = 2 → inR (N 0 5 - 1) ∧ ∀ N1 : Mem, N1 = mset N 0 5 (N 0 5 - 1) → post (N1 0 10) N1)
    (h3 : (rcX X (X 3 0 - 1)).1 = 3 → (0 ≤ 10 * (rcX X (X 3 0 - 1)).2.1 + (rcX X (X 3 0 - 1)).2.2.1 ∧ 10 * (rcX X (X 3 0 - 1)).2.1 + (rcX X (X 3 0 - 1)).2.2.1 < 80) ∧ ∀ N1 : Mem, N1 = mset N 4 (10 * (rcX X (X 3 0 - 1)).2.1 + (rcX X (X 3 0 - 1)).2.2.1) (rcX X (X 3 0 - 1)).2.2.2 → post (N1 0 10) N1)
    (h4 : (rcX X (X 3 0 - 1)).1 = 4 → (0 ≤ (rcX X (X 3 0 - 1)).2.1 ∧ (rcX X (X 3 0 - 1)).2.1 < 10) ∧ ∀ N1 : Mem, N1 = mset N 5 (rcX X (X 3 0 - 1)).2.1 (rcX X (X 3 0 - 1)).2.2.2 → post (N1 0 10) N1) : wpX9_undo M post := by
  have kb := B.2.1
  have e10 := R.1.2.2.2.2
  have H := R.2.2.2.2.2 (X 3 0 - 1) (by omega) (by omega)
  obtain ⟨H1, H2, H3⟩ := H
  generalize rcX X (X 3 0 - 1) = ρ at *
  unfold wpX9_undo jbX9_undo_169
  rw [e10]
  refine ⟨fun _ => ⟨by omega, fun N' eN' => ?_⟩, fun z => absurd z k0⟩
  have eNN : N' = N := by rw [eN', eN]
  subst eNN
  have n10 : N' 0 10 = X 3 0 - 1 := by rw [eN, mset_s]
  have n7 : N' 7 (X 3 0 - 1) = ρ.1 := by rw [eN, mset_r (by omega)]; exact H1
  have n8 : N' 8 (X 3 0 - 1) = (if ρ.1 = 3 then 10 * ρ.2.1 + ρ.2.2.1 else ρ.2.1) := by rw [eN, mset_r (by omega)]; exact H2
  have n9 : 3 ≤ ρ.1 → N' 9 (X 3 0 - 1) = ρ.2.2.2 := fun z => by rw [eN, mset_r (by omega)]; exact H3 z
  rw [n10]
  refine ⟨by omega, fun v hv => ⟨by omega, fun t ht => ⟨fun c0 => ⟨fun c1 => ⟨fun c2 => ⟨fun c3 => ⟨by omega, ?_⟩, fun c3 => ⟨by omega, ?_⟩⟩, fun c2 => ?_⟩, fun c1 => ?_⟩, fun c0 => ?_⟩⟩⟩
  · rw [n7] at hv
    rw [n8, if_neg (by omega)] at ht
    rw [ht, n9 (by omega)]
    exact h4 (by omega)
  · rw [n7] at hv
    rw [n8, if_pos (by omega)] at ht
    rw [ht, n9 (by omega)]
    exact h3 (by omega)
  · exact h2 (by omega)
  · exact h1 (by omega)
  · rw [n7] at hv
    rw [n8, if_neg (by omega)] at ht
    rw [ht]
    exact h0 (by omega)
theorem s_undo : St_undo Inv := by
  intro X M I
  obtain ⟨B, R, P, Q⟩ := id I
  have w := bsx_wf B
  have kb := B.2.1
  have ob := B.2.2.1
  unfold wpX8_undo
  refine ⟨fun k0 => ?_, fun k0 => ?_⟩
  · have b1 := B.1
    rw [show (X 3 0).toNat = (X 3 0 - 1).toNat + 1 by omega] at b1
    have hv := b1.2.1
    have hw := chn_wf b1.2.2
    rw [show (((X 3 0 - 1).toNat : Nat) : Int) = X 3 0 - 1 by omega] at hv hw
    obtain ⟨vk, v0, v1, v2, v3, v4⟩ := id hv
    unfold wpX0_dropLatest
    refine ⟨by omega, fun Y0 eY => ?_⟩
    have y0 : ∀ k i : Int, (k = 3 → i ≠ 0) → Y0 k i = X k i := fun k i q => by rw [eY]; exact if_neg (fun z => q z.1 z.2)
    have y30 : Y0 3 0 = X 3 0 - 1 := by rw [eY, mset_s]
    rw [y30, y0 3 1 (by omega)]
    refine ⟨by omega, by omega, by omega, ?_⟩
    obtain ⟨N, eN⟩ : ∃ N : Mem, N = mset M 0 10 (X 3 0 - 1) := ⟨_, rfl⟩
    have nN : ∀ k i : Int, (k = 0 → i ≠ 10) → N k i = M k i := fun k i q => by rw [eN]; exact if_neg (fun z => q z.1 z.2)
    have n10 : N 0 10 = X 3 0 - 1 := by rw [eN, mset_s]
    have er : rcX X (X 3 0 - 1) = (X 19 ((X 3 1 + (X 3 0 - 1)) % 30), X 20 ((X 3 1 + (X 3 0 - 1)) % 30), X 21 ((X 3 1 + (X 3 0 - 1)) % 30), X 22 ((X 3 1 + (X 3 0 - 1)) % 30)) := rfl
    unfold wpX8_takeBack jbX8_takeBack_145
    rw [y0 19 _ (by omega), y0 20 _ (by omega), y0 21 _ (by omega), y0 22 _ (by omega)]
    have s0 : 0 ≤ (X 3 1 + (X 3 0 - 1)) % 30 ∧ (X 3 1 + (X 3 0 - 1)) % 30 < 30 := by omega
    generalize (X 3 1 + (X 3 0 - 1)) % 30 = s at *
    have er1 : X 19 s = (rcX X (X 3 0 - 1)).1 := by rw [er]
    have er2 : X 20 s = (rcX X (X 3 0 - 1)).2.1 := by rw [er]
    have er3 : X 21 s = (rcX X (X 3 0 - 1)).2.2.1 := by rw [er]
    have er4 : X 22 s = (rcX X (X 3 0 - 1)).2.2.2 := by rw [er]
    rw [er1, er2, er3, er4]
    clear er er1 er2 er3 er4
    refine ⟨s0, fun f hf => ⟨s0, fun g hg => ⟨s0, fun c => ?_, fun c => ?_, fun c => ?_, fun c => ?_, fun c => ?_⟩⟩⟩
    · have q := v0 c
      have q1 : 1 ≤ X 1 0 := q.1
      have q2 : (rcX X (X 3 0 - 1)).2.1 = X 1 0 - 1 := q.2
      have hund : und (rcX X (X 3 0 - 1)) (coX X) = ((X 1 0 - 1, X 1 1, X 2 0), (fun g p => X (80 + g) p), X 18) := by unfold und; rw [if_pos c]; rfl
      rw [hund] at hw
      have hR : Rds (X 1 0 - 1) (X 1 1) (X 15) (X 16) (X 17) := hw.2.2.2.1
      unfold wpX3_dropPlace
      rw [y0 1 0 (by omega)]
      refine ⟨by omega, fun Y1 e1 => X1_wipePlace (by omega) (fun Y2 hO hz => ?_)⟩
      have y1 : ∀ k i : Int, (k = 3 → i ≠ 0) → (k = 1 → i ≠ 0) → Y1 k i = X k i := fun k i z z2 => by
        have : Y1 k i = Y0 k i := by rw [e1]; exact if_neg (fun w => z2 w.1 w.2)
        rw [this]; exact y0 k i z
      have y2 : ∀ k i : Int, (k < 60 ∨ 70 ≤ k) → (k = 3 → i ≠ 0) → (k = 1 → i ≠ 0) → Y2 k i = X k i := fun k i z z1 z2 => by rw [hO k z]; exact y1 k i z1 z2
      have y210 : Y2 1 0 = X 1 0 - 1 := by rw [hO 1 (by omega), e1, mset_s]
      have y211 : Y2 1 1 = X 1 1 := y2 1 1 (by omega) (by omega) (by omega)
      have y230 : Y2 3 0 = X 3 0 - 1 := by rw [hO 3 (by omega), e1, mset_r (by omega)]; exact y30
      have dr0 : ∀ u v : Int, 0 ≤ u → u < 10 → 0 ≤ v → v < 10 → Y2 (60 + u) v = if u = X 1 0 - 1 ∨ v = X 1 0 - 1 then 0 else X (60 + u) v := fun u v a b c d => by rw [hz u v a b c d, hf, q2, y1 (60 + u) v (by omega) (by omega)]
      refine undo_X B k0 y230 (fun k i z => y2 k i (by omega) (by omega) (by omega)) ?_ (fun u v a b c d => ?_) (fun u v a b c d => ?_) ?_ (by omega) (fun X2 B2 P2 Q2 r2 r11 hrc => ?_)
      · rw [hund]
        refine ⟨?_, fun g p _ _ _ _ => y2 (80 + g) p (by omega) (by omega) (by omega), fun p _ _ => y2 18 p (by omega) (by omega) (by omega)⟩
        show ((Y2 1 0, Y2 1 1, Y2 2 0) : Int × Int × Int) = (X 1 0 - 1, X 1 1, X 2 0)
        rw [y210, y211, y2 2 0 (by omega) (by omega) (by omega)]
      · rw [dr0 u v a b c d, y210]
        have := B.2.2.2.1 u v a b c d
        by_cases z : u = X 1 0 - 1 ∨ v = X 1 0 - 1
        · rw [if_pos z]; exact ⟨by omega, fun _ => rfl⟩
        · rw [if_neg z]; exact ⟨this.1, fun z2 => this.2 (by omega)⟩
      · rw [y2 (40 + u) v (by omega) (by omega) (by omega), y211]
        exact B.2.2.2.2.1 u v a (by omega) c (by omega)
      · rw [y210, y211]
        refine Ds_ext (fun u v a b c d => y2 (50 + u) v (by omega) (by omega) (by omega)) (Ds_drop (fun u => dr_far hR (Int.le_refl _) u) ?_)
        rw [show X 1 0 - 1 + 1 = X 1 0 by omega]
        exact B.2.2.2.2.2
      · refine undo_R B R k0 vk eN (fun _ => ?_) (fun z => by omega) (fun z => by omega) (fun z => by omega) (fun z => by omega)
        have n00 : N 0 0 = X 1 0 := by rw [nN 0 0 (by omega)]; exact R.1.1
        rw [n00, q2]
        refine ⟨by omega, fun N1 e2 => ?_⟩
        have o1 : ∀ k i : Int, (k = 0 → i ≠ 0 ∧ i ≠ 10) → N1 k i = M k i := fun k i z => by
          have : N1 k i = N k i := by rw [e2]; exact if_neg (fun w => (z w.1).1 w.2)
          rw [this]; exact nN k i (fun w => (z w).2)
        have n110 : N1 0 10 = X 3 0 - 1 := by rw [e2, mset_i (by omega)]; exact n10
        have n100 : N1 0 0 = X 1 0 - 1 := by rw [e2, mset_s]
        have key : ∀ (k : Nat) (x : Int) (L : Mem), 0 ≤ x → x ≤ 10 → 10 - x < k → (∀ k i : Int, k ≠ 6 → L k i = N1 k i) → (∀ u v : Int, 0 ≤ u → u < 10 → 0 ≤ v → v < 10 → L 6 (10 * u + v) = if (u = X 1 0 - 1 ∧ v < x) ∨ (v = X 1 0 - 1 ∧ u < x) then 0 else X (60 + u) v) → lpX9_undo_56 (fun r1 MR1 => X2 3 0 = r1 ∧ Inv X2 MR1) k (X 1 0 - 1) x L := by
          intro k
          induction k with
          | zero => intro x L _ _ z; omega
          | succ k ih =>
            intro x L x0 x1 hk l1 l6
            unfold lpX9_undo_56 jbX9_undo_169
            refine ⟨fun z => ?_, fun z => ⟨by omega, fun L1 f1 => ⟨by omega, fun L2 f2 => ⟨by omega, ih (x + 1) L2 (by omega) (by omega) (by omega) (fun k i z => by rw [f2, mset_r z, f1, mset_r z]; exact l1 k i z) (fun u v a b c d => ?_)⟩⟩⟩⟩
            · have lo : ∀ k i : Int, k ≠ 6 → (k = 0 → i ≠ 0 ∧ i ≠ 10) → L k i = M k i := fun k i z z2 => by rw [l1 k i z]; exact o1 k i z2
              rw [l1 0 10 (by omega), n110]
              refine ⟨by rw [r2 3 0 (by omega)]; exact y230, B2, bsr_back R (by rw [r2 3 0 (by omega)]; exact y230) hrc (by rw [l1 0 10 (by omega)]; exact n110) (fun k i a b => lo k i (by omega) (by omega)) ?_ ?_ ?_ ?_ (fun j a b => ?_) (fun g p a b c d => ?_) (fun p a b => ?_) (fun u v a b c d => ?_), P2, Q2⟩
              · rw [l1 0 0 (by omega), n100, r2 1 0 (by omega), y210]
              · rw [lo 0 1 (by omega) (by omega), r2 1 1 (by omega), y211]; exact R.1.2.1
              · rw [lo 0 5 (by omega) (by omega), r2 2 0 (by omega), y2 2 0 (by omega) (by omega) (by omega)]; exact R.1.2.2.1
              · rw [lo 0 9 (by omega) (by omega), r11, y2 0 11 (by omega) (by omega) (by omega)]; exact R.1.2.2.2.1
              · rw [r2 1 1 (by omega), y211] at b
                rw [lo 1 j (by omega) (by omega), lo 2 j (by omega) (by omega), lo 3 j (by omega) (by omega), r2 15 j (by omega), r2 16 j (by omega), r2 17 j (by omega), y2 15 j (by omega) (by omega) (by omega), y2 16 j (by omega) (by omega) (by omega), y2 17 j (by omega) (by omega) (by omega)]
                exact R.2.1 j a b
              · rw [lo 4 _ (by omega) (by omega), r2 (80 + g) p (by omega), y2 (80 + g) p (by omega) (by omega) (by omega)]; exact R.2.2.1 g p a b c d
              · rw [lo 5 p (by omega) (by omega), r2 18 p (by omega), y2 18 p (by omega) (by omega) (by omega)]; exact R.2.2.2.1 p a b
              · rw [l6 u v a b c d, r2 (60 + u) v (by omega), dr0 u v a b c d]
                by_cases z3 : u = X 1 0 - 1 ∨ v = X 1 0 - 1
                · rw [if_pos z3, if_pos (by omega)]
                · rw [if_neg z3, if_neg (by omega)]
            · by_cases z1 : u = x ∧ v = X 1 0 - 1
              · rw [f2, z1.1, z1.2, mset_s, if_pos (by omega)]
              · rw [f2, mset_i (ix_ne c d (by omega) (by omega) z1)]
                by_cases z2 : u = X 1 0 - 1 ∧ v = x
                · rw [f1, z2.1, z2.2, mset_s, if_pos (by omega)]
                · rw [f1, mset_i (ix_ne c d (by omega) (by omega) z2), l6 u v a b c d]
                  by_cases z3 : (u = X 1 0 - 1 ∧ v < x) ∨ (v = X 1 0 - 1 ∧ u < x)
                  · rw [if_pos z3, if_pos (by omega)]
                  · rw [if_neg z3, if_neg (by omega)]
        exact ⟨11, key 11 0 N1 (by omega) (by omega) (by omega) (fun _ _ _ => rfl) (fun u v a b c d => by rw [if_neg (by omega), o1 6 _ (by omega)]; exact R.2.2.2.2.1 u v a b c d)⟩
    · have q1 : 1 ≤ X 1 1 := v1 c
      have hund : und (rcX X (X 3 0 - 1)) (coX X) = ((X 1 0, X 1 1 - 1, X 2 0), (fun g p => X (80 + g) p), X 18) := by unfold und; rw [if_neg (by omega), if_pos c]; rfl
      rw [hund] at hw
      have hR : Rds (X 1 0) (X 1 1 - 1) (X 15) (X 16) (X 17) := hw.2.2.2.1
      unfold wpX3_dropRoad
      rw [y0 1 1 (by omega)]
      refine ⟨by omega, fun Y1 e1 => ?_⟩
      have y1 : ∀ k i : Int, (k = 3 → i ≠ 0) → (k = 1 → i ≠ 1) → Y1 k i = X k i := fun k i z z2 => by
        have : Y1 k i = Y0 k i := by rw [e1]; exact if_neg (fun w => z2 w.1 w.2)
        rw [this]; exact y0 k i z
      refine X3_measure (n := X 1 0) (r := X 1 1 - 1) (U := X 15) (V := X 16) (L := X 17) w.1 (by omega) hR (y1 1 0 (by omega) (by omega)) (by rw [e1, mset_s]) (fun j _ _ => ⟨y1 15 j (by omega) (by omega), y1 16 j (by omega) (by omega), y1 17 j (by omega) (by omega)⟩) (fun Y2 hO h40 h50 => ?_)
      have y2 : ∀ k i : Int, (k < 40 ∨ 60 ≤ k) → (k = 3 → i ≠ 0) → (k = 1 → i ≠ 1) → Y2 k i = X k i := fun k i z z1 z2 => by rw [hO k i z]; exact y1 k i z1 z2
      have y211 : Y2 1 1 = X 1 1 - 1 := by rw [hO 1 1 (by omega), e1, mset_s]
      have y210 : Y2 1 0 = X 1 0 := y2 1 0 (by omega) (by omega) (by omega)
      have y230 : Y2 3 0 = X 3 0 - 1 := by rw [hO 3 0 (by omega), e1, mset_r (by omega)]; exact y30
      refine undo_X B k0 y230 (fun k i z => y2 k i (by omega) (by omega) (by omega)) ?_ (fun u v a b c d => ?_) (fun u v a b c d => ?_) ?_ (by omega) (fun X2 B2 P2 Q2 r2 r11 hrc => ?_)
      · rw [hund]
        refine ⟨?_, fun g p _ _ _ _ => y2 (80 + g) p (by omega) (by omega) (by omega), fun p _ _ => y2 18 p (by omega) (by omega) (by omega)⟩
        show ((Y2 1 0, Y2 1 1, Y2 2 0) : Int × Int × Int) = (X 1 0, X 1 1 - 1, X 2 0)
        rw [y210, y211, y2 2 0 (by omega) (by omega) (by omega)]
      · rw [y2 (60 + u) v (by omega) (by omega) (by omega), y210]; exact B.2.2.2.1 u v a b c d
      · rw [y211]; exact h40 u v a (by omega) c (by omega)
      · rw [y210, y211]; exact h50
      · refine undo_R B R k0 vk eN (fun z => by omega) (fun _ => ?_) (fun z => by omega) (fun z => by omega) (fun z => by omega)
        have n01 : N 0 1 = X 1 1 := by rw [nN 0 1 (by omega)]; exact R.1.2.1
        rw [n01]
        refine ⟨by omega, fun N1 e2 => ?_⟩
        have o1 : ∀ k i : Int, (k = 0 → i ≠ 1 ∧ i ≠ 10) → N1 k i = M k i := fun k i z => by
          have : N1 k i = N k i := by rw [e2]; exact if_neg (fun w => (z w.1).1 w.2)
          rw [this]; exact nN k i (fun w => (z w).2)
        have n110 : N1 0 10 = X 3 0 - 1 := by rw [e2, mset_i (by omega)]; exact n10
        rw [n110]
        refine ⟨by rw [r2 3 0 (by omega)]; exact y230, B2, bsr_back R (by rw [r2 3 0 (by omega)]; exact y230) hrc n110 (fun k i a b => o1 k i (by omega)) ?_ ?_ ?_ ?_ (fun j a b => ?_) (fun g p a b c d => ?_) (fun p a b => ?_) (fun u v a b c d => ?_), P2, Q2⟩
        · rw [o1 0 0 (by omega), r2 1 0 (by omega), y210]; exact R.1.1
        · rw [e2, mset_s, r2 1 1 (by omega), y211]
        · rw [o1 0 5 (by omega), r2 2 0 (by omega), y2 2 0 (by omega) (by omega) (by omega)]; exact R.1.2.2.1
        · rw [o1 0 9 (by omega), r11, y2 0 11 (by omega) (by omega) (by omega)]; exact R.1.2.2.2.1
        · rw [r2 1 1 (by omega), y211] at b
          rw [o1 1 j (by omega), o1 2 j (by omega), o1 3 j (by omega), r2 15 j (by omega), r2 16 j (by omega), r2 17 j (by omega), y2 15 j (by omega) (by omega) (by omega), y2 16 j (by omega) (by omega) (by omega), y2 17 j (by omega) (by omega) (by omega)]
          exact R.2.1 j a (by omega)
        · rw [o1 4 _ (by omega), r2 (80 + g) p (by omega), y2 (80 + g) p (by omega) (by omega) (by omega)]; exact R.2.2.1 g p a b c d
        · rw [o1 5 p (by omega), r2 18 p (by omega), y2 18 p (by omega) (by omega) (by omega)]; exact R.2.2.2.1 p a b
        · rw [o1 6 _ (by omega), r2 (60 + u) v (by omega), y2 (60 + u) v (by omega) (by omega) (by omega)]; exact R.2.2.2.2.1 u v a b c d
    · have q1 : 1 ≤ X 2 0 := v2 c
      have hund : und (rcX X (X 3 0 - 1)) (coX X) = ((X 1 0, X 1 1, X 2 0 - 1), (fun g p => X (80 + g) p), X 18) := by unfold und; rw [if_neg (by omega), if_neg (by omega), if_pos c]; rfl
      rw [y0 2 0 (by omega)]
      refine ⟨by omega, fun Y2 e1 => ?_⟩
      have y2 : ∀ k i : Int, (k = 3 → i ≠ 0) → (k = 2 → i ≠ 0) → Y2 k i = X k i := fun k i z z2 => by
        have : Y2 k i = Y0 k i := by rw [e1]; exact if_neg (fun w => z2 w.1 w.2)
        rw [this]; exact y0 k i z
      have y220 : Y2 2 0 = X 2 0 - 1 := by rw [e1, mset_s]
      have y210 : Y2 1 0 = X 1 0 := y2 1 0 (by omega) (by omega)
      have y211 : Y2 1 1 = X 1 1 := y2 1 1 (by omega) (by omega)
      have y230 : Y2 3 0 = X 3 0 - 1 := by rw [e1, mset_r (by omega)]; exact y30
      refine undo_X B k0 y230 (fun k i z => y2 k i (by omega) (by omega)) ?_ (fun u v a b c d => ?_) (fun u v a b c d => ?_) ?_ (by omega) (fun X2 B2 P2 Q2 r2 r11 hrc => ?_)
      · rw [hund]
        refine ⟨?_, fun g p _ _ _ _ => y2 (80 + g) p (by omega) (by omega), fun p _ _ => y2 18 p (by omega) (by omega)⟩
        show ((Y2 1 0, Y2 1 1, Y2 2 0) : Int × Int × Int) = (X 1 0, X 1 1, X 2 0 - 1)
        rw [y210, y211, y220]
      · rw [y2 (60 + u) v (by omega) (by omega), y210]; exact B.2.2.2.1 u v a b c d
      · rw [y211, y2 (40 + u) v (by omega) (by omega)]; exact B.2.2.2.2.1 u v a (by omega) c (by omega)
      · rw [y210, y211]; exact Ds_ext (fun u v a b c d => y2 (50 + u) v (by omega) (by omega)) B.2.2.2.2.2
      · refine undo_R B R k0 vk eN (fun z => by omega) (fun z => by omega) (fun _ => ?_) (fun z => by omega) (fun z => by omega)
        have n05 : N 0 5 = X 2 0 := by rw [nN 0 5 (by omega)]; exact R.1.2.2.1
        rw [n05]
        refine ⟨by omega, fun N1 e2 => ?_⟩
        have o1 : ∀ k i : Int, (k = 0 → i ≠ 5 ∧ i ≠ 10) → N1 k i = M k i := fun k i z => by
          have : N1 k i = N k i := by rw [e2]; exact if_neg (fun w => (z w.1).1 w.2)
          rw [this]; exact nN k i (fun w => (z w).2)
        have n110 : N1 0 10 = X 3 0 - 1 := by rw [e2, mset_i (by omega)]; exact n10
        rw [n110]
        refine ⟨by rw [r2 3 0 (by omega)]; exact y230, B2, bsr_back R (by rw [r2 3 0 (by omega)]; exact y230) hrc n110 (fun k i a b => o1 k i (by omega)) ?_ ?_ ?_ ?_ (fun j a b => ?_) (fun g p a b c d => ?_) (fun p a b => ?_) (fun u v a b c d => ?_), P2, Q2⟩
        · rw [o1 0 0 (by omega), r2 1 0 (by omega), y210]; exact R.1.1
        · rw [o1 0 1 (by omega), r2 1 1 (by omega), y211]; exact R.1.2.1
        · rw [e2, mset_s, r2 2 0 (by omega), y220]
        · rw [o1 0 9 (by omega), r11, y2 0 11 (by omega) (by omega)]; exact R.1.2.2.2.1
        · rw [r2 1 1 (by omega), y211] at b
          rw [o1 1 j (by omega), o1 2 j (by omega), o1 3 j (by omega), r2 15 j (by omega), r2 16 j (by omega), r2 17 j (by omega), y2 15 j (by omega) (by omega), y2 16 j (by omega) (by omega), y2 17 j (by omega) (by omega)]
          exact R.2.1 j a b
        · rw [o1 4 _ (by omega), r2 (80 + g) p (by omega), y2 (80 + g) p (by omega) (by omega)]; exact R.2.2.1 g p a b c d
        · rw [o1 5 p (by omega), r2 18 p (by omega), y2 18 p (by omega) (by omega)]; exact R.2.2.2.1 p a b
        · rw [o1 6 _ (by omega), r2 (60 + u) v (by omega), y2 (60 + u) v (by omega) (by omega)]; exact R.2.2.2.2.1 u v a b c d
    · have q1 := v3 c
      have hund : und (rcX X (X 3 0 - 1)) (coX X) = ((X 1 0, X 1 1, X 2 0), (fun g p => if g = (rcX X (X 3 0 - 1)).2.1 ∧ p = (rcX X (X 3 0 - 1)).2.2.1 then (rcX X (X 3 0 - 1)).2.2.2 else X (80 + g) p), X 18) := by unfold und; rw [if_neg (by omega), if_neg (by omega), if_neg (by omega), if_pos c]; rfl
      rw [hf, hg]
      refine ⟨q1.1, s0, q1.2, fun Y2 e1 => ?_⟩
      have y2 : ∀ k i : Int, (k = 3 → i ≠ 0) → (k = 80 + (rcX X (X 3 0 - 1)).2.1 → i ≠ (rcX X (X 3 0 - 1)).2.2.1) → Y2 k i = X k i := fun k i z z2 => by
        have : Y2 k i = Y0 k i := by rw [e1]; exact if_neg (fun w => z2 w.1 w.2)
        rw [this]; exact y0 k i z
      have y2s : Y2 (80 + (rcX X (X 3 0 - 1)).2.1) (rcX X (X 3 0 - 1)).2.2.1 = (rcX X (X 3 0 - 1)).2.2.2 := by rw [e1, mset_s]
      have y210 : Y2 1 0 = X 1 0 := y2 1 0 (by omega) (by omega)
      have y211 : Y2 1 1 = X 1 1 := y2 1 1 (by omega) (by omega)
      have y230 : Y2 3 0 = X 3 0 - 1 := by rw [e1, mset_r (by omega)]; exact y30
      have am : ∀ g p : Int, Y2 (80 + g) p = if g = (rcX X (X 3 0 - 1)).2.1 ∧ p = (rcX X (X 3 0 - 1)).2.2.1 then (rcX X (X 3 0 - 1)).2.2.2 else (if 80 + g = 3 ∧ p = 0 then X 3 0 - 1 else X (80 + g) p) := fun g p => by
        by_cases z : g = (rcX X (X 3 0 - 1)).2.1 ∧ p = (rcX X (X 3 0 - 1)).2.2.1
        · rw [if_pos z, z.1, z.2]; exact y2s
        · rw [if_neg z]
          have : Y2 (80 + g) p = Y0 (80 + g) p := by rw [e1]; exact if_neg (fun w => z ⟨by omega, w.2⟩)
          rw [this, eY]
          rfl
      refine undo_X B k0 y230 (fun k i z => y2 k i (by omega) (by omega)) ?_ (fun u v a b c d => ?_) (fun u v a b c d => ?_) ?_ (by omega) (fun X2 B2 P2 Q2 r2 r11 hrc => ?_)
      · rw [hund]
        refine ⟨?_, fun g p _ _ _ _ => ?_, fun p _ _ => y2 18 p (by omega) (by omega)⟩
        · show ((Y2 1 0, Y2 1 1, Y2 2 0) : Int × Int × Int) = (X 1 0, X 1 1, X 2 0)
          rw [y210, y211, y2 2 0 (by omega) (by omega)]
        · show Y2 (80 + g) p = if g = (rcX X (X 3 0 - 1)).2.1 ∧ p = (rcX X (X 3 0 - 1)).2.2.1 then (rcX X (X 3 0 - 1)).2.2.2 else X (80 + g) p
          rw [am g p, if_neg (c := 80 + g = 3 ∧ p = 0) (by omega)]
      · rw [y2 (60 + u) v (by omega) (by omega), y210]; exact B.2.2.2.1 u v a b c d
      · rw [y211, y2 (40 + u) v (by omega) (by omega)]; exact B.2.2.2.2.1 u v a (by omega) c (by omega)
      · rw [y210, y211]; exact Ds_ext (fun u v a b c d => y2 (50 + u) v (by omega) (by omega)) B.2.2.2.2.2
      · refine undo_R B R k0 vk eN (fun z => by omega) (fun z => by omega) (fun z => by omega) (fun _ => ?_) (fun z => by omega)
        refine ⟨by omega, fun N1 e2 => ?_⟩
        have o1 : ∀ k i : Int, k ≠ 4 → (k = 0 → i ≠ 10) → N1 k i = M k i := fun k i z z2 => by rw [e2, mset_r z]; exact nN k i z2
        have n110 : N1 0 10 = X 3 0 - 1 := by rw [e2, mset_r (by omega)]; exact n10
        rw [n110]
        refine ⟨by rw [r2 3 0 (by omega)]; exact y230, B2, bsr_back R (by rw [r2 3 0 (by omega)]; exact y230) hrc n110 (fun k i a b => o1 k i (by omega) (by omega)) ?_ ?_ ?_ ?_ (fun j a b => ?_) (fun g p a b c d => ?_) (fun p a b => ?_) (fun u v a b c d => ?_), P2, Q2⟩
        · rw [o1 0 0 (by omega) (by omega), r2 1 0 (by omega), y210]; exact R.1.1
        · rw [o1 0 1 (by omega) (by omega), r2 1 1 (by omega), y211]; exact R.1.2.1
        · rw [o1 0 5 (by omega) (by omega), r2 2 0 (by omega), y2 2 0 (by omega) (by omega)]; exact R.1.2.2.1
        · rw [o1 0 9 (by omega) (by omega), r11, y2 0 11 (by omega) (by omega)]; exact R.1.2.2.2.1
        · rw [r2 1 1 (by omega), y211] at b
          rw [o1 1 j (by omega) (by omega), o1 2 j (by omega) (by omega), o1 3 j (by omega) (by omega), r2 15 j (by omega), r2 16 j (by omega), r2 17 j (by omega), y2 15 j (by omega) (by omega), y2 16 j (by omega) (by omega), y2 17 j (by omega) (by omega)]
          exact R.2.1 j a b
        · rw [r2 (80 + g) p (by omega), am g p, if_neg (c := 80 + g = 3 ∧ p = 0) (by omega)]
          by_cases z : g = (rcX X (X 3 0 - 1)).2.1 ∧ p = (rcX X (X 3 0 - 1)).2.2.1
          · rw [if_pos z, e2, z.1, z.2, mset_s]
          · rw [if_neg z, e2, mset_i (ix_ne c d q1.2.1 q1.2.2 z), nN 4 _ (by omega)]; exact R.2.2.1 g p a b c d
        · rw [o1 5 p (by omega) (by omega), r2 18 p (by omega), y2 18 p (by omega) (by omega)]; exact R.2.2.2.1 p a b
        · rw [o1 6 _ (by omega) (by omega), r2 (60 + u) v (by omega), y2 (60 + u) v (by omega) (by omega)]; exact R.2.2.2.2.1 u v a b c d
    · have c4 : (rcX X (X 3 0 - 1)).1 = 4 := by omega
      have q1 := v4 c4
      have hund : und (rcX X (X 3 0 - 1)) (coX X) = ((X 1 0, X 1 1, X 2 0), (fun g p => X (80 + g) p), fun p => if p = (rcX X (X 3 0 - 1)).2.1 then (rcX X (X 3 0 - 1)).2.2.2 else X 18 p) := by unfold und; rw [if_neg (by omega), if_neg (by omega), if_neg (by omega), if_neg (by omega)]; rfl
      rw [hf]
      refine ⟨s0, q1, fun Y2 e1 => ?_⟩
      have y2 : ∀ k i : Int, (k = 3 → i ≠ 0) → (k = 18 → i ≠ (rcX X (X 3 0 - 1)).2.1) → Y2 k i = X k i := fun k i z z2 => by
        have : Y2 k i = Y0 k i := by rw [e1]; exact if_neg (fun w => z2 w.1 w.2)
        rw [this]; exact y0 k i z
      have y2s : Y2 18 (rcX X (X 3 0 - 1)).2.1 = (rcX X (X 3 0 - 1)).2.2.2 := by rw [e1, mset_s]
      have y210 : Y2 1 0 = X 1 0 := y2 1 0 (by omega) (by omega)
      have y211 : Y2 1 1 = X 1 1 := y2 1 1 (by omega) (by omega)
      have y230 : Y2 3 0 = X 3 0 - 1 := by rw [e1, mset_r (by omega)]; exact y30
      have bo : ∀ p : Int, Y2 18 p = if p = (rcX X (X 3 0 - 1)).2.1 then (rcX X (X 3 0 - 1)).2.2.2 else X 18 p := fun p => by
        by_cases z : p = (rcX X (X 3 0 - 1)).2.1
        · rw [if_pos z, z]; exact y2s
        · rw [if_neg z]; exact y2 18 p (by omega) (fun _ => z)
      refine undo_X B k0 y230 (fun k i z => y2 k i (by omega) (by omega)) ?_ (fun u v a b c d => ?_) (fun u v a b c d => ?_) ?_ (by omega) (fun X2 B2 P2 Q2 r2 r11 hrc => ?_)
      · rw [hund]
        refine ⟨?_, fun g p _ _ _ _ => y2 (80 + g) p (by omega) (by omega), fun p _ _ => bo p⟩
        show ((Y2 1 0, Y2 1 1, Y2 2 0) : Int × Int × Int) = (X 1 0, X 1 1, X 2 0)
        rw [y210, y211, y2 2 0 (by omega) (by omega)]
      · rw [y2 (60 + u) v (by omega) (by omega), y210]; exact B.2.2.2.1 u v a b c d
      · rw [y211, y2 (40 + u) v (by omega) (by omega)]; exact B.2.2.2.2.1 u v a (by omega) c (by omega)
      · rw [y210, y211]; exact Ds_ext (fun u v a b c d => y2 (50 + u) v (by omega) (by omega)) B.2.2.2.2.2
      · refine undo_R B R k0 vk eN (fun z => by omega) (fun z => by omega) (fun z => by omega) (fun z => by omega) (fun _ => ?_)
        refine ⟨q1, fun N1 e2 => ?_⟩
        have o1 : ∀ k i : Int, k ≠ 5 → (k = 0 → i ≠ 10) → N1 k i = M k i := fun k i z z2 => by rw [e2, mset_r z]; exact nN k i z2
        have n110 : N1 0 10 = X 3 0 - 1 := by rw [e2, mset_r (by omega)]; exact n10
        rw [n110]
        refine ⟨by rw [r2 3 0 (by omega)]; exact y230, B2, bsr_back R (by rw [r2 3 0 (by omega)]; exact y230) hrc n110 (fun k i a b => o1 k i (by omega) (by omega)) ?_ ?_ ?_ ?_ (fun j a b => ?_) (fun g p a b c d => ?_) (fun p a b => ?_) (fun u v a b c d => ?_), P2, Q2⟩
        · rw [o1 0 0 (by omega) (by omega), r2 1 0 (by omega), y210]; exact R.1.1
        · rw [o1 0 1 (by omega) (by omega), r2 1 1 (by omega), y211]; exact R.1.2.1
        · rw [o1 0 5 (by omega) (by omega), r2 2 0 (by omega), y2 2 0 (by omega) (by omega)]; exact R.1.2.2.1
        · rw [o1 0 9 (by omega) (by omega), r11, y2 0 11 (by omega) (by omega)]; exact R.1.2.2.2.1
        · rw [r2 1 1 (by omega), y211] at b
          rw [o1 1 j (by omega) (by omega), o1 2 j (by omega) (by omega), o1 3 j (by omega) (by omega), r2 15 j (by omega), r2 16 j (by omega), r2 17 j (by omega), y2 15 j (by omega) (by omega), y2 16 j (by omega) (by omega), y2 17 j (by omega) (by omega)]
          exact R.2.1 j a b
        · rw [o1 4 _ (by omega) (by omega), r2 (80 + g) p (by omega), y2 (80 + g) p (by omega) (by omega)]; exact R.2.2.1 g p a b c d
        · rw [r2 18 p (by omega), bo p]
          by_cases z : p = (rcX X (X 3 0 - 1)).2.1
          · rw [if_pos z, e2, z, mset_s]
          · rw [if_neg z, e2, mset_i z, nN 5 p (by omega)]; exact R.2.2.2.1 p a b
        · rw [o1 6 _ (by omega) (by omega), r2 (60 + u) v (by omega), y2 (60 + u) v (by omega) (by omega)]; exact R.2.2.2.2.1 u v a b c d
  · unfold wpX9_undo
    have e10 := R.1.2.2.2.2
    exact ⟨fun z => by omega, fun _ => ⟨rfl, I⟩⟩
