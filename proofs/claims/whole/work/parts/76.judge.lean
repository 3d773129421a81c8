/-! the judge -/
theorem X9_drafted {n p s : Int} {M : Mem} {S : Int → Int} {post : Int → Mem → Prop} (hn : 0 ≤ n ∧ n ≤ 10) (e0 : M 0 0 = n) (hp : 0 ≤ p ∧ p < n) (hS : ∀ v : Int, 0 ≤ v → v < n → (0 ≤ S v ∧ S v ≤ 10000) ∧ (s = 0 → M 6 (10 * v + p) = S v) ∧ (¬ s = 0 → M 6 (10 * p + v) = S v)) (h : post (su n S) M) : wpX9_drafted p s M post := by
  have key : ∀ (k : Nat) (x : Int), 0 ≤ x → x ≤ n → n - x < k → lpX9_drafted_5 post k p s (su x S) x M := by
    intro k
    induction k with
    | zero => intro x _ _ g; omega
    | succ k ih =>
      intro x x0 x1 hk
      unfold lpX9_drafted_5 jbX9_drafted_40
      rw [e0]
      have b := su_bnd (n := x) (B := 10000) (f := S) x0 (fun v c d => (hS v c (by omega)).1)
      refine ⟨fun g => by rw [show x = n by omega]; exact h, fun g => ?_⟩
      have t := hS x x0 (by omega)
      have nxt := ih (x + 1) (by omega) (by omega) (by omega)
      rw [su_s x0] at nxt
      refine ⟨fun q => ⟨by omega, by omega, by rw [t.2.1 q]; omega, fun z hz => ⟨by omega, ?_⟩⟩, fun q => ⟨by omega, by omega, by rw [t.2.2 q]; omega, fun z hz => ⟨by omega, ?_⟩⟩⟩
      · rw [hz, t.2.1 q]; exact nxt
      · rw [hz, t.2.2 q]; exact nxt
  have := key 11 0 (by omega) (by omega) (by omega)
  rw [su_0] at this
  exact ⟨11, this⟩
theorem X9_wrong {n a b s : Int} {M : Mem} {α S : Int → Int} {post : Int → Mem → Prop} {k16 : Int → Int → Int → Mem → Prop} (hn : 0 ≤ n ∧ n ≤ 10) (e0 : M 0 0 = n) (ha : 0 ≤ a ∧ a < 8) (hb : 0 ≤ b ∧ b < 8) (hs : s = 0 ∨ s = 1) (hα : ∀ v : Int, 0 ≤ v → v < n → (s = 0 → M 4 (10 * a + v) = α v) ∧ (¬ s = 0 → M 4 (10 * b + v) = α v)) (hD : ∀ p v : Int, 0 ≤ p → p < n → 0 ≤ v → v < n → 0 ≤ M 6 (10 * p + v) ∧ M 6 (10 * p + v) ≤ 10000) (hS : ∀ p : Int, 0 ≤ p → p < n → (s = 0 → S p = su n (fun v => M 6 (10 * p + v))) ∧ (¬ s = 0 → S p = su n (fun v => M 6 (10 * v + p))))
    (h1 : ∀ (r : Int) (M' : Mem), 0 ≤ r → Fw n S α r → M' = mset M 0 9 r → post (1 + s) M') (h0 : Fw n S α (-1) → k16 a b (s + 1) M) : ∃ j, lpX9_judge_25 post k16 j a b s 0 M := by
  have key : ∀ (k : Nat) (x : Int), 0 ≤ x → x ≤ n → n - x < k → (∀ u : Int, 0 ≤ u → u < x → S u = α u) → lpX9_judge_25 post k16 k a b s x M := by
    intro k
    induction k with
    | zero => intro x _ _ g; omega
    | succ k ih =>
      intro x x0 x1 hk hI
      unfold lpX9_judge_25
      rw [e0]
      refine ⟨fun g => ⟨by omega, h0 (Or.inl ⟨rfl, fun u c d => hI u c (by omega)⟩)⟩, fun g => ?_⟩
      have t := hS x x0 (by omega)
      have al := hα x x0 (by omega)
      have fin : ∀ (t0 : Int), M 4 (10 * t0 + x) = α x → 0 ≤ t0 → t0 < 8 → jbX9_judge_66 post k16 (fun y1 y2 y4 y5 N => lpX9_judge_25 post k16 k y1 y2 y4 y5 N) a b s x t0 10 (S x) M := fun t0 ht c d => by
        unfold jbX9_judge_66
        rw [ht]
        refine ⟨by omega, fun q => ⟨by omega, ih (x + 1) (by omega) (by omega) (by omega) (fun u c d => ?_)⟩, fun q M' eM => ⟨by omega, h1 x M' x0 (Or.inr ⟨x0, by omega, q, hI⟩) eM⟩⟩
        by_cases e : u = x
        · rw [e]; exact q
        · exact hI u c (by omega)
      unfold jbX9_judge_47
      refine ⟨fun q => ?_, fun q => ?_⟩
      · refine X9_drafted (S := fun v => M 6 (10 * v + x)) hn e0 ⟨x0, by omega⟩ (fun v c d => ⟨hD v x c d x0 (by omega), fun _ => rfl, fun z => absurd rfl z⟩) ?_
        rw [← t.2 q]
        exact ⟨fun _ => fin b (al.2 q) hb.1 hb.2, fun z => absurd z q⟩
      · refine X9_drafted (S := fun v => M 6 (10 * x + v)) hn e0 ⟨x0, by omega⟩ (fun v c d => ⟨hD x v x0 (by omega) c d, fun z => absurd z (by decide), fun _ => rfl⟩) ?_
        rw [← t.1 q]
        exact ⟨fun z => absurd q z, fun _ => fin a (al.1 q) ha.1 ha.2⟩
  exact ⟨11, key 11 0 (by omega) (by omega) (by omega) (fun u _ _ => by omega)⟩
theorem inv_t {X X' M M' : Mem} (I : Inv X M) (t : Int) (hX : X' = mset X 0 11 t) (hM : M' = mset M 0 9 t) : Inv X' M' := by
  have R := I.2.1
  have B := I.1
  have x0 : ∀ k i : Int, (k = 0 → i ≠ 11) → X' k i = X k i := fun k i q => by
    rw [hX]
    by_cases z : k = 0
    · exact mset_i (q z)
    · exact mset_r z
  have m0 : ∀ k i : Int, (k = 0 → i ≠ 9) → M' k i = M k i := fun k i q => by
    rw [hM]
    by_cases z : k = 0
    · exact mset_i (q z)
    · exact mset_r z
  exact inv_d I (fun k i q => x0 k i (by omega)) (fun i q => x0 0 i (fun _ => q)) (fun u v a b c d => by rw [x0 (60 + u) v (by omega)]; exact B.2.2.2.1 u v a b c d) (fun k i p q r => m0 k i (by omega)) (fun i p q => m0 0 i (fun _ => q)) (by rw [hX, hM, mset_s, mset_s]) (fun u v a b c d => by rw [x0 (60 + u) v (by omega), m0 6 _ (by omega)]; exact R.2.2.2.2.1 u v a b c d)
theorem fw_congr {n : Int} {S T α : Int → Int} {r : Int} (h : ∀ u : Int, 0 ≤ u → u < n → S u = T u) (H : Fw n S α r) : Fw n T α r := by
  rcases H with ⟨a, b⟩ | ⟨a, b, c, d⟩
  · exact Or.inl ⟨a, fun u p q => by rw [← h u p q]; exact b u p q⟩
  · exact Or.inr ⟨a, b, by rw [← h r a b]; exact c, fun u p q => by rw [← h u p (by omega)]; exact d u p q⟩
theorem s_judge : St_judge Inv := by
  intro a b X M _ _ I
  obtain ⟨B, R, P, Q⟩ := id I
  have w := bsx_wf B
  unfold wpX8_judge
  refine X8_refusal B (fun q => ⟨fun c => absurd c (by decide), fun _ => ?_⟩) (fun pa pb q => ⟨fun c => absurd c (by decide), fun _ => ?_⟩) (fun pa pb J hs => ⟨fun _ => ?_, fun c => absurd rfl c⟩)
  · unfold wpX9_judge
    exact X9_ref2 B R q ⟨fun c => absurd c (by decide), fun _ => ⟨rfl, I⟩⟩
  · unfold wpX9_judge
    exact X9_ref4 B R pa pb q (fun M' hO => ⟨fun c => absurd c (by decide), fun _ => ⟨rfl, inv_q I (Qx_refl X) (offT_kr hO)⟩⟩)
  · have ha : 0 ≤ a ∧ a < 8 := by unfold hpX at pa; omega
    have hb : 0 ≤ b ∧ b < 8 := by unfold hpX at pb; omega
    have hα := amt_X B ha hb
    have T := jn_mtr B J
    have hDX : ∀ u v : Int, 0 ≤ u → u < 10 → 0 ≤ v → v < 10 → 0 ≤ X (60 + u) v ∧ X (60 + u) v ≤ 10000 := fun u v p q c d => (B.2.2.2.1 u v p q c d).1
    -- the reference's two walks over the draft
    have refF : ∀ {post : Int → Mem → Prop} {k16 : Int → Int → Int → Mem → Prop} {M' : Mem}, BsR X M' → (∀ (r : Int) (M2 : Mem), 0 ≤ r → Fw (X 1 0) (fun u => su (X 1 0) (fun v => X (60 + u) v)) (X (80 + a)) r → M2 = mset M' 0 9 r → post (1 + 0) M2) → (Fw (X 1 0) (fun u => su (X 1 0) (fun v => X (60 + u) v)) (X (80 + a)) (-1) → k16 a b (0 + 1) M') → ∃ j, lpX9_judge_25 post k16 j a b 0 0 M' := fun {post k16 M'} R' h1 h0 => by
      refine X9_wrong (s := 0) (S := fun u => su (X 1 0) (fun v => X (60 + u) v)) (α := X (80 + a)) w.1 R'.1.1 ha hb (Or.inl rfl) (fun v p q => ⟨fun _ => R'.2.2.1 a v ha.1 ha.2 p (by omega), fun z => absurd rfl z⟩) (fun u v p q c d => by rw [R'.2.2.2.2.1 u v p (by omega) c (by omega)]; exact hDX u v p (by omega) c (by omega)) (fun u p q => ⟨fun _ => su_congr (fun v c d => (R'.2.2.2.2.1 u v p (by omega) c (by omega)).symm), fun z => absurd rfl z⟩) h1 h0
    have refT : ∀ {post : Int → Mem → Prop} {k16 : Int → Int → Int → Mem → Prop} {M' : Mem}, BsR X M' → (∀ (r : Int) (M2 : Mem), 0 ≤ r → Fw (X 1 0) (fun v => su (X 1 0) (fun u => X (60 + u) v)) (X (80 + b)) r → M2 = mset M' 0 9 r → post (1 + 1) M2) → (Fw (X 1 0) (fun v => su (X 1 0) (fun u => X (60 + u) v)) (X (80 + b)) (-1) → k16 a b (1 + 1) M') → ∃ j, lpX9_judge_25 post k16 j a b 1 0 M' := fun {post k16 M'} R' h1 h0 => by
      refine X9_wrong (s := 1) (S := fun v => su (X 1 0) (fun u => X (60 + u) v)) (α := X (80 + b)) w.1 R'.1.1 ha hb (Or.inr rfl) (fun v p q => ⟨fun z => absurd z (by decide), fun _ => R'.2.2.1 b v hb.1 hb.2 p (by omega)⟩) (fun u v p q c d => by rw [R'.2.2.2.2.1 u v p (by omega) c (by omega)]; exact hDX u v p (by omega) c (by omega)) (fun u p q => ⟨fun z => absurd z (by decide), fun _ => su_congr (fun v c d => (R'.2.2.2.2.1 v u c (by omega) p (by omega)).symm)⟩) h1 h0
    refine ⟨ha, X1_firstWrongFrom (by omega) w.1 hDX (fun r hr => ?_)⟩
    refine ⟨fun c => ⟨hb, X1_firstWrongTo (by omega) w.1 hDX (fun t ht => ?_)⟩, fun c X1 eX => ?_⟩
    · subst c
      refine ⟨fun c => ?_, fun c X1 eX => ?_⟩
      · subst c
        have plD : Pl (X 1 0) (X (80 + a)) (X (80 + b)) (fun u v => X (60 + u) v) := by
          refine ⟨fun u v p q c d => (hDX u v p (by omega) c (by omega)).1, fun u p q => ?_, fun v p q => ?_⟩
          · rcases hr with ⟨_, h⟩ | ⟨h, _⟩
            · exact h u p q
            · omega
          · rcases ht with ⟨_, h⟩ | ⟨h, _⟩
            · exact h v p q
            · omega
        have gb := pl_b (fun v p q => (hα v p q).1.2) plD
        have s0 := hsu_X B ha
        have hs' : su (X 1 0) (X (80 + a)) = su (X 1 0) (X (80 + b)) := hs
        have e50 : ∀ u v : Int, 0 ≤ u → u < X 1 0 → 0 ≤ v → v < X 1 0 → X (50 + u) v = dX X u v := fun u v p q _ _ => dX_in (by omega)
        refine X1_cost w.1 rfl gb (fun u v p q c d => by rw [e50 u v p q c d]; exact T.2.1 u v p q c d) ?_
        have ecst : su (X 1 0) (fun u => su (X 1 0) (fun v => X (60 + u) v * X (50 + u) v)) = cst (X 1 0) (dX X) (fun u v => X (60 + u) v) := su_congr (fun u p q => su_congr (fun v c d => by rw [e50 u v p q c d]))
        rw [ecst]
        obtain ⟨C, hC⟩ : ∃ C : Int, C = cst (X 1 0) (dX X) (fun u v => X (60 + u) v) := ⟨_, rfl⟩
        rw [← hC]
        have Cb : 0 ≤ C ∧ C ≤ 900000000 := by
          rw [hC]
          have := su_bnd (n := X 1 0) (B := 90000000) (f := fun u => su (X 1 0) (fun v => X (60 + u) v * dX X u v)) w.1.1 (fun u p q => by
            have := su_bnd (n := X 1 0) (B := 9000000) (f := fun v => X (60 + u) v * dX X u v) w.1.1 (fun v c d => by
              have g := gb u v p q c d
              have t := T.2.1 u v p q c d
              refine ⟨Int.mul_nonneg g.1 t.1, ?_⟩
              have h1 := Int.mul_le_mul g.2 t.2 t.1 (by decide)
              have h1 : X (60 + u) v * dX X u v ≤ 1000 * 9000 := h1
              omega)
            omega)
          show 0 ≤ su (X 1 0) (fun u => su (X 1 0) (fun v => X (60 + u) v * dX X u v)) ∧ su (X 1 0) (fun u => su (X 1 0) (fun v => X (60 + u) v * dX X u v)) ≤ 900000000
          omega
        unfold wpX8_leastCost
        refine ⟨ha, hb, tot_X B ha (ls_X B J ha hb s0.1 (by omega) (by omega) (fun e X2 hO S => ?_))⟩
        have smD : Sm (X 1 0) (X (80 + a)) (X (80 + b)) (su (X 1 0) (X (80 + a))) (fun u v => X (60 + u) v) := ⟨plD.1, fun u p q => by rw [plD.2.1 u p q]; exact Int.le_refl _, fun v p q => by rw [plD.2.2 v p q]; exact Int.le_refl _, su_congr (fun u p q => plD.2.1 u p q)⟩
        have eb : 0 ≤ e ∧ e ≤ C := by
          refine ⟨?_, by rw [hC]; exact S.2 _ smD⟩
          obtain ⟨⟨G, g1, g2⟩, _⟩ := S
          rw [← g2]
          exact su_nonneg (fun u p q => su_nonneg (fun v c d => Int.mul_nonneg (g1.1 u v p q c d) (T.2.1 u v p q c d).1))
        refine ⟨by omega, fun X3 eX => ?_⟩
        have r11 : X3 0 11 = C - e := by rw [eX, mset_s]
        unfold jbX8_judge_125
        have ref : ∀ t : Int, (C - e ≤ 0 → t = 0) → (¬ C - e ≤ 0 → t = 3) → wpX9_judge a b M (fun r1 MR1 => t = r1 ∧ Inv X3 MR1) := fun t t0 t3 => by
          unfold wpX9_judge
          refine X9_ref0 B R pa pb J hs (fun M' hO' R' hE E => ⟨fun _ => ⟨3, ?_⟩, fun c => absurd rfl c⟩)
          unfold lpX9_judge_16
          refine ⟨fun c => absurd c (by decide), fun _ => refF R' (fun r M2 r0 hF _ => absurd (fw_one hF hr) (by omega)) (fun _ => ?_)⟩
          show lpX9_judge_16 _ 2 a b 1 M'
          unfold lpX9_judge_16
          refine ⟨fun c => absurd c (by decide), fun _ => refT R' (fun r M2 r0 hF _ => absurd (fw_one hF ht) (by omega)) (fun _ => ?_)⟩
          show lpX9_judge_16 _ 1 a b 2 M'
          unfold lpX9_judge_16 jbX9_judge_133
          refine ⟨fun _ => ?_, fun c => absurd (by decide) c⟩
          refine X9_costOf rfl ⟨by decide, by decide⟩ w.1 R'.1.1 (fun u v p q c d => by rw [R'.2.2.2.2.1 u v p (by omega) c (by omega)]; exact gb u v p q c d) (fun u v p q c d => by rw [hE u v p q c d]; exact T.2.1 u v p q c d) ?_
          have ec : su (X 1 0) (fun u => su (X 1 0) (fun v => M' 6 (10 * u + v) * M' 10 (10 * u + v))) = C := by
            rw [hC]
            exact su_congr (fun u p q => su_congr (fun v c d => by rw [R'.2.2.2.2.1 u v p (by omega) c (by omega), hE u v p q c d]))
          rw [ec]
          refine tot_R B R' ha (ls_R B J R' hE ha hb s0.1 (by omega) (by omega) (fun e2 M2 hO2 S2 => ?_))
          rw [← som_one S S2]
          refine ⟨by omega, fun M3 eM => ?_⟩
          have m9 : M3 0 9 = C - e := by rw [eM, mset_s]
          have I3 : Inv X3 M3 := inv_t (inv_q I (offB_qx hO) (Kr_trans (offT_kr hO') (offQ_kr hO2))) (C - e) eX eM
          rw [m9]
          exact ⟨fun q => ⟨t0 q, I3⟩, fun q => ⟨t3 q, I3⟩⟩
        rw [r11]
        exact ⟨fun q => ref 0 (fun _ => rfl) (fun z => absurd q z), fun q => ref 3 (fun z => absurd z q) (fun _ => rfl)⟩
      · have t0 : 0 ≤ t := by
          rcases ht with ⟨h, _⟩ | ⟨h, _⟩ <;> omega
        unfold wpX9_judge
        refine X9_ref0 B R pa pb J hs (fun M' hO' R' hE E => ⟨fun _ => ⟨3, ?_⟩, fun c => absurd rfl c⟩)
        unfold lpX9_judge_16
        refine ⟨fun c => absurd c (by decide), fun _ => refF R' (fun r M2 r0 hF _ => absurd (fw_one hF hr) (by omega)) (fun _ => ?_)⟩
        show lpX9_judge_16 _ 2 a b 1 M'
        unfold lpX9_judge_16
        refine ⟨fun c => absurd c (by decide), fun _ => refT R' (fun r M2 r0 hF eM => ⟨rfl, ?_⟩) (fun hF => absurd (fw_one hF ht) (by omega))⟩
        rw [fw_one hF ht] at eM
        exact inv_t (inv_q I (Qx_refl X) (offT_kr hO')) t eX eM
    · have r0 : 0 ≤ r := by
        rcases hr with ⟨h, _⟩ | ⟨h, _⟩ <;> omega
      unfold wpX9_judge
      refine X9_ref0 B R pa pb J hs (fun M' hO' R' hE E => ⟨fun _ => ⟨3, ?_⟩, fun c => absurd rfl c⟩)
      unfold lpX9_judge_16
      refine ⟨fun c => absurd c (by decide), fun _ => refF R' (fun t M2 t0 hF eM => ⟨rfl, ?_⟩) (fun hF => absurd (fw_one hF hr) (by omega))⟩
      rw [fw_one hF hr] at eM
      exact inv_t (inv_q I (Qx_refl X) (offT_kr hO')) r eX eM
