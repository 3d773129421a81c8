/-! place, road -/
theorem s_place : St_place Inv := by
  intro X M I
  obtain ⟨B, R, P, Q⟩ := id I
  have w := bsx_wf B
  have e0 := R.1.1
  unfold wpX8_place
  refine ⟨fun g => ?_, fun g => ?_⟩
  · unfold wpX3_addPlace
    intro v hv
    refine ⟨by omega, fun Y eY => ?_⟩
    have y1 : ∀ k i : Int, (k = 1 → i ≠ 0) → Y k i = X k i := fun k i q => by rw [eY]; exact if_neg (fun z => q z.1 z.2)
    have yr : ∀ k : Int, k ≠ 1 → Y k = X k := fun k q => funext (fun i => y1 k i (by omega))
    have y10 : Y 1 0 = X 1 0 + 1 := by rw [eY, mset_s]
    have y11 : Y 1 1 = X 1 1 := y1 1 1 (by omega)
    have hR : Rds (X 1 0 + 1) (X 1 1) (X 15) (X 16) (X 17) := fun j p q => by have := w.2.2.2.1 j p q; omega
    refine X3_measure (n := X 1 0 + 1) (r := X 1 1) (U := X 15) (V := X 16) (L := X 17) (by omega) w.2.1 hR y10 y11 (fun j _ _ => ⟨y1 15 j (by omega), y1 16 j (by omega), y1 17 j (by omega)⟩) (fun X1 hO h40 h50 => ?_)
    have x1 : ∀ k i : Int, (k < 40 ∨ 60 ≤ k) → (k = 1 → i ≠ 0) → X1 k i = X k i := fun k i q q2 => by rw [hO k i q]; exact y1 k i q2
    have xr : ∀ k : Int, (k < 40 ∨ 60 ≤ k) → k ≠ 1 → X1 k = X k := fun k q q2 => funext (fun i => x1 k i q (by omega))
    have x10 : X1 1 0 = X 1 0 + 1 := by rw [hO 1 0 (by omega)]; exact y10
    have x11 : X1 1 1 = X 1 1 := x1 1 1 (by omega) (by omega)
    refine note_X B (fun k i q => x1 k i (by omega) (by omega)) (fun j _ _ => ⟨x1 15 j (by omega) (by omega), x1 16 j (by omega) (by omega), x1 17 j (by omega) (by omega)⟩) ?_ (vld_0 (by show 1 ≤ X1 1 0 ∧ v = X1 1 0 - 1; omega)) ?_ (fun u v p q s t => by rw [x1 (60 + u) v (by omega) (by omega), x10]; have := B.2.2.2.1 u v p q s t; exact ⟨this.1, fun z => this.2 (by omega)⟩) (fun u v p q s t => ?_) ?_ (fun X2 c d B2 P2 Q2 r2 r11 H => ?_)
    · rw [xr 15 (by omega) (by omega), xr 16 (by omega) (by omega), xr 17 (by omega) (by omega)]
      refine wf_X x10 x11 (x1 2 0 (by omega) (by omega)) (by omega) w.2.1 w.2.2.1 hR (fun g q y0 y1 y2 y3 => ?_) (fun q y0 y1 => ?_)
      · rw [x1 (80 + g) q (by omega) (by omega)]
        have := w.2.2.2.2.1 g q y0 y1 y2 y3
        exact ⟨this.1, this.2.1, fun z => this.2.2 (by omega)⟩
      · rw [x1 18 q (by omega) (by omega)]
        have := w.2.2.2.2.2 q y0 y1
        exact ⟨this.1, this.2.1, fun z => this.2.2 (by omega)⟩
    · show ceq (coX X) ((X1 1 0 - 1, X1 1 1, X1 2 0), (fun g q => X1 (80 + g) q), X1 18)
      refine ⟨?_, fun g q y0 y1 y2 y3 => x1 (80 + g) q (by omega) (by omega), fun q _ _ => x1 18 q (by omega) (by omega)⟩
      show ((X1 1 0 - 1, X1 1 1, X1 2 0) : Int × Int × Int) = (X 1 0, X 1 1, X 2 0)
      rw [x10, x11, x1 2 0 (by omega) (by omega), show X 1 0 + 1 - 1 = X 1 0 by omega]
    · rw [xr 15 (by omega) (by omega), xr 16 (by omega) (by omega), xr 17 (by omega) (by omega), x11]
      rw [x10] at q t
      exact h40 u v p q s t
    · rw [xr 15 (by omega) (by omega), xr 16 (by omega) (by omega), xr 17 (by omega) (by omega), x11, x10]
      exact h50
    · unfold wpX9_place
      refine ⟨fun _ => note_R B R H (fun M1 o1 N => ?_), fun z => by omega⟩
      have m00 : M1 0 0 = X 1 0 := by rw [o1 0 0 (by omega) (by omega)]; exact e0
      rw [m00]
      refine ⟨by omega, fun M2 e2 => ?_⟩
      have key : ∀ (k : Nat) (x : Int) (N2 : Mem), 0 ≤ x → x ≤ 8 → 8 - x < k → (∀ k i : Int, k ≠ 4 → k ≠ 5 → N2 k i = M1 k i) → (∀ p : Int, 0 ≤ p → p < 10 → N2 5 p = X 18 p) → (∀ g p : Int, 0 ≤ g → g < 8 → 0 ≤ p → p < 10 → N2 4 (10 * g + p) = X (80 + g) p) → lpX9_place_34 (fun r1 MR1 => v = r1 ∧ Inv X2 MR1) k x N2 := by
        intro k
        induction k with
        | zero => intro x N2 _ _ g; omega
        | succ k ih =>
          intro x N2 x0 x1' hk n1 n5 n2
          unfold lpX9_place_34
          have n00 : N2 0 0 = X 1 0 := by rw [n1 0 0 (by omega) (by omega)]; exact m00
          rw [n00]
          refine ⟨fun _ => ⟨by omega, fun N3 e3 => ?_⟩, fun q => ⟨by omega, fun N3 e3 => ⟨by omega, ih (x + 1) N3 (by omega) (by omega) (by omega) (fun k i z z2 => by rw [e3, mset_r z]; exact n1 k i z z2) (fun p y0 y1 => by rw [e3, mset_r (by omega)]; exact n5 p y0 y1) (fun g p y0 y1 y2 y3 => ?_)⟩⟩⟩
          · have n30 : N3 0 0 = X 1 0 + 1 := by rw [e3, mset_s]
            rw [n30]
            have o3 : ∀ k i : Int, (k = 0 → i ≠ 0) → N3 k i = N2 k i := fun k i z => by
              by_cases c : k = 0
              · rw [e3]; exact mset_i (z c)
              · rw [e3]; exact mset_r c
            have om : ∀ k i : Int, (k = 0 → i ≠ 0 ∧ i ≠ 10) → k ≠ 4 → k ≠ 5 → (k < 7 ∨ 9 < k) → N3 k i = M k i := fun k i z z2 z4 z3 => by rw [o3 k i (fun c => (z c).1), n1 k i z2 z4]; exact o1 k i z3 (fun c => (z c).2)
            have N3' := hsr_keep (M2 := N3) (fun k i z => by rw [o3 k i (by omega)]; exact n1 k i (by omega) (by omega)) N
            refine ⟨by omega, by omega, B2, ⟨⟨?_, ?_, ?_, ?_, by rw [N3'.1, H.2.2.1]⟩, fun j p z => ?_, fun g p y0 y1 y2 y3 => ?_, fun p y0 y1 => ?_, fun u v y0 y1 y2 y3 => ?_, hist_R B R H N3' rfl (by rw [if_neg (by decide)]; omega) (fun z => absurd z (by decide))⟩, P2, Q2⟩
            · rw [n30, r2 1 0 (by omega) (by omega) (by omega), x10]
            · rw [om 0 1 (by omega) (by omega) (by omega) (by omega), r2 1 1 (by omega) (by omega) (by omega), x11]; exact R.1.2.1
            · rw [om 0 5 (by omega) (by omega) (by omega) (by omega), r2 2 0 (by omega) (by omega) (by omega), x1 2 0 (by omega) (by omega)]; exact R.1.2.2.1
            · rw [om 0 9 (by omega) (by omega) (by omega) (by omega), r11, x1 0 11 (by omega) (by omega)]; exact R.1.2.2.2.1
            · rw [r2 1 1 (by omega) (by omega) (by omega), x11] at z
              rw [om 1 j (by omega) (by omega) (by omega) (by omega), om 2 j (by omega) (by omega) (by omega) (by omega), om 3 j (by omega) (by omega) (by omega) (by omega), r2 15 j (by omega) (by omega) (by omega), r2 16 j (by omega) (by omega) (by omega), r2 17 j (by omega) (by omega) (by omega), x1 15 j (by omega) (by omega), x1 16 j (by omega) (by omega), x1 17 j (by omega) (by omega)]
              exact R.2.1 j p z
            · rw [o3 4 _ (by omega), n2 g p y0 y1 y2 y3, r2 (80 + g) p (by omega) (by omega) (by omega), x1 (80 + g) p (by omega) (by omega)]
            · rw [o3 5 p (by omega), n5 p y0 y1, r2 18 p (by omega) (by omega) (by omega), x1 18 p (by omega) (by omega)]
            · rw [om 6 _ (by omega) (by omega) (by omega) (by omega), r2 (60 + u) v (by omega) (by omega) (by omega), x1 (60 + u) v (by omega) (by omega)]; exact R.2.2.2.2.1 u v y0 y1 y2 y3
          · by_cases e : g = x ∧ p = X 1 0
            · rw [e3, e.1, e.2, mset_s]
              exact ((w.2.2.2.2.1 x (X 1 0) x0 (by omega) w.1.1 (by omega)).2.2 (Or.inr (Int.le_refl _))).symm
            · rw [e3, mset_i (ix_ne y2 y3 w.1.1 (by omega) e)]
              exact n2 g p y0 y1 y2 y3
      refine ⟨9, key 9 0 M2 (by omega) (by omega) (by omega) (fun k i _ z => by rw [e2, mset_r z]) (fun p y0 y1 => ?_) (fun g p y0 y1 y2 y3 => by rw [e2, mset_r (by omega), o1 4 _ (by omega) (by omega)]; exact R.2.2.1 g p y0 y1 y2 y3)⟩
      by_cases e : p = X 1 0
      · rw [e2, e, mset_s]
        exact ((w.2.2.2.2.2 (X 1 0) w.1.1 (by omega)).2.2 (Int.le_refl _)).symm
      · rw [e2, mset_i e, o1 5 p (by omega) (by omega)]; exact R.2.2.2.1 p y0 y1
  · unfold wpX9_place
    exact ⟨fun z => by omega, fun _ => ⟨rfl, I⟩⟩
theorem s_road : St_road Inv := by
  intro a b t X M _ _ _ I
  obtain ⟨B, R, P, Q⟩ := id I
  have w := bsx_wf B
  have e1 := R.1.2.1
  unfold wpX8_road jbX8_road_22 jbX8_road_42
  have bad : ¬ ((0 ≤ a ∧ a < X 1 0) ∧ 0 ≤ b ∧ b < X 1 0) → wpX9_road a b t M (fun r1 MR1 => -2 = r1 ∧ Inv X MR1) := fun q => by
    unfold wpX9_road jbX9_road_16
    refine pl_R B R (fun p0 p1 => ⟨fun c => by omega, fun _ => ?_⟩) (fun _ => ⟨fun _ => ⟨rfl, I⟩, fun c => absurd rfl c⟩)
    exact pl_R B R (fun q0 q1 => absurd ⟨⟨p0, p1⟩, q0, q1⟩ q) (fun _ => ⟨fun c => absurd rfl c, fun _ => ⟨rfl, I⟩⟩)
  refine X3_has (fun p0 p1 => ⟨fun c => by omega, fun _ => ?_⟩) (fun q => ⟨fun _ => bad (fun c => q c.1), fun c => absurd rfl c⟩)
  refine X3_has (fun q0 q1 => ⟨fun _ => ?_, fun c => by omega⟩) (fun q => ⟨fun c => absurd rfl c, fun _ => bad (fun c => q c.2)⟩)
  have out : ¬ ((1 ≤ t ∧ t ≤ 1000) ∧ ¬ a = b) → wpX9_road a b t M (fun r1 MR1 => -3 = r1 ∧ Inv X MR1) := fun q => by
    unfold wpX9_road jbX9_road_35
    refine pl_R B R (fun _ _ => ⟨fun c => by omega, fun _ => ?_⟩) (fun c => absurd ⟨p0, p1⟩ c)
    refine pl_R B R (fun _ _ => ⟨fun _ => ?_, fun c => by omega⟩) (fun c => absurd ⟨q0, q1⟩ c)
    exact X9_in (fun c1 c2 => ⟨fun c => by omega, fun _ => ⟨fun c3 => absurd ⟨⟨c1, c2⟩, c3⟩ q, fun _ => ⟨rfl, I⟩⟩⟩) (fun _ => ⟨fun _ => ⟨rfl, I⟩, fun c => absurd rfl c⟩)
  have in_ : ∀ {post : Int → Mem → Prop}, 1 ≤ t → t ≤ 1000 → ¬ a = b → (¬ X 1 1 = 30 → wpX9_keep 1 (M 0 1) 0 M (fun N => (0 ≤ N 0 1 ∧ N 0 1 < 30) ∧ ∀ N1 : Mem, N1 = mset N 1 (N 0 1) a → (0 ≤ N1 0 1 ∧ N1 0 1 < 30) ∧ ∀ N2 : Mem, N2 = mset N1 2 (N1 0 1) b → (0 ≤ N2 0 1 ∧ N2 0 1 < 30) ∧ ∀ N3 : Mem, N3 = mset N2 3 (N2 0 1) t → inR (N3 0 1 + 1) ∧ ∀ N4 : Mem, N4 = mset N3 0 1 (N3 0 1 + 1) → inR (N4 0 1 - 1) ∧ post (N4 0 1 - 1) N4)) → (X 1 1 = 30 → post (-5) M) → wpX9_road a b t M post := fun {post} t1 t2 hab h1 h2 => by
    unfold wpX9_road
    refine pl_R B R (fun _ _ => ⟨fun c => by omega, fun _ => ?_⟩) (fun c => absurd ⟨p0, p1⟩ c)
    refine pl_R B R (fun _ _ => ⟨fun _ => ?_, fun c => by omega⟩) (fun c => absurd ⟨q0, q1⟩ c)
    exact X9_in (fun c1 c2 => ⟨fun c => by omega, fun _ => ⟨fun _ => ⟨fun z => h1 (by omega), fun z => h2 (by omega)⟩, fun c3 => absurd c3 hab⟩⟩) (fun c => absurd ⟨t1, t2⟩ c)
  refine ⟨fun c => out (by omega), fun c => ⟨fun c2 => out (by omega), fun c2 => ⟨fun c3 => ⟨fun g => ?_, fun g => in_ (by omega) (by omega) c3 (fun z => by omega) (fun _ => ⟨rfl, I⟩)⟩, fun c3 => out (fun z => z.2 c3)⟩⟩⟩
  unfold wpX3_addRoad
  intro v hv
  refine ⟨by omega, fun Y1 f1 => ⟨by omega, fun Y2 f2 => ⟨by omega, fun Y3 f3 => ?_⟩⟩⟩
  have z11 : Y3 1 1 = X 1 1 := by rw [f3, mset_r (by omega), f2, mset_r (by omega), f1, mset_r (by omega)]
  rw [z11]
  refine ⟨by omega, fun Y f4 => ?_⟩
  have y0 : ∀ k i : Int, k ≠ 15 → k ≠ 16 → k ≠ 17 → (k = 1 → i ≠ 1) → Y k i = X k i := fun k i q1 q2 q3 q4 => by
    have : Y k i = Y3 k i := by rw [f4]; exact if_neg (fun z => q4 z.1 z.2)
    rw [this, f3, mset_r q3, f2, mset_r q2, f1, mset_r q1]
  have y11 : Y 1 1 = X 1 1 + 1 := by rw [f4, mset_s]
  have ya : Y 15 v = a ∧ Y 16 v = b ∧ Y 17 v = t := by
    refine ⟨?_, ?_, ?_⟩
    · rw [f4, mset_r (by omega), f3, mset_r (by omega), f2, mset_r (by omega), f1, mset_s]
    · rw [f4, mset_r (by omega), f3, mset_r (by omega), f2, mset_s]
    · rw [f4, mset_r (by omega), f3, mset_s]
  have yn : ∀ j : Int, j ≠ v → Y 15 j = X 15 j ∧ Y 16 j = X 16 j ∧ Y 17 j = X 17 j := fun j q => by
    refine ⟨?_, ?_, ?_⟩
    · rw [f4, mset_r (by omega), f3, mset_r (by omega), f2, mset_r (by omega), f1, mset_i q]
    · rw [f4, mset_r (by omega), f3, mset_r (by omega), f2, mset_i q, f1, mset_r (by omega)]
    · rw [f4, mset_r (by omega), f3, mset_i q, f2, mset_r (by omega), f1, mset_r (by omega)]
  have hR : Rds (X 1 0) (X 1 1 + 1) (Y 15) (Y 16) (Y 17) := fun j p q => by
    by_cases e : j = v
    · rw [e, ya.1, ya.2.1, ya.2.2]; exact ⟨p0, p1, q0, q1, c3, by omega, by omega⟩
    · rw [(yn j e).1, (yn j e).2.1, (yn j e).2.2]; exact w.2.2.2.1 j p (by omega)
  refine X3_measure (n := X 1 0) (r := X 1 1 + 1) (U := Y 15) (V := Y 16) (L := Y 17) w.1 (by omega) hR (y0 1 0 (by omega) (by omega) (by omega) (by omega)) y11 (fun j _ _ => ⟨rfl, rfl, rfl⟩) (fun X1 hO h40 h50 => ?_)
  have x1 : ∀ k i : Int, (k < 40 ∨ 60 ≤ k) → k ≠ 15 → k ≠ 16 → k ≠ 17 → (k = 1 → i ≠ 1) → X1 k i = X k i := fun k i q q1 q2 q3 q4 => by rw [hO k i q]; exact y0 k i q1 q2 q3 q4
  have xr : ∀ k : Int, (k < 40 ∨ 60 ≤ k) → X1 k = Y k := fun k q => funext (fun i => hO k i q)
  have x10 : X1 1 0 = X 1 0 := x1 1 0 (by omega) (by omega) (by omega) (by omega) (by omega)
  have x11 : X1 1 1 = X 1 1 + 1 := by rw [hO 1 1 (by omega)]; exact y11
  refine note_X B (fun k i q => x1 k i (by omega) (by omega) (by omega) (by omega) (by omega)) (fun j p q => by rw [xr 15 (by omega), xr 16 (by omega), xr 17 (by omega)]; exact yn j (by omega)) ?_ (vld_1 (by show 1 ≤ X1 1 1; omega)) ?_ (fun u v p q s t => by rw [x1 (60 + u) v (by omega) (by omega) (by omega) (by omega) (by omega), x10]; exact B.2.2.2.1 u v p q s t) (fun u v p q s t => ?_) ?_ (fun X2 c d B2 P2 Q2 r2 r11 H => ?_)
  · rw [xr 15 (by omega), xr 16 (by omega), xr 17 (by omega)]
    exact wf_X x10 x11 (x1 2 0 (by omega) (by omega) (by omega) (by omega) (by omega)) w.1 (by omega) w.2.2.1 hR (fun g q y0 y1 y2 y3 => by rw [x1 (80 + g) q (by omega) (by omega) (by omega) (by omega) (by omega)]; exact w.2.2.2.2.1 g q y0 y1 y2 y3) (fun q y0 y1 => by rw [x1 18 q (by omega) (by omega) (by omega) (by omega) (by omega)]; exact w.2.2.2.2.2 q y0 y1)
  · show ceq (coX X) ((X1 1 0, X1 1 1 - 1, X1 2 0), (fun g q => X1 (80 + g) q), X1 18)
    refine ⟨?_, fun g q y0 y1 y2 y3 => x1 (80 + g) q (by omega) (by omega) (by omega) (by omega) (by omega), fun q _ _ => x1 18 q (by omega) (by omega) (by omega) (by omega) (by omega)⟩
    show ((X1 1 0, X1 1 1 - 1, X1 2 0) : Int × Int × Int) = (X 1 0, X 1 1, X 2 0)
    rw [x10, x11, x1 2 0 (by omega) (by omega) (by omega) (by omega) (by omega), show X 1 1 + 1 - 1 = X 1 1 by omega]
  · rw [xr 15 (by omega), xr 16 (by omega), xr 17 (by omega), x11]
    rw [x10] at q t
    exact h40 u v p q s t
  · rw [xr 15 (by omega), xr 16 (by omega), xr 17 (by omega), x11, x10]
    exact h50
  · refine in_ (by omega) (by omega) c3 (fun _ => note_R B R H (fun M1 o1 N => ?_)) (fun z => by omega)
    have m01 : M1 0 1 = v := by rw [o1 0 1 (by omega) (by omega)]; omega
    rw [m01]
    refine ⟨by omega, fun M2 e2 => ?_⟩
    have m02 : M2 0 1 = v := by rw [e2, mset_r (by omega)]; exact m01
    rw [m02]
    refine ⟨by omega, fun M3 e3 => ?_⟩
    have m03 : M3 0 1 = v := by rw [e3, mset_r (by omega)]; exact m02
    rw [m03]
    refine ⟨by omega, fun M4 e4 => ?_⟩
    have m04 : M4 0 1 = v := by rw [e4, mset_r (by omega)]; exact m03
    rw [m04]
    refine ⟨by omega, fun M5 e5 => ?_⟩
    have m05 : M5 0 1 = v + 1 := by rw [e5, mset_s]
    rw [m05]
    have o5 : ∀ k i : Int, k ≠ 1 → k ≠ 2 → k ≠ 3 → (k = 0 → i ≠ 1) → M5 k i = M1 k i := fun k i z1 z2 z3 z4 => by
      have : M5 k i = M4 k i := by rw [e5]; exact if_neg (fun z => z4 z.1 z.2)
      rw [this, e4, mset_r z3, e3, mset_r z2, e2, mset_r z1]
    have om : ∀ k i : Int, (k = 0 → i ≠ 1 ∧ i ≠ 10) → k ≠ 1 → k ≠ 2 → k ≠ 3 → (k < 7 ∨ 9 < k) → M5 k i = M k i := fun k i z z1 z2 z3 z4 => by rw [o5 k i z1 z2 z3 (fun c => (z c).1)]; exact o1 k i z4 (fun c => (z c).2)
    have N5 := hsr_keep (M2 := M5) (fun k i z => o5 k i (by omega) (by omega) (by omega) (by omega)) N
    have rw5 : ∀ j : Int, M5 1 j = (if j = v then a else M1 1 j) ∧ M5 2 j = (if j = v then b else M1 2 j) ∧ M5 3 j = (if j = v then t else M1 3 j) := fun j => by
      by_cases e : j = v
      · rw [if_pos e, if_pos e, if_pos e, e]
        refine ⟨?_, ?_, ?_⟩
        · rw [e5, mset_r (by omega), e4, mset_r (by omega), e3, mset_r (by omega), e2, mset_s]
        · rw [e5, mset_r (by omega), e4, mset_r (by omega), e3, mset_s]
        · rw [e5, mset_r (by omega), e4, mset_s]
      · rw [if_neg e, if_neg e, if_neg e]
        refine ⟨?_, ?_, ?_⟩
        · rw [e5, mset_r (by omega), e4, mset_r (by omega), e3, mset_r (by omega), e2, mset_i e]
        · rw [e5, mset_r (by omega), e4, mset_r (by omega), e3, mset_i e, e2, mset_r (by omega)]
        · rw [e5, mset_r (by omega), e4, mset_i e, e3, mset_r (by omega), e2, mset_r (by omega)]
    refine ⟨by omega, by omega, B2, ⟨⟨?_, ?_, ?_, ?_, by rw [N5.1, H.2.2.1]⟩, fun j p z => ?_, fun g q y0 y1 y2 y3 => ?_, fun q y0 y1 => ?_, fun u v y0 y1 y2 y3 => ?_, hist_R B R H N5 rfl (by rw [if_neg (by decide)]; omega) (fun z => absurd z (by decide))⟩, P2, Q2⟩
    · rw [om 0 0 (by omega) (by omega) (by omega) (by omega) (by omega), r2 1 0 (by omega) (by omega) (by omega), x10]; exact R.1.1
    · rw [m05, r2 1 1 (by omega) (by omega) (by omega), x11, hv]
    · rw [om 0 5 (by omega) (by omega) (by omega) (by omega) (by omega), r2 2 0 (by omega) (by omega) (by omega), x1 2 0 (by omega) (by omega) (by omega) (by omega) (by omega)]; exact R.1.2.2.1
    · rw [om 0 9 (by omega) (by omega) (by omega) (by omega) (by omega), r11, x1 0 11 (by omega) (by omega) (by omega) (by omega) (by omega)]; exact R.1.2.2.2.1
    · rw [r2 1 1 (by omega) (by omega) (by omega), x11] at z
      rw [r2 15 j (by omega) (by omega) (by omega), r2 16 j (by omega) (by omega) (by omega), r2 17 j (by omega) (by omega) (by omega), xr 15 (by omega), xr 16 (by omega), xr 17 (by omega), (rw5 j).1, (rw5 j).2.1, (rw5 j).2.2]
      by_cases e : j = v
      · rw [if_pos e, if_pos e, if_pos e, e, ya.1, ya.2.1, ya.2.2]; exact ⟨rfl, rfl, rfl⟩
      · rw [if_neg e, if_neg e, if_neg e, (yn j e).1, (yn j e).2.1, (yn j e).2.2, o1 1 j (by omega) (by omega), o1 2 j (by omega) (by omega), o1 3 j (by omega) (by omega)]
        exact R.2.1 j p (by omega)
    · rw [om 4 _ (by omega) (by omega) (by omega) (by omega) (by omega), r2 (80 + g) q (by omega) (by omega) (by omega), x1 (80 + g) q (by omega) (by omega) (by omega) (by omega) (by omega)]
      exact R.2.2.1 g q y0 y1 y2 y3
    · rw [om 5 q (by omega) (by omega) (by omega) (by omega) (by omega), r2 18 q (by omega) (by omega) (by omega), x1 18 q (by omega) (by omega) (by omega) (by omega) (by omega)]; exact R.2.2.2.1 q y0 y1
    · rw [om 6 _ (by omega) (by omega) (by omega) (by omega) (by omega), r2 (60 + u) v (by omega) (by omega) (by omega), x1 (60 + u) v (by omega) (by omega) (by omega) (by omega) (by omega)]; exact R.2.2.2.2.1 u v y0 y1 y2 y3
