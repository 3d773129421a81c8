/-! the calls that only ask -/
theorem ff_R {X M : Mem} (B : BsX X) (R : BsR X M) {post : Mem → Prop} (h : ∀ M' : Mem, OffT M M' → Ds (X 1 0) (dr 1000000000 (X 1 1) (X 15) (X 16) (X 17)) 1000000000 (fun u v => M' 10 (10 * u + v)) → post M') : wpX9_findFar M post := by
  have w := bsx_wf B
  exact X9_findFar w.1 w.2.1 w.2.2.2.1 R.1.1 R.1.2.1 R.2.1 h
theorem pl_R {X M : Mem} (B : BsX X) (R : BsR X M) {a : Int} {post : Int → Mem → Prop} (h1 : 0 ≤ a → a < X 1 0 → post 1 M) (h0 : ¬ (0 ≤ a ∧ a < X 1 0) → post 0 M) : wpX9_isPlace a M post := by
  have w := bsx_wf B
  have e := R.1.1
  exact X9_isPlace (by rw [e]; exact w.1) (fun p q => h1 p (by omega)) (fun p => h0 (by rw [e] at p; exact p))
theorem hp_R {X M : Mem} (B : BsX X) (R : BsR X M) {a : Int} {post : Int → Mem → Prop} (h1 : 0 ≤ a → a < X 2 0 → post 1 M) (h0 : ¬ (0 ≤ a ∧ a < X 2 0) → post 0 M) : wpX9_isHeap a M post := by
  have w := bsx_wf B
  have e := R.1.2.2.1
  exact X9_isHeap (by rw [e]; exact w.2.2.1) (fun p q => h1 p (by omega)) (fun p => h0 (by rw [e] at p; exact p))
theorem s_apart : St_apart Inv := by
  intro a1 a2 X M _ _ I
  obtain ⟨B, R, P, Q⟩ := id I
  have w := bsx_wf B
  unfold wpX8_apart jbX8_apart_22 jbX8_apart_48
  have bad : ¬ ((0 ≤ a1 ∧ a1 < X 1 0) ∧ 0 ≤ a2 ∧ a2 < X 1 0) → wpX9_apart a1 a2 M (fun r1 MR1 => -2 = r1 ∧ Inv X MR1) := fun q => by
    unfold wpX9_apart jbX9_apart_16
    refine pl_R B R (fun p0 p1 => ⟨fun c => by omega, fun _ => ?_⟩) (fun _ => ⟨fun _ => ⟨rfl, I⟩, fun c => absurd rfl c⟩)
    exact pl_R B R (fun q0 q1 => absurd ⟨⟨p0, p1⟩, q0, q1⟩ q) (fun _ => ⟨fun c => absurd rfl c, fun _ => ⟨rfl, I⟩⟩)
  refine X3_has (fun p0 p1 => ⟨fun c => by omega, fun _ => ?_⟩) (fun q => ⟨fun _ => bad (fun c => q c.1), fun c => absurd rfl c⟩)
  refine X3_has (fun q0 q1 => ⟨fun _ => ⟨by omega, by omega, fun v hv => ?_⟩, fun c => by omega⟩) (fun q => ⟨fun c => absurd rfl c, fun _ => bad (fun c => q c.2)⟩)
  have good : ∀ t : Int, (X (50 + a1) a2 < 1000000 → t = X (50 + a1) a2) → (X (50 + a1) a2 = 1000000 → t = -1) → wpX9_apart a1 a2 M (fun r1 MR1 => t = r1 ∧ Inv X MR1) := fun t t1 t2 => by
    unfold wpX9_apart jbX9_apart_54
    refine pl_R B R (fun _ _ => ⟨fun c => by omega, fun _ => ?_⟩) (fun c => absurd ⟨p0, p1⟩ c)
    refine pl_R B R (fun _ _ => ⟨fun _ => ?_, fun c => by omega⟩) (fun c => absurd ⟨q0, q1⟩ c)
    refine ff_R B R (fun M' hO E => ⟨by omega, fun c => ⟨by omega, ?_, inv_q I (Qx_refl X) (offT_kr hO)⟩, fun c => ⟨?_, inv_q I (Qx_refl X) (offT_kr hO)⟩⟩)
    · have z := far_two B E p0 p1 q0 q1
      have y := z.1.mpr c
      rw [t1 y]; exact z.2 y
    · have z := far_two B E p0 p1 q0 q1
      have x := (B.2.2.2.2.2.2.1 a1 a2 p0 p1 q0 q1).2.1
      have x : X (50 + a1) a2 ≤ 1000000 := x
      exact t2 (by by_cases y : X (50 + a1) a2 < 1000000; exact absurd (z.1.mp y) c; omega)
  have x := (B.2.2.2.2.2.2.1 a1 a2 p0 p1 q0 q1).2.1
  have x : X (50 + a1) a2 ≤ 1000000 := x
  exact ⟨fun c => good v (fun _ => hv) (fun c2 => by omega), fun c => good (-1) (fun c2 => by omega) (fun _ => rfl)⟩
theorem hd_X {X : Mem} (B : BsX X) : ∀ x y : Int, 0 ≤ x → x < X 1 0 → 0 ≤ y → y < X 1 0 → (0 ≤ X (40 + x) y ∧ X (40 + x) y ≤ 1000000) ∧ 0 ≤ X (50 + x) y ∧ X (50 + x) y ≤ 1000000 := fun x y a b c d => by
  have w := bsx_wf B
  have e := B.2.2.2.2.1 x y a b c d
  have p := dr_pos (K := 1000000) (by omega) w.2.2.2.1 x y
  have q := dr_le 1000000 (X 1 1) (X 15) (X 16) (X 17) x y
  have z := B.2.2.2.2.2.2.1 x y a b c d
  exact ⟨by omega, z.1, z.2.1⟩
theorem nx_ex (n : Nat) (p : Int → Prop) : ∃ r : Int, Nx n p r := by
  induction n with
  | zero => exact ⟨-1, Or.inl ⟨rfl, fun w a b => by omega⟩⟩
  | succ n ih =>
    obtain ⟨r, h⟩ := ih
    rcases h with ⟨a, b⟩ | ⟨a, b, c, d⟩
    · by_cases q : p n
      · exact ⟨n, Or.inr ⟨by omega, by omega, q, fun w x y => b w x (by omega)⟩⟩
      · refine ⟨-1, Or.inl ⟨rfl, fun w x y z => ?_⟩⟩
        by_cases e : w = n
        · exact q (by rw [← e]; exact z)
        · exact b w x (by omega) z
    · exact ⟨r, Or.inr ⟨a, by omega, c, d⟩⟩
theorem s_next : St_next Inv := by
  intro a1 a2 X M _ _ I
  obtain ⟨B, R, P, Q⟩ := id I
  have w := bsx_wf B
  unfold wpX8_next jbX8_next_22
  have bad : ¬ ((0 ≤ a1 ∧ a1 < X 1 0) ∧ 0 ≤ a2 ∧ a2 < X 1 0) → wpX9_next a1 a2 M (fun r1 MR1 => -2 = r1 ∧ Inv X MR1) := fun q => by
    unfold wpX9_next jbX9_next_16
    refine pl_R B R (fun p0 p1 => ⟨fun c => by omega, fun _ => ?_⟩) (fun _ => ⟨fun _ => ⟨rfl, I⟩, fun c => absurd rfl c⟩)
    exact pl_R B R (fun q0 q1 => absurd ⟨⟨p0, p1⟩, q0, q1⟩ q) (fun _ => ⟨fun c => absurd rfl c, fun _ => ⟨rfl, I⟩⟩)
  refine X3_has (fun p0 p1 => ⟨fun c => by omega, fun _ => ?_⟩) (fun q => ⟨fun _ => bad (fun c => q c.1), fun c => absurd rfl c⟩)
  refine X3_has (fun q0 q1 => ⟨fun _ => ?_, fun c => by omega⟩) (fun q => ⟨fun c => absurd rfl c, fun _ => bad (fun c => q c.2)⟩)
  refine X3_placeBehind w.1 rfl ⟨p0, p1⟩ ⟨q0, q1⟩ (hd_X B) (fun r hr => ?_)
  unfold wpX9_next
  refine pl_R B R (fun _ _ => ⟨fun c => by omega, fun _ => ?_⟩) (fun c => absurd ⟨p0, p1⟩ c)
  refine pl_R B R (fun _ _ => ⟨fun _ => ?_, fun c => by omega⟩) (fun c => absurd ⟨q0, q1⟩ c)
  refine ff_R B R (fun M' hO E => ?_)
  have R' := offT_bsr B R hO
  refine X9_nextTo w.1 w.2.1 w.2.2.2.1 R'.1.2.1 R'.2.1 ⟨p0, p1⟩ ⟨q0, q1⟩ (fun x y a b c d => ?_) (fun t ht => ⟨?_, inv_q I (Qx_refl X) (offT_kr hO)⟩)
  · have z := E.2.1 x y a b c d
    exact ⟨z.1, z.2.1⟩
  · exact nx_one (fun v a b => nx_same (d := fun u v => X (50 + u) v) (dir := fun u v => X (40 + u) v) w.1 w.2.2.2.1 B.2.2.2.2.1 B.2.2.2.2.2 E ⟨p0, p1⟩ ⟨q0, q1⟩ ⟨a, b⟩) hr ht
theorem s_amount : St_amount Inv := by
  intro a1 a2 X M _ _ I
  obtain ⟨B, R, P, Q⟩ := id I
  have w := bsx_wf B
  unfold wpX8_amount jbX8_amount_22
  have bad : ¬ ((0 ≤ a1 ∧ a1 < X 2 0) ∧ 0 ≤ a2 ∧ a2 < X 1 0) → wpX9_amount a1 a2 M (fun r1 MR1 => -2 = r1 ∧ Inv X MR1) := fun q => by
    unfold wpX9_amount jbX9_amount_30 jbX9_amount_32
    refine hp_R B R (fun p0 p1 => ⟨fun c => by omega, fun _ => ?_⟩) (fun _ => ⟨fun _ => ⟨rfl, I⟩, fun c => absurd rfl c⟩)
    exact pl_R B R (fun q0 q1 => absurd ⟨⟨p0, p1⟩, q0, q1⟩ q) (fun _ => ⟨fun _ => ⟨rfl, I⟩, fun c => absurd rfl c⟩)
  refine X2_has (fun p0 p1 => ⟨fun c => by omega, fun _ => ?_⟩) (fun q => ⟨fun _ => bad (fun c => q c.1), fun c => absurd rfl c⟩)
  refine X3_has (fun q0 q1 => ⟨fun _ => ⟨by omega, by omega, ?_⟩, fun c => by omega⟩) (fun q => ⟨fun c => absurd rfl c, fun _ => bad (fun c => q c.2)⟩)
  unfold wpX9_amount jbX9_amount_32
  refine hp_R B R (fun _ _ => ⟨fun c => by omega, fun _ => ?_⟩) (fun c => absurd ⟨p0, p1⟩ c)
  exact pl_R B R (fun _ _ => ⟨fun c => by omega, fun _ => ⟨by omega, (R.2.2.1 a1 a2 p0 (by omega) q0 (by omega)).symm, I⟩⟩) (fun c => absurd ⟨q0, q1⟩ c)
theorem s_sum : St_sum Inv := by
  intro a1 X M _ I
  obtain ⟨B, R, P, Q⟩ := id I
  have w := bsx_wf B
  unfold wpX8_sum
  refine X2_has (fun p0 p1 => ⟨fun _ => tot_X B (by omega) ?_, fun c => by omega⟩) (fun q => ⟨fun c => absurd rfl c, fun _ => ?_⟩)
  · unfold wpX9_sum jbX9_sum_18
    exact hp_R B R (fun _ _ => ⟨fun c => by omega, fun _ => tot_R B R (by omega) ⟨rfl, I⟩⟩) (fun c => absurd ⟨p0, p1⟩ c)
  · unfold wpX9_sum jbX9_sum_18
    exact hp_R B R (fun p0 p1 => absurd ⟨p0, p1⟩ q) (fun c => ⟨fun _ => ⟨rfl, I⟩, fun c => absurd rfl c⟩)
theorem s_beside : St_beside Inv := by
  intro X M I
  exact ⟨I.2.1.1.2.2.2.1.symm, I⟩
theorem s_count : St_count Inv := by
  intro a1 X M _ I
  obtain ⟨B, R, P, Q⟩ := id I
  have w := bsx_wf B
  unfold wpX8_count
  refine ⟨fun c => ?_, fun c => ?_, fun c => ?_, fun c => ?_, fun c => ?_, fun c => ?_, fun c => ?_⟩
  · unfold wpX9_count
    exact ⟨fun _ => ⟨R.1.1.symm, I⟩, fun _ => by omega, fun _ => by omega, fun _ => by omega, fun _ => by omega, fun _ => by omega, fun _ => by omega⟩
  · unfold wpX9_count
    exact ⟨fun _ => by omega, fun _ => ⟨R.1.2.1.symm, I⟩, fun _ => by omega, fun _ => by omega, fun _ => by omega, fun _ => by omega, fun _ => by omega⟩
  · unfold wpX9_count
    exact ⟨fun _ => by omega, fun _ => by omega, fun _ => ⟨R.1.2.2.1.symm, I⟩, fun _ => by omega, fun _ => by omega, fun _ => by omega, fun _ => by omega⟩
  · refine X3_gates w.1 rfl ?_
    unfold wpX9_count
    refine ⟨fun _ => by omega, fun _ => by omega, fun _ => by omega, fun _ => ?_, fun _ => by omega, fun _ => by omega, fun _ => by omega⟩
    have e0 := R.1.1
    have key : ∀ (k : Nat) (x : Int), 0 ≤ x → x ≤ X 1 0 → X 1 0 - x < k → lpX9_count_59 (fun r1 MR1 => su (X 1 0) (fun v => if X 18 v = -1 then (0 : Int) else 1) = r1 ∧ Inv X MR1) k (su x (fun v => if X 18 v = -1 then (0 : Int) else 1)) x M := by
      intro k
      induction k with
      | zero => intro x _ _ g; omega
      | succ k ih =>
        intro x x0 x1 hk
        unfold lpX9_count_59 jbX9_count_83
        have b := su_bnd (n := x) (B := 1) (f := fun v => if X 18 v = -1 then (0 : Int) else 1) x0 (fun v _ _ => by split <;> omega)
        have ih' := fun (g : ¬ X 1 0 ≤ x) => ih (x + 1) (by omega) (by omega) (by omega)
        rw [su_s x0] at ih'
        rw [e0]
        refine ⟨fun g => ⟨by rw [show x = X 1 0 by omega], I⟩, fun g => ⟨by omega, fun q => ⟨by omega, fun z hz => ⟨by omega, ?_⟩⟩, fun q => ⟨by omega, fun z hz => ⟨by omega, ?_⟩⟩⟩⟩
        · have := ih' g
          rw [R.2.2.2.1 x x0 (by omega)] at q
          rw [if_pos q] at this
          rw [hz]; exact this
        · have := ih' g
          rw [R.2.2.2.1 x x0 (by omega)] at q
          rw [if_neg q] at this
          rw [hz]; exact this
    have := key 11 0 (by omega) (by omega) (by omega)
    rw [su_0] at this
    exact ⟨11, this⟩
  · unfold wpX9_count
    exact ⟨fun _ => by omega, fun _ => by omega, fun _ => by omega, fun _ => by omega, fun _ => ⟨R.1.2.2.2.2.symm, I⟩, fun _ => by omega, fun _ => by omega⟩
  · have g : ∀ t : Int, (JnX X → t = 1) → (¬ JnX X → t = 0) → wpX9_count a1 M (fun r1 MR1 => t = r1 ∧ Inv X MR1) := fun t t1 t0 => by
      unfold wpX9_count jbX9_count_110
      refine ⟨fun _ => by omega, fun _ => by omega, fun _ => by omega, fun _ => by omega, fun _ => by omega, fun _ => ?_, fun _ => by omega⟩
      exact jn_R B R (fun M' hO J _ _ => ⟨fun q => by omega, fun _ => ⟨t1 J, inv_q I (Qx_refl X) (offT_kr hO)⟩⟩) (fun M' hO J => ⟨fun _ => ⟨t0 J, inv_q I (Qx_refl X) (offT_kr hO)⟩, fun q => absurd rfl q⟩)
    unfold jbX8_count_95
    exact jn_X B (fun J => ⟨fun q => by omega, fun _ => g 1 (fun _ => rfl) (fun q => absurd J q)⟩) (fun J => ⟨fun _ => g 0 (fun q => absurd q J) (fun _ => rfl), fun q => absurd rfl q⟩)
  · unfold wpX9_count
    exact ⟨fun _ => by omega, fun _ => by omega, fun _ => by omega, fun _ => by omega, fun _ => by omega, fun _ => by omega, fun _ => ⟨rfl, I⟩⟩
