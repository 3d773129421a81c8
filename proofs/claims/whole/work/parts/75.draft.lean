/-! the draft -/
theorem inv_d {X X' M M' : Mem} (I : Inv X M) (hw : ∀ k i : Int, ((1 ≤ k ∧ k ≤ 7) ∨ (15 ≤ k ∧ k ≤ 23) ∨ k = 27 ∨ (40 ≤ k ∧ k < 60) ∨ (70 ≤ k ∧ k < 88)) → X' k i = X k i) (h0 : ∀ i : Int, i ≠ 11 → X' 0 i = X 0 i) (hd : ∀ u v : Int, 0 ≤ u → u < 10 → 0 ≤ v → v < 10 → (0 ≤ X' (60 + u) v ∧ X' (60 + u) v ≤ 10000) ∧ ((X 1 0 ≤ u ∨ X 1 0 ≤ v) → X' (60 + u) v = 0)) (hr : ∀ k i : Int, 1 ≤ k → k ≤ 9 → k ≠ 6 → M' k i = M k i) (hr0 : ∀ i : Int, i ≤ 10 → i ≠ 9 → M' 0 i = M 0 i) (h9 : M' 0 9 = X' 0 11) (h6 : ∀ u v : Int, 0 ≤ u → u < 10 → 0 ≤ v → v < 10 → M' 6 (10 * u + v) = X' (60 + u) v) : Inv X' M' := by
  obtain ⟨B, R, P, Q⟩ := I
  have w := bsx_wf B
  -- a memory between: the drafts and what was told as they were
  obtain ⟨Y, eY⟩ : ∃ Y : Mem, Y = fun k i => if (60 ≤ k ∧ k < 70) ∨ (k = 0 ∧ i = 11) then X k i else X' k i := ⟨_, rfl⟩
  have y1 : ∀ k i : Int, ((60 ≤ k ∧ k < 70) ∨ (k = 0 ∧ i = 11)) → Y k i = X k i := fun k i q => by rw [eY]; exact if_pos q
  have y2 : ∀ k i : Int, ¬ ((60 ≤ k ∧ k < 70) ∨ (k = 0 ∧ i = 11)) → Y k i = X' k i := fun k i q => by rw [eY]; exact if_neg q
  have qY : Qx X Y := fun k i q => by
    by_cases c : (60 ≤ k ∧ k < 70) ∨ (k = 0 ∧ i = 11)
    · exact y1 k i c
    · rw [y2 k i c]
      by_cases e : k = 0
      · subst e; exact h0 i (by omega)
      · exact hw k i (by omega)
  obtain ⟨B2, R2, P2, Q2⟩ := inv_q ⟨B, R, P, Q⟩ qY (Kr_refl M)
  have row : ∀ k : Int, k ≠ 0 → ¬ (60 ≤ k ∧ k < 70) → X' k = Y k := fun k q q2 => funext (fun i => (y2 k i (by omega)).symm)
  have zer : ∀ i : Int, i ≠ 11 → X' 0 i = Y 0 i := fun i q => (y2 0 i (by omega)).symm
  have erc : rcX X' = rcX Y := by
    funext i
    unfold rcX
    rw [row 3 (by omega) (by omega), row 19 (by omega) (by omega), row 20 (by omega) (by omega), row 21 (by omega) (by omega), row 22 (by omega) (by omega)]
  have edX : dX X' = dX Y := by
    funext u v
    unfold dX
    by_cases c : 0 ≤ u ∧ u < 10
    · rw [if_pos c, if_pos c, row (50 + u) (by omega) (by omega)]
    · rw [if_neg c, if_neg c]
  have eGX : GX X' = GX Y := GX_eq (fun c p q => row (70 + c) (by omega) (by omega))
  have e10 : X 1 0 = Y 1 0 := (qY 1 0 (by omega)).symm
  refine ⟨?_, ?_, ?_, ?_⟩
  · obtain ⟨g1, g2, g3, g4, g5, g6⟩ := B2
    have wY := bsx_wf ⟨g1, g2, g3, g4, g5, g6⟩
    unfold BsX
    rw [erc, row 15 (by omega) (by omega), row 16 (by omega) (by omega), row 17 (by omega) (by omega), row 3 (by omega) (by omega), row 1 (by omega) (by omega)]
    refine ⟨chn_ceq ⟨?_, fun g p x y z t => ?_, fun p x y => ?_⟩ g1, g2, g3, fun u v a b c d => by rw [← e10]; exact hd u v a b c d, fun u v a b c d => ?_, Ds_ext (fun u v a b c d => ?_) g6⟩
    · show ((X' 1 0, X' 1 1, X' 2 0) : Int × Int × Int) = (Y 1 0, Y 1 1, Y 2 0)
      rw [row 1 (by omega) (by omega), row 2 (by omega) (by omega)]
    · show X' (80 + g) p = Y (80 + g) p
      rw [row (80 + g) (by omega) (by omega)]
    · show X' 18 p = Y 18 p
      rw [row 18 (by omega) (by omega)]
    · rw [row (40 + u) (by omega) (by omega)]; exact g5 u v a b c d
    · show X' (50 + u) v = Y (50 + u) v
      rw [row (50 + u) (by omega) (by omega)]
  · obtain ⟨⟨a1, a2, a3, a4, a5⟩, b, c, d, e, f⟩ := R2
    unfold BsR
    rw [erc, row 15 (by omega) (by omega), row 16 (by omega) (by omega), row 17 (by omega) (by omega), row 3 (by omega) (by omega), row 1 (by omega) (by omega), row 2 (by omega) (by omega), row 18 (by omega) (by omega)]
    refine ⟨⟨?_, ?_, ?_, h9, ?_⟩, fun j p q => ?_, fun g p x y z w => ?_, fun p x y => ?_, h6, fun i p q => ?_⟩
    · rw [hr0 0 (by omega) (by omega)]; exact a1
    · rw [hr0 1 (by omega) (by omega)]; exact a2
    · rw [hr0 5 (by omega) (by omega)]; exact a3
    · rw [hr0 10 (by omega) (by omega)]; exact a5
    · rw [hr 1 j (by omega) (by omega) (by omega), hr 2 j (by omega) (by omega) (by omega), hr 3 j (by omega) (by omega) (by omega)]; exact b j p q
    · rw [hr 4 _ (by omega) (by omega) (by omega), row (80 + g) (by omega) (by omega)]; exact c g p x y z w
    · rw [hr 5 _ (by omega) (by omega) (by omega)]; exact d p x y
    · rw [hr 7 _ (by omega) (by omega) (by omega), hr 8 _ (by omega) (by omega) (by omega), hr 9 _ (by omega) (by omega) (by omega)]; exact f i p q
  · unfold PcX
    rw [zer 7 (by omega), zer 8 (by omega), edX, eGX, row 1 (by omega) (by omega), row 23 (by omega) (by omega)]
    rcases P2 with q | ⟨q1, q2, q3, q4⟩
    · exact Or.inl q
    · right
      rw [row (80 + Y 0 7) (by omega) (by omega), row (80 + Y 0 8) (by omega) (by omega)]
      exact ⟨q1, q2, q3, q4⟩
  · unfold RhX
    rw [zer 9 (by omega), zer 10 (by omega), edX, row 1 (by omega) (by omega)]
    rcases Q2 with q | ⟨q1, q2, q3⟩
    · exact Or.inl q
    · right
      rw [row (80 + Y 0 9) (by omega) (by omega), row (80 + Y 0 10) (by omega) (by omega)]
      refine ⟨q1, q2, ?_⟩
      unfold RchX at q3 ⊢
      rw [row 7 (by omega) (by omega), row 27 (by omega) (by omega)]
      exact q3
theorem s_draft : St_draft Inv := by
  intro a1 a2 t X M _ _ _ I
  obtain ⟨B, R, P, Q⟩ := id I
  have w := bsx_wf B
  unfold wpX8_draft jbX8_draft_22 jbX8_draft_36
  have bad : ¬ ((0 ≤ a1 ∧ a1 < X 1 0) ∧ 0 ≤ a2 ∧ a2 < X 1 0) → wpX9_draft a1 a2 t M (fun r1 MR1 => -2 = r1 ∧ Inv X MR1) := fun q => by
    unfold wpX9_draft jbX9_draft_16
    refine pl_R B R (fun p0 p1 => ⟨fun c => by omega, fun _ => ?_⟩) (fun _ => ⟨fun _ => ⟨rfl, I⟩, fun c => absurd rfl c⟩)
    exact pl_R B R (fun q0 q1 => absurd ⟨⟨p0, p1⟩, q0, q1⟩ q) (fun _ => ⟨fun c => absurd rfl c, fun _ => ⟨rfl, I⟩⟩)
  refine X3_has (fun p0 p1 => ⟨fun c => by omega, fun _ => ?_⟩) (fun q => ⟨fun _ => bad (fun c => q c.1), fun c => absurd rfl c⟩)
  refine X3_has (fun q0 q1 => ⟨fun _ => ?_, fun c => by omega⟩) (fun q => ⟨fun c => absurd rfl c, fun _ => bad (fun c => q c.2)⟩)
  have out : ¬ (0 ≤ t ∧ t ≤ 10000) → wpX9_draft a1 a2 t M (fun r1 MR1 => -3 = r1 ∧ Inv X MR1) := fun q => by
    unfold wpX9_draft
    refine pl_R B R (fun _ _ => ⟨fun c => by omega, fun _ => ?_⟩) (fun c => absurd ⟨p0, p1⟩ c)
    refine pl_R B R (fun _ _ => ⟨fun _ => ?_, fun c => by omega⟩) (fun c => absurd ⟨q0, q1⟩ c)
    exact X9_in (fun c1 c2 => absurd ⟨c1, c2⟩ q) (fun _ => ⟨fun c => absurd rfl c, fun _ => ⟨rfl, I⟩⟩)
  refine ⟨fun c => out (by omega), fun c => ⟨fun c2 => ⟨by omega, by omega, fun v hv => ⟨by omega, by omega, fun X' eX => ?_⟩⟩, fun c2 => out (by omega)⟩⟩
  unfold wpX9_draft
  refine pl_R B R (fun _ _ => ⟨fun c => by omega, fun _ => ?_⟩) (fun c => absurd ⟨p0, p1⟩ c)
  refine pl_R B R (fun _ _ => ⟨fun _ => ?_, fun c => by omega⟩) (fun c => absurd ⟨q0, q1⟩ c)
  refine X9_in (fun c1 c2 => ⟨fun _ => ⟨by omega, fun z hz => ⟨by omega, fun M' eM => ?_⟩⟩, fun c => by omega⟩) (fun d => absurd ⟨by omega, by omega⟩ d)
  refine ⟨by rw [hv, hz, R.2.2.2.2.1 a1 a2 p0 (by omega) q0 (by omega)], inv_d I (fun k i q => by rw [eX, mset_r (by omega)]) (fun i _ => by rw [eX, mset_r (by omega)]) (fun u v x1 x2 x3 x4 => ?_) (fun k i _ _ q => by rw [eM, mset_r (by omega)]) (fun i _ _ => by rw [eM, mset_r (by omega)]) (by rw [eM, mset_r (by omega), eX, mset_r (by omega)]; exact R.1.2.2.2.1) (fun u v x1 x2 x3 x4 => ?_)⟩
  · by_cases e : u = a1 ∧ v = a2
    · rw [eX, e.1, e.2, mset_s]; omega
    · have : X' (60 + u) v = X (60 + u) v := by rw [eX]; exact if_neg (fun z => e ⟨by omega, z.2⟩)
      rw [this]; exact B.2.2.2.1 u v x1 x2 x3 x4
  · by_cases e : u = a1 ∧ v = a2
    · rw [eX, eM, e.1, e.2, mset_s, mset_s]
    · have h1 : X' (60 + u) v = X (60 + u) v := by rw [eX]; exact if_neg (fun z => e ⟨by omega, z.2⟩)
      rw [h1, eM, mset_i (ix_ne x3 x4 q0 (by omega) e)]
      exact R.2.2.2.2.1 u v x1 x2 x3 x4
theorem su_plus {a : Int} (h : 0 ≤ a) (f : Int → Int) : ∀ k : Nat, su (a + k) f = su a f + su k (fun j => f (a + j)) := by
  intro k
  induction k with
  | zero => rw [show a + ((0 : Nat) : Int) = a by omega, show ((0 : Nat) : Int) = 0 by omega, su_0, Int.add_zero]
  | succ k ih => rw [show a + ((k + 1 : Nat) : Int) = a + (k : Int) + 1 by omega, su_s (by omega), ih, show ((k + 1 : Nat) : Int) = (k : Int) + 1 by omega, su_s (by omega)]; omega
theorem su_grid (f : Int → Int) : ∀ k : Nat, su (10 * k) f = su k (fun u => su 10 (fun v => f (10 * u + v))) := by
  intro k
  induction k with
  | zero => rfl
  | succ k ih =>
    have := su_plus (a := 10 * (k : Int)) (by omega) f 10
    rw [show 10 * ((k + 1 : Nat) : Int) = 10 * (k : Int) + ((10 : Nat) : Int) by omega, this, ih, show ((k + 1 : Nat) : Int) = (k : Int) + 1 by omega, su_s (by omega)]
    rfl
theorem s_clear : St_clear Inv := by
  intro X M I
  obtain ⟨B, R, P, Q⟩ := id I
  have w := bsx_wf B
  unfold wpX8_clear
  refine X1_others (X1_wipe (fun X' hO hz => ?_))
  unfold wpX9_clear
  have key : ∀ (k : Nat) (x : Int) (N : Mem), 0 ≤ x → x ≤ 100 → 100 - x < k → (∀ a i : Int, a ≠ 6 → N a i = M a i) → (∀ i : Int, N 6 i = if 0 ≤ i ∧ i < x then 0 else M 6 i) → lpX9_clear_4 (fun r1 MR1 => su 10 (fun u => su 10 (fun v => if X (60 + u) v = 0 then (0 : Int) else 1)) = r1 ∧ Inv X' MR1) k (su x (fun j => if M 6 j = 0 then (0 : Int) else 1)) x N := by
    intro k
    induction k with
    | zero => intro x N _ _ g; omega
    | succ k ih =>
      intro x N x0 x1 hk n1 n2
      unfold lpX9_clear_4 jbX9_clear_25
      have b := su_bnd (n := x) (B := 1) (f := fun j => if M 6 j = 0 then (0 : Int) else 1) x0 (fun v _ _ => by split <;> omega)
      have e6 : N 6 x = M 6 x := by rw [n2 x, if_neg (by omega)]
      have nxt : ∀ N2 : Mem, N2 = mset N 6 x 0 → x < 100 → lpX9_clear_4 (fun r1 MR1 => su 10 (fun u => su 10 (fun v => if X (60 + u) v = 0 then (0 : Int) else 1)) = r1 ∧ Inv X' MR1) k (su x (fun j => if M 6 j = 0 then (0 : Int) else 1) + (if M 6 x = 0 then (0 : Int) else 1)) (x + 1) N2 := fun N2 e2 hx => by
        have := ih (x + 1) N2 (by omega) (by omega) (by omega) (fun a i q => by rw [e2, mset_r q]; exact n1 a i q) (fun i => ?_)
        · rw [su_s x0] at this
          exact this
        · by_cases e : i = x
          · rw [e2, e, mset_s, if_pos (by omega)]
          · rw [e2, mset_i e, n2 i]
            by_cases c : 0 ≤ i ∧ i < x
            · rw [if_pos c, if_pos (by omega)]
            · rw [if_neg c, if_neg (by omega)]
      refine ⟨fun g => ⟨?_, ?_⟩, fun g => ⟨by omega, fun q => ⟨by omega, fun z hz => ⟨by omega, fun N2 e2 => ⟨by omega, ?_⟩⟩⟩, fun q => ⟨by omega, fun z hz => ⟨by omega, fun N2 e2 => ⟨by omega, ?_⟩⟩⟩⟩⟩
      · have := su_grid (fun j => if M 6 j = 0 then (0 : Int) else 1) 10
        rw [show x = 10 * ((10 : Nat) : Int) by omega, this]
        refine su_congr (fun u p q => su_congr (fun v c d => ?_))
        show (if X (60 + u) v = 0 then (0 : Int) else 1) = if M 6 (10 * u + v) = 0 then 0 else 1
        rw [R.2.2.2.2.1 u v p q c d]
      · refine inv_d I (fun k i q => by rw [hO k (by omega)]) (fun i _ => by rw [hO 0 (by omega)]) (fun u v x1 x2 x3 x4 => by rw [hz u v x1 x2 x3 x4]; omega) (fun k i _ _ q => n1 k i q) (fun i _ _ => n1 0 i (by omega)) (by rw [n1 0 9 (by omega), hO 0 (by omega)]; exact R.1.2.2.2.1) (fun u v x1 x2 x3 x4 => by rw [hz u v x1 x2 x3 x4, n2, if_pos (by omega)])
      · have := nxt N2 e2 (by omega)
        rw [e6] at q
        rw [if_pos q] at this
        rw [hz]; exact this
      · have := nxt N2 e2 (by omega)
        rw [e6] at q
        rw [if_neg q] at this
        rw [hz]; exact this
  have := key 101 0 M (by omega) (by omega) (by omega) (fun _ _ _ => rfl) (fun i => by rw [if_neg (by omega)])
  rw [su_0] at this
  exact ⟨101, this⟩
/-- the class copies the plan into the draft -/
theorem X8_copied {n : Int} {X : Mem} {post : Int → Mem → Prop} (hn : 0 ≤ n ∧ n ≤ 10) (e0 : X 1 0 = n) (h : ∀ X' : Mem, (∀ k i : Int, (k < 60 ∨ 70 ≤ k) → X' k i = X k i) → (∀ u v : Int, 0 ≤ u → u < 10 → 0 ≤ v → v < 10 → X' (60 + u) v = if u < n ∧ v < n then X (70 + u) v else X (60 + u) v) → post (su 10 (fun u => su 10 (fun v => if X' (60 + u) v = 0 then 0 else 1))) X') : ∃ j, lpX8_copy_22 post j 0 X := by
  have key : ∀ (k : Nat) (x : Int) (N : Mem), 0 ≤ x → x ≤ n → n - x < k → (∀ k i : Int, (k < 60 ∨ 70 ≤ k) → N k i = X k i) → (∀ u v : Int, 0 ≤ u → u < 10 → 0 ≤ v → v < 10 → N (60 + u) v = if u < x ∧ v < n then X (70 + u) v else X (60 + u) v) → lpX8_copy_22 post k x N := by
    intro k
    induction k with
    | zero => intro x N _ _ g; omega
    | succ k ih =>
      intro x N x0 x1 hk n1 n2
      unfold lpX8_copy_22
      rw [n1 1 0 (by omega), e0]
      refine ⟨fun g => X1_others (h N n1 (fun u v a b c d => by rw [n2 u v a b c d, show x = n by omega])), fun g => ?_⟩
      have key2 : ∀ (k2 : Nat) (y : Int) (N : Mem), 0 ≤ y → y ≤ n → n - y < k2 → (∀ k i : Int, (k < 60 ∨ 70 ≤ k) → N k i = X k i) → (∀ u v : Int, 0 ≤ u → u < 10 → 0 ≤ v → v < 10 → N (60 + u) v = if (u < x ∧ v < n) ∨ (u = x ∧ v < y) then X (70 + u) v else X (60 + u) v) → lpX8_copy_37 post (fun y4 N => lpX8_copy_22 post k y4 N) k2 x y N := by
        intro k2
        induction k2 with
        | zero => intro y N _ _ g; omega
        | succ k2 ih2 =>
          intro y N y0 y1 hk2 n1 n2
          unfold lpX8_copy_37
          rw [n1 1 0 (by omega), e0]
          refine ⟨fun g2 => ⟨by omega, ih (x + 1) N (by omega) (by omega) (by omega) n1 (fun u v a b c d => ?_)⟩, fun g2 => ⟨by omega, by omega, by omega, by omega, fun N2 e2 => ⟨by omega, ih2 (y + 1) N2 (by omega) (by omega) (by omega) (fun k i q => by rw [e2, mset_r (by omega)]; exact n1 k i q) (fun u v a b c d => ?_)⟩⟩⟩
          · rw [n2 u v a b c d]
            by_cases q : u < x + 1 ∧ v < n
            · rw [if_pos q, if_pos (by omega)]
            · rw [if_neg q, if_neg (by omega)]
          · by_cases e : u = x ∧ v = y
            · rw [e2, e.1, e.2, mset_s, if_pos (by omega)]
              exact n1 (70 + x) y (by omega)
            · have : N2 (60 + u) v = N (60 + u) v := by rw [e2]; exact if_neg (fun z => e ⟨by omega, z.2⟩)
              rw [this, n2 u v a b c d]
              by_cases q : (u < x ∧ v < n) ∨ (u = x ∧ v < y)
              · rw [if_pos q, if_pos (by omega)]
              · rw [if_neg q, if_neg (by omega)]
      refine ⟨11, key2 11 0 N (by omega) (by omega) (by omega) n1 (fun u v a b c d => ?_)⟩
      rw [n2 u v a b c d]
      by_cases q : u < x ∧ v < n
      · rw [if_pos q, if_pos (by omega)]
      · rw [if_neg q, if_neg (by omega)]
  exact ⟨11, key 11 0 X (by omega) (by omega) (by omega) (fun _ _ _ => rfl) (fun u v a b c d => by rw [if_neg (by omega)])⟩
theorem X9_copied {M : Mem} {post : Int → Mem → Prop} (h : ∀ M' : Mem, (∀ k i : Int, k ≠ 6 → M' k i = M k i) → (∀ i : Int, 0 ≤ i → i < 100 → M' 6 i = M 11 i) → post (su 100 (fun j => if M 11 j = 0 then 0 else 1)) M') : ∃ j, lpX9_copy_25 post j 0 0 M := by
  have key : ∀ (k : Nat) (x : Int) (N : Mem), 0 ≤ x → x ≤ 100 → 100 - x < k → (∀ a i : Int, a ≠ 6 → N a i = M a i) → (∀ i : Int, 0 ≤ i → i < x → N 6 i = M 11 i) → lpX9_copy_25 post k (su x (fun j => if M 11 j = 0 then (0 : Int) else 1)) x N := by
    intro k
    induction k with
    | zero => intro x N _ _ g; omega
    | succ k ih =>
      intro x N x0 x1 hk n1 n2
      unfold lpX9_copy_25 jbX9_copy_63
      have b := su_bnd (n := x) (B := 1) (f := fun j => if M 11 j = 0 then (0 : Int) else 1) x0 (fun v _ _ => by split <;> omega)
      refine ⟨fun g => by rw [show x = 100 by omega] at n2 ⊢; exact h N n1 n2, fun g => ⟨by omega, by omega, fun N2 e2 => ⟨by omega, ?_⟩⟩⟩
      have e11 : N2 11 x = M 11 x := by rw [e2, mset_r (by omega)]; exact n1 11 x (by omega)
      have := ih (x + 1) N2 (by omega) (by omega) (by omega) (fun a i q => by rw [e2, mset_r q]; exact n1 a i q) (fun i p q => ?_)
      · rw [su_s x0] at this
        rw [e11]
        refine ⟨fun q => ⟨by omega, fun z hz => ⟨by omega, ?_⟩⟩, fun q => ⟨by omega, fun z hz => ⟨by omega, ?_⟩⟩⟩
        · rw [if_pos q] at this
          rw [hz]; exact this
        · rw [if_neg q] at this
          rw [hz]; exact this
      · by_cases e : i = x
        · rw [e2, e, mset_s]; exact n1 11 x (by omega)
        · rw [e2, mset_i e]; exact n2 i p (by omega)
  have := key 101 0 M (by omega) (by omega) (by omega) (fun _ _ _ => rfl) (fun i _ _ => by omega)
  rw [su_0] at this
  exact ⟨101, this⟩
theorem s_copy : St_copy Inv := by
  intro a b X M _ _ I
  obtain ⟨B, R, P, Q⟩ := id I
  have w := bsx_wf B
  unfold wpX8_copy
  refine X8_refusal B (fun q => ⟨fun c => absurd c (by decide), fun _ => ?_⟩) (fun pa pb q => ⟨fun c => absurd c (by decide), fun _ => ?_⟩) (fun pa pb J hs => ⟨fun _ => ?_, fun c => absurd rfl c⟩)
  · unfold wpX9_copy
    exact X9_ref2 B R q ⟨fun c => absurd c (by decide), fun _ => ⟨rfl, I⟩⟩
  · unfold wpX9_copy
    exact X9_ref4 B R pa pb q (fun M' hO => ⟨fun c => absurd c (by decide), fun _ => ⟨rfl, inv_q I (Qx_refl X) (offT_kr hO)⟩⟩)
  · have ha : 0 ≤ a ∧ a < 8 := by unfold hpX at pa; omega
    have hb : 0 ≤ b ∧ b < 8 := by unfold hpX at pb; omega
    have hα := amt_X B ha hb
    refine mk_plan I pa pb J hs (fun X' I' K F H => ?_)
    have e0 : X' 1 0 = X 1 0 := K.1 1 0 (by omega)
    have gb := pl_b (fun v p q => (hα v p q).1.2) F.1.1
    refine X8_copied w.1 e0 (fun X2 hO2 hc => ?_)
    unfold wpX9_copy
    refine X9_ref0 B R pa pb J hs (fun M' hO R' hE E => ⟨fun _ => ?_, fun c => absurd rfl c⟩)
    refine fp_R B J R' hE ha hb hs H.1 (fun M2 hO3 F2 H2 hz => X9_copied (fun M3 hO4 h6 => ?_))
    have old : ∀ u v : Int, 0 ≤ u → u < 10 → 0 ≤ v → v < 10 → ¬ (u < X 1 0 ∧ v < X 1 0) → X' (60 + u) v = 0 := fun u v x1 x2 x3 x4 q => by
      rw [K.1 (60 + u) v (by omega)]
      exact (B.2.2.2.1 u v x1 x2 x3 x4).2 (by omega)
    have eq : ∀ u v : Int, 0 ≤ u → u < 10 → 0 ≤ v → v < 10 → X2 (60 + u) v = M2 11 (10 * u + v) := fun u v x1 x2 x3 x4 => by
      rw [hc u v x1 x2 x3 x4]
      by_cases q : u < X 1 0 ∧ v < X 1 0
      · rw [if_pos q]
        have := fst_one w.1.2 F F2 u v x1 q.1 x3 q.2
        rw [GX_in (by omega), gC_in (by omega)] at this
        exact this
      · rw [if_neg q, old u v x1 x2 x3 x4 q, hz (10 * u + v) (by omega) (by omega) (fun c d c0 c1 d0 d1 => ?_)]
        exact ix_ne x3 x4 d0 (by omega) (fun z => q ⟨by omega, by omega⟩)
    have kr : Kr M M2 := Kr_trans (offT_kr hO) (offL_kr hO3)
    refine ⟨?_, inv_d I' (fun k i q => hO2 k i (by omega)) (fun i _ => hO2 0 i (by omega)) (fun u v x1 x2 x3 x4 => ?_) (fun k i p q r => by rw [hO4 k i r]; exact kr.1 k i p q) (fun i p q => by rw [hO4 0 i (by omega)]; exact kr.2 i p) ?_ (fun u v x1 x2 x3 x4 => by rw [h6 _ (by omega) (by omega), eq u v x1 x2 x3 x4])⟩
    · have := su_grid (fun j => if M2 11 j = 0 then (0 : Int) else 1) 10
      rw [show (100 : Int) = 10 * ((10 : Nat) : Int) by omega, this]
      refine su_congr (fun u p q => su_congr (fun v c d => ?_))
      show (if X2 (60 + u) v = 0 then (0 : Int) else 1) = if M2 11 (10 * u + v) = 0 then 0 else 1
      rw [eq u v p q c d]
    · rw [e0, hc u v x1 x2 x3 x4]
      by_cases q : u < X 1 0 ∧ v < X 1 0
      · rw [if_pos q, ← GX_in (M := X') (by omega)]
        have := gb u v x1 q.1 x3 q.2
        omega
      · rw [if_neg q, old u v x1 x2 x3 x4 q]; omega
    · rw [hO4 0 9 (by omega), kr.2 9 (by omega), hO2 0 11 (by omega), K.2]
      exact R.1.2.2.2.1
