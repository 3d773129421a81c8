/-! the reference's fits, and how far some must go -/
def cN (most : Int) (D : Int → Int) : Int → Int := fun c => if D c ≤ most then 1000000 else 0
def sd (n : Int) (N : Mem) : Int → Int := fun x => if ((0 ≤ x ∧ x < n) ∨ (10 ≤ x ∧ x < 10 + n)) ∧ N 18 x ≠ 0 then 0 else 1
theorem sd_y {n : Int} {N : Mem} {x : Int} (h : nd n x) (hs : N 18 x ≠ 0) : sd n N x = 0 := if_pos ⟨h, hs⟩
theorem sd_lt {n : Int} {N : Mem} {x : Int} (h : sd n N x < 1) : nd n x ∧ N 18 x ≠ 0 := by
  unfold sd at h
  by_cases c : ((0 ≤ x ∧ x < n) ∨ (10 ≤ x ∧ x < 10 + n)) ∧ N 18 x ≠ 0
  · exact c
  · rw [if_neg c] at h; omega
/-- a search, as the theory of searches has it -/
theorem rc_bff {n most : Int} {M0 N : Mem} (hn : 0 ≤ n ∧ n ≤ 10) (hG : ∀ u v : Int, 0 ≤ u → u < n → 0 ≤ v → v < n → 0 ≤ M0 11 (10 * u + v) ∧ M0 11 (10 * u + v) ≤ 1000) (H : RcF n most M0 N) : ∃ ra : Int → Int, BfF 20 200 0 1 rT rQ (fun _ => 0) (rR n (cN most (M0 10)) (M0 11)) (fun _ => 0) (fun x => 0 ≤ x ∧ x < n ∧ 0 < M0 12 x) (sd n N) (rl (N 16)) ra := by
  obtain ⟨tl, pos, ⟨⟨c1, c1'⟩, c2, c3, c4, c5, c6⟩, tl20, hC⟩ := H
  refine ⟨fun x => if sd n N x < 1 then pos x else 0, fun x x0 x1 => ?_, fun x x0 x1 hx => ?_, fun e e0 e1 e2 e3 => ?_⟩
  · refine ⟨by unfold sd; split <;> omega, fun q => ?_, fun q => ?_, ?_⟩
    · obtain ⟨t1, t2⟩ := sd_lt q
      rw [sd_y t1 t2]; exact ⟨Int.le_refl _, by omega⟩
    · rw [sd_y (Or.inl ⟨q.1, q.2.1⟩) (c6 x q.1 q.2.1 q.2.2)]; exact Int.le_refl _
    · show 0 ≤ (if sd n N x < 1 then pos x else 0) ∧ (if sd n N x < 1 then pos x else 0) < 20
      by_cases q : sd n N x < 1
      · rw [if_pos q]
        obtain ⟨t1, t2⟩ := sd_lt q
        have := c3 x ⟨t1, t2⟩
        omega
      · rw [if_neg q]; omega
  · obtain ⟨t1, t2⟩ := sd_lt hx
    rw [sd_y t1 t2]
    show (rl (N 16) x = -1 ∧ _ ∧ _) ∨ (_ ∧ _ ∧ _ ∧ _ ∧ _ ∧ _ ∧ (if sd n N (rT (rl (N 16) x)) < 1 then pos (rT (rl (N 16) x)) else 0) < (if sd n N x < 1 then pos x else 0))
    rw [if_pos hx]
    rcases t1 with r | r
    · rcases c4 x r.1 r.2 t2 with q | ⟨q1, q2, q3, q4, q5⟩
      · exact Or.inl ⟨rl_n q.1, ⟨r.1, r.2, q.2⟩, rfl⟩
      · right
        have el : rl (N 16) x = 2 * (10 * x + N 16 x) + 1 := by unfold rl; rw [if_neg (by omega), if_pos (by omega)]
        have eT := (rT_b (u := x) q1 (show N 16 x < 10 by omega)).1
        have eQ := (rT_b (u := x) q1 (show N 16 x < 10 by omega)).2
        have hs : sd n N (10 + N 16 x) = 0 := sd_y (Or.inr ⟨by omega, by omega⟩) q3
        rw [el, eT, eQ, rR_b q1 (by omega) r.2 q2, hs, if_pos (by omega)]
        exact ⟨by omega, by omega, rfl, q4, by omega, rfl, q5⟩
    · right
      have q := c5 (x - 10) (by omega) (by omega) (by rw [show 10 + (x - 10) = x by omega]; exact t2)
      rw [show 10 + (x - 10) = x by omega] at q
      obtain ⟨q1, q2, q3, q4, q5⟩ := q
      have el : rl (N 16) x = 2 * (10 * N 16 x + (x - 10)) := by unfold rl; rw [if_neg (by omega), if_neg (by omega)]
      have eT := (rT_f (u := N 16 x) (v := x - 10) (by omega) (by omega)).1
      have eQ := (rT_f (u := N 16 x) (v := x - 10) (by omega) (by omega)).2
      have hs : sd n N (N 16 x) = 0 := sd_y (Or.inl ⟨q1, q2⟩) q3
      have hg := hG (N 16 x) (x - 10) q1 q2 (by omega) (by omega)
      rw [el, eT, eQ, rR_f (by omega) (by omega) q2 (by omega), hs, if_pos (by omega)]
      refine ⟨by omega, by omega, by omega, ?_, by omega, rfl, q5⟩
      unfold cN
      rw [if_pos q4]; omega
  · unfold rR at e2
    by_cases q : e / 20 < n ∧ (e / 2) % 10 < n
    · rw [if_pos q] at e2
      have hg := hG (e / 20) ((e / 2) % 10) (by omega) q.1 (by omega) q.2
      rw [show 10 * (e / 20) + (e / 2) % 10 = e / 2 by omega] at hg
      by_cases c : e % 2 = 0
      · rw [if_pos c] at e2
        have eT : rT e = e / 20 := by unfold rT; rw [if_pos c]
        have eQ : rQ e = 10 + (e / 2) % 10 := by unfold rQ; rw [if_pos c]
        rw [eT] at e3
        rw [eT, eQ]
        obtain ⟨t1, t2⟩ := sd_lt e3
        have near : M0 10 (e / 2) ≤ most := by
          unfold cN at e2
          by_cases w : M0 10 (e / 2) ≤ most
          · exact w
          · rw [if_neg w] at e2; omega
        have t3 := (hC _ ⟨t1, t2⟩ ((e / 2) % 10) (by omega) q.2 q.2).2 (by omega) (by rw [show 10 * (e / 20) + (e / 2) % 10 = e / 2 by omega]; exact near)
        rw [sd_y (Or.inr ⟨by omega, by omega⟩) t3, sd_y t1 t2]
        exact ⟨by omega, by show (0 : Int) ≤ 0 + 0; omega⟩
      · rw [if_neg c] at e2
        have eT : rT e = 10 + (e / 2) % 10 := by unfold rT; rw [if_neg c]
        have eQ : rQ e = e / 20 := by unfold rQ; rw [if_neg c]
        rw [eT] at e3
        rw [eT, eQ]
        obtain ⟨t1, t2⟩ := sd_lt e3
        have t3 := (hC _ ⟨t1, t2⟩ (e / 20) (by omega) q.1 q.1).1 (by omega) (by rw [show 10 * (e / 20) + (10 + (e / 2) % 10 - 10) = e / 2 by omega]; exact e2)
        rw [sd_y (Or.inl ⟨by omega, by omega⟩) t3, sd_y t1 t2]
        exact ⟨by omega, by show (0 : Int) ≤ 0 + 0; omega⟩
    · rw [if_neg q] at e2; omega
/-- the state between two ways -/
def FtI (n most : Int) (α β : Int → Int) (M : Mem) : Prop := (∀ u v : Int, 0 ≤ u → u < n → 0 ≤ v → v < n → 0 ≤ M 11 (10 * u + v) ∧ M 11 (10 * u + v) ≤ 1000 ∧ (0 < M 11 (10 * u + v) → M 10 (10 * u + v) ≤ most)) ∧ (∀ u : Int, 0 ≤ u → u < n → su n (fun v => M 11 (10 * u + v)) + M 12 u = α u ∧ 0 ≤ M 12 u) ∧ (∀ v : Int, 0 ≤ v → v < n → su n (fun u => M 11 (10 * u + v)) + M 13 v = β v ∧ 0 ≤ M 13 v)
def OffI (M M' : Mem) : Prop := ∀ k : Int, k ≠ 11 → k ≠ 12 → k ≠ 13 → k ≠ 16 → k ≠ 18 → k ≠ 19 → M' k = M k
theorem X9_fits {n a b most : Int} {δ : Int → Int → Int} {α β : Int → Int} {M : Mem} {post : Int → Mem → Prop} (hn : 0 ≤ n ∧ n ≤ 10) (e0 : M 0 0 = n) (ha : 0 ≤ a ∧ a < 8) (hb : 0 ≤ b ∧ b < 8) (hα : ∀ v : Int, 0 ≤ v → v < n → (0 ≤ α v ∧ α v ≤ 1000) ∧ 0 ≤ β v ∧ β v ≤ 1000) (hM : ∀ v : Int, 0 ≤ v → v < n → M 4 (10 * a + v) = α v ∧ M 4 (10 * b + v) = β v) (eδ : ∀ u v : Int, 0 ≤ u → u < n → 0 ≤ v → v < n → M 10 (10 * u + v) = δ u v) (hsum : su n α = su n β)
    (h1 : ∀ M' : Mem, OffI M M' → Fit n δ α β most → post 1 M') (h0 : ∀ M' : Mem, OffI M M' → ¬ Fit n δ α β most → (∃ u v : Int, 0 ≤ u ∧ u < n ∧ 0 ≤ v ∧ v < n ∧ most < δ u v) → Shd n (fun u v => δ u v ≤ most) α β (fun u => M' 18 u ≠ 0) → post 0 M') : wpX9_fits a b most M post := by
  refine X9_begin hn e0 ha hb (fun M0 hO0 z11 z12 => ?_)
  have q10 : M0 10 = M 10 := hO0 10 (by omega) (by omega) (by omega)
  have I0 : FtI n most α β M0 := by
    refine ⟨fun u v p q r s => ?_, fun u p q => ?_, fun v p q => ?_⟩
    · rw [z11 _ (by omega) (by omega)]; exact ⟨by omega, by omega, fun w => by omega⟩
    · rw [su_all0 (fun v v0 v1 => z11 _ (by omega) (by omega)), (z12 u p q).1, (hM u p q).1]
      have := hα u p q
      omega
    · rw [su_all0 (fun u u0 u1 => z11 _ (by omega) (by omega)), (z12 v p q).2, (hM v p q).2]
      have := hα v p q
      omega
  -- the end
  have fin : ∀ (N0 N : Mem), OffI M N0 → OffC N0 N → FtI n most α β N0 → RcF n most N0 N → (∀ v : Int, 0 ≤ v → v < n → N 18 (10 + v) ≠ 0 → N0 13 v ≤ 0) → ∃ j, lpX9_fits_54 post j 1 0 N := fun N0 N hO hC I hF hd => by
    obtain ⟨i1, i2, i3⟩ := I
    obtain ⟨tl, pos, ⟨⟨c1, c1'⟩, c2, c3, c4, c5, c6⟩, tl20, hCl⟩ := hF
    have r10 : N0 10 = M 10 := hO 10 (by omega) (by omega) (by omega) (by omega) (by omega) (by omega)
    have near : ∀ u v : Int, 0 ≤ u → u < n → 0 ≤ v → v < n → N0 10 (10 * u + v) = δ u v := fun u v p q r s => by rw [r10]; exact eδ u v p q r s
    have oN : OffI M N := fun k p1 p2 p3 p4 p5 p6 => by rw [hC k p4 p5 p6]; exact hO k p1 p2 p3 p4 p5 p6
    have stk : Stk n (fun u v => δ u v ≤ most) α β (gR N0) (fun u => N 18 u ≠ 0) := by
      refine ⟨fun u v p q r s => ⟨(i1 u v p q r s).1, fun w => by show δ u v ≤ most; rw [← near u v p q r s]; exact (i1 u v p q r s).2.2 w⟩, fun u p q => by have := i2 u p q; show su n (fun v => N0 11 (10 * u + v)) ≤ α u; omega, fun v p q => by have := i3 v p q; show su n (fun u => N0 11 (10 * u + v)) ≤ β v; omega, ⟨fun u p q w => ?_, fun u v x p q r s x0 x1 w1 w2 w3 => ?_⟩, fun u v p q r s w1 w2 => ?_⟩
      · have w : su n (fun v => N0 11 (10 * u + v)) < α u := w
        have := i2 u p q
        exact c6 u p q (by omega)
      · have t1 := (hCl u ⟨Or.inl ⟨p, q⟩, w1⟩ v r s s).2 (by omega) (by rw [near u v p q r s]; exact w2)
        have t2 := (hCl (10 + v) ⟨Or.inr ⟨by omega, by omega⟩, t1⟩ x x0 x1 x1).1 (by omega)
        rw [show 10 + v - 10 = v by omega] at t2
        exact t2 w3
      · have t1 := (hCl u ⟨Or.inl ⟨p, q⟩, w1⟩ v r s s).2 (by omega) (by rw [near u v p q r s]; exact w2)
        have t2 := hd v r s t1
        have t3 := i3 v r s
        show su n (fun u => N0 11 (10 * u + v)) = β v
        omega
    have mini : ∀ S' : Int → Prop, Clo n (fun u v => δ u v ≤ most) α (gR N0) S' → ∀ u : Int, 0 ≤ u → u < n → N 18 u ≠ 0 → S' u := fun S' hS' => by
      have key : ∀ (m : Nat) (x : Int), (0 ≤ x → x < n → N 18 x ≠ 0 → pos x < m → S' x) ∧ (∀ v : Int, 0 ≤ v → v < n → x = 10 + v → N 18 x ≠ 0 → pos x < m → ∃ u : Int, 0 ≤ u ∧ u < n ∧ S' u ∧ δ u v ≤ most) := by
        intro m
        induction m with
        | zero =>
          intro x
          refine ⟨fun x0 x1 hx hm => ?_, fun v v0 v1 e hx hm => ?_⟩
          · have := (c3 x ⟨Or.inl ⟨x0, x1⟩, hx⟩).1; omega
          · have := (c3 x ⟨Or.inr ⟨by omega, by omega⟩, hx⟩).1; omega
        | succ m ih =>
          intro x
          refine ⟨fun x0 x1 hx hm => ?_, fun v v0 v1 e hx hm => ?_⟩
          · rcases c4 x x0 x1 hx with ⟨_, q⟩ | ⟨q1, q2, q3, q4, q5⟩
            · refine hS'.1 x x0 x1 ?_
              have := i2 x x0 x1
              show su n (fun v => N0 11 (10 * x + v)) < α x
              omega
            · obtain ⟨u, u0, u1, u2, u3⟩ := (ih (10 + N 16 x)).2 (N 16 x) q1 q2 rfl q3 (by omega)
              exact hS'.2 u (N 16 x) x u0 u1 q1 q2 x0 x1 u2 u3 q4
          · subst e
            obtain ⟨q1, q2, q3, q4, q5⟩ := c5 v v0 v1 hx
            exact ⟨N 16 (10 + v), q1, q2, (ih _).1 q1 q2 q3 (by omega), by rw [← near _ _ q1 q2 v0 v1]; exact q4⟩
      intro u u0 u1 hu
      have := (c3 u ⟨Or.inl ⟨u0, u1⟩, hu⟩).2.1
      exact (key 20 u).1 u0 u1 hu (by omega)
    have tot : su n (fun u => su n (gR N0 u)) = su n α - su n (N0 12) := by
      rw [← su_sub]
      exact su_congr (fun u p q => by have := i2 u p q; show su n (fun v => N0 11 (10 * u + v)) = α u - N0 12 u; omega)
    have r12 : N 12 = N0 12 := hC 12 (by omega) (by omega) (by omega)
    have key : ∀ (f : Nat) (x c : Int), 0 ≤ x → x ≤ n → n - x < f → (c = 0 ∨ c = 1) → (c = 1 → ∀ u : Int, 0 ≤ u → u < x → N0 12 u = 0) → (c = 0 → ∃ u : Int, 0 ≤ u ∧ u < n ∧ 0 < N0 12 u) → lpX9_fits_54 post f c x N := by
      intro f
      induction f with
      | zero => intro x c _ _ g; omega
      | succ f ih =>
        intro x c x0 x1 hf hc hc1 hc0
        unfold lpX9_fits_54
        rw [oN 0 (by omega) (by omega) (by omega) (by omega) (by omega) (by omega), e0, r12]
        refine ⟨fun g => ⟨hc, ?_⟩, fun g => ?_⟩
        · rcases hc with q | q
          · subst q
            obtain ⟨u, u0, u1, u2⟩ := hc0 rfl
            have pos12 := su_term (n := n) (f := N0 12) (fun k k0 k1 => (i2 k k0 k1).2) u0 u1
            obtain ⟨z1, z2⟩ := stk_not stk hsum (by rw [tot]; omega)
            exact h0 N oN z1 z2 (stk_shd stk mini)
          · subst q
            have z : su n (N0 12) = 0 := su_all0 (fun u p q => hc1 rfl u p (by omega))
            refine h1 N oN ⟨gR N0, ⟨fun u v p q r s => (i1 u v p q r s).1, fun u p q => ?_, ?_⟩, fun u v p q r s w => (stk.1 u v p q r s).2 w⟩
            · have := i2 u p q
              have := hc1 rfl u p (by omega)
              show su n (fun v => N0 11 (10 * u + v)) = α u
              omega
            · refine su_eq_all (n := n) (f := fun v => su n (fun u => gR N0 u v)) (g := β) (fun v p q => stk.2.2.1 v p q) ?_
              rw [su_swap n n (fun v u => gR N0 u v), ← hsum]
              have tot' : su n (fun u => su n (fun v => gR N0 u v)) = su n α - su n (N0 12) := tot
              omega
        · have xn : x < n := by omega
          have sup := (i2 x x0 xn).2
          unfold jbX9_fits_82 jbX9_fits_83
          refine ⟨fun g1 => ⟨by omega, ih (x + 1) 0 (by omega) (by omega) (by omega) (Or.inl rfl) (fun q => by omega) (fun _ => hc0 g1)⟩, fun g1 => ⟨by omega, fun g2 => ⟨by omega, ih (x + 1) 0 (by omega) (by omega) (by omega) (Or.inl rfl) (fun q => by omega) (fun _ => ⟨x, x0, xn, by omega⟩)⟩, fun g2 => ⟨by omega, ih (x + 1) 1 (by omega) (by omega) (by omega) (Or.inr rfl) (fun _ u u0 u1 => ?_) (fun q => by omega)⟩⟩⟩
          by_cases e : u = x
          · rw [e]; exact g2
          · have cc : c = 1 := by
              rcases hc with r | r
              · exact absurd r g1
              · exact r
            exact hc1 cc u u0 (by omega)
    exact ⟨11, key 11 0 1 (by omega) (by omega) (by omega) (Or.inr rfl) (fun _ u _ _ => by omega) (fun q => by omega)⟩
  -- the ways
  have loop : ∀ (f : Nat) (to : Int) (N0 N : Mem), su n (N0 12) < f → OffI M N0 → OffC N0 N → FtI n most α β N0 → RcF n most N0 N → (to = -1 ∧ (∀ v : Int, 0 ≤ v → v < n → N 18 (10 + v) ≠ 0 → N0 13 v ≤ 0)) ∨ (0 ≤ to ∧ to < n ∧ 0 < N0 13 to ∧ N 18 (10 + to) ≠ 0) → lpX9_fits_13 post f most to N := by
    intro f
    induction f with
    | zero =>
      intro to N0 N hf hO hC I hF hto
      have := su_nonneg (n := n) (f := N0 12) (fun k k0 k1 => (I.2.1 k k0 k1).2)
      omega
    | succ f ih =>
      intro to N0 N hf hO hC I hF hto
      obtain ⟨i1, i2, i3⟩ := id I
      unfold lpX9_fits_13 jbX9_fits_43
      refine ⟨fun g => ?_, fun g => ?_⟩
      · rcases hto with q | q
        · exact fin N0 N hO hC I hF q.2
        · omega
      · rcases hto with q | ⟨t0, t1, t2, t3⟩
        · exact absurd q.1 g
        · obtain ⟨ra, F⟩ := rc_bff hn (fun u v p q r s => ⟨(i1 u v p q r s).1, (i1 u v p q r s).2.1⟩) hF
          have r11 : N 11 = N0 11 := hC 11 (by omega) (by omega) (by omega)
          have r12 : N 12 = N0 12 := hC 12 (by omega) (by omega) (by omega)
          have r13 : N 13 = N0 13 := hC 13 (by omega) (by omega) (by omega)
          have sdt : sd n N (10 + to) = 0 := sd_y (Or.inr ⟨by omega, by omega⟩) t3
          have b13 := i3 to t0 t1
          have n13 := su_nonneg (n := n) (f := fun u => N0 11 (10 * u + to)) (fun u u0 u1 => (i1 u to u0 u1 t0 t1).1)
          have bb := hα to t0 t1
          refine X9_go (C := cN most (N0 10)) (P := fun _ => 0) (π := fun _ => 0) (d := sd n N) (K := 1) (B := 0) (ra := ra) (c := 0) hn ⟨t0, t1⟩ (by rw [r13]; omega) (by omega) (fun e p q => ?_) ⟨by decide, fun e p q => ?_⟩ (fun e p q r => by show (0 : Int) ≤ 0 + 0; omega) (by
            rw [r11]
            intro u v p q r s
            have z := i1 u v p q r s
            refine ⟨⟨z.1, z.2.1⟩, ?_, ?_, fun w => ?_⟩
            · unfold cN; split <;> omega
            · unfold cN
              by_cases w : N0 10 (10 * u + v) ≤ most
              · rw [if_pos w]; omega
              · rw [if_neg w]
                by_cases w2 : 0 < N0 11 (10 * u + v)
                · exact absurd (z.2.2 w2) w
                · omega
            · unfold cN at w ⊢
              by_cases w2 : N0 10 (10 * u + v) ≤ most
              · rw [if_pos w2]; omega
              · rw [if_neg w2] at w; omega) (by
            rw [r12]
            intro u p q
            have := i2 u p q
            have n12 := su_nonneg (n := n) (f := fun v => N0 11 (10 * u + v)) (fun v v0 v1 => (i1 u v p q v0 v1).1)
            have := hα u p q
            omega) (by rw [r11, r12]; exact F) (fun x x0 x1 hx => ?_) (by rw [sdt]; omega) (by rw [sdt]; show (0 : Int) - 0 ≤ 0; omega) (fun m N2 x m1 m2 m3 hG hx hdx h12 h13 h11 A => ?_)
          · have h1 := (r_arcs (n := n) (D := fun _ => 0) (fun _ _ _ _ _ _ => by show (0 : Int) ≤ 0 ∧ (0 : Int) ≤ 9000; omega)) e p q
            exact ⟨h1.1, h1.2.1, h1.2.2.1, h1.2.2.2.1, by show -(0 : Int) ≤ 0; omega, by show (0 : Int) ≤ 0; omega⟩
          · have h1 := (r_prs n (fun _ => 0)).2 e p q
            exact ⟨h1.1, h1.2.1, by show (0 : Int) = -0; omega⟩
          · obtain ⟨y1, y2⟩ := sd_lt hx
            obtain ⟨tl, pos, ⟨_, _, _, c4, c5, _⟩, _, _⟩ := hF
            rcases y1 with w | w
            · rcases c4 x w.1 w.2 y2 with z | z
              · omega
              · omega
            · have := c5 (x - 10) (by omega) (by omega) (by rw [show 10 + (x - 10) = x by omega]; exact y2)
              rw [show 10 + (x - 10) = x by omega] at this
              omega
          · rw [r12] at hx h12
            rw [r13] at m3 h13
            rw [r11] at A h11
            obtain ⟨g1, g2⟩ := r_gain hn ⟨hx.1, hx.2.1⟩ ⟨t0, t1⟩ A
            have n10 : N2 10 = N0 10 := by rw [hG 10 (by omega) (by omega) (by omega), hC 10 (by omega) (by omega) (by omega)]
            have nn : ∀ u v : Int, 0 ≤ u → u < n → 0 ≤ v → v < n → 0 ≤ N2 11 (10 * u + v) ∧ N2 11 (10 * u + v) ≤ cN most (N0 10) (10 * u + v) := fun u v p q r s => by
              have z1 := (A.2.1 (2 * (10 * u + v) + 1) (by omega) (by omega)).1
              have z2 := (A.2.1 (2 * (10 * u + v)) (by omega) (by omega)).1
              rw [rR_b r (by omega) q s] at z1
              rw [rR_f r (by omega) q s] at z2
              omega
            have I2 : FtI n most α β N2 := by
              have t2' : ∀ u : Int, 0 ≤ u → u < n → su n (fun v => N2 11 (10 * u + v)) + N2 12 u = α u ∧ 0 ≤ N2 12 u := fun u p q => by
                have := i2 u p q
                rw [g1 u p q, h12]
                by_cases c1 : u = x
                · subst c1; rw [if_pos rfl, up_s]; omega
                · rw [if_neg c1, up_n c1]; omega
              refine ⟨fun u v p q r s => ⟨(nn u v p q r s).1, ?_, fun w => ?_⟩, t2', fun v p q => ?_⟩
              · have h1 := su_term (n := n) (f := fun v => N2 11 (10 * u + v)) (fun k k0 k1 => (nn u k p q k0 k1).1) r s
                have h1 : N2 11 (10 * u + v) ≤ su n (fun v => N2 11 (10 * u + v)) := h1
                have h2 := t2' u p q
                have h3 := hα u p q
                omega
              · rw [n10]
                have z := (nn u v p q r s).2
                unfold cN at z
                by_cases w2 : N0 10 (10 * u + v) ≤ most
                · exact w2
                · rw [if_neg w2] at z; omega
              · have := i3 v p q
                rw [g2 v p q, h13]
                by_cases c1 : v = to
                · subst c1; rw [if_pos rfl, up_s]; omega
                · rw [if_neg c1, up_n c1]; omega
            have o2 : OffI M N2 := fun k p1 p2 p3 p4 p5 p6 => by rw [hG k p1 p2 p3, hC k p4 p5 p6]; exact hO k p1 p2 p3 p4 p5 p6
            refine ⟨fun q => by omega, fun _ => ?_⟩
            refine X9_reach (n := n) hn (by rw [o2 0 (by omega) (by omega) (by omega) (by omega) (by omega) (by omega), e0]) (fun to2 N3 hC3 hF3 hto3 => ?_)
            refine ih to2 N2 N3 ?_ o2 hC3 I2 hF3 hto3
            rw [su_upd (f := N0 12) hx.1 hx.2.1 (fun k _ _ hk => by rw [h12, up_n hk]), h12, up_s]
            omega
  have o0 : OffI M M0 := fun k p1 p2 p3 _ _ _ => hO0 k p1 p2 p3
  refine X9_reach (n := n) hn (by rw [hO0 0 (by omega) (by omega) (by omega), e0]) (fun to N hC hF hto => ?_)
  exact ⟨(su n (M0 12)).toNat + 1, loop _ to M0 N (by omega) o0 hC I0 hF hto⟩
theorem X9_findFarthest {n a b : Int} {δ : Int → Int → Int} {α β : Int → Int} {M : Mem} {post : Int → Mem → Prop} (hn : 0 ≤ n ∧ n ≤ 10) (e0 : M 0 0 = n) (ha : 0 ≤ a ∧ a < 8) (hb : 0 ≤ b ∧ b < 8) (hα : ∀ v : Int, 0 ≤ v → v < n → (0 ≤ α v ∧ α v ≤ 1000) ∧ 0 ≤ β v ∧ β v ≤ 1000) (hM : ∀ v : Int, 0 ≤ v → v < n → M 4 (10 * a + v) = α v ∧ M 4 (10 * b + v) = β v) (hδ : Mtr n δ) (eδ : ∀ u v : Int, 0 ≤ u → u < n → 0 ≤ v → v < n → M 10 (10 * u + v) = δ u v) (hsum : su n α = su n β)
    (h : ∀ (f : Int) (M' : Mem), OffI M M' → FarOk n δ α β f → f ≤ 9000 → post f M') : wpX9_findFarthest a b M post := by
  have key : ∀ (f : Nat) (fa : Int) (N : Mem), 0 ≤ fa → fa ≤ 9000 → 9000 - fa < f → OffI M N → (∀ g : Int, 0 ≤ g → g < fa → ¬ Fit n δ α β g) → lpX9_findFarthest_2 post f a b fa N := by
    intro f
    induction f with
    | zero => intro fa N _ _ g; omega
    | succ f ih =>
      intro fa N fa0 fa1 hf hO hg
      unfold lpX9_findFarthest_2
      have eδN : ∀ N : Mem, OffI M N → ∀ u v : Int, 0 ≤ u → u < n → 0 ≤ v → v < n → N 10 (10 * u + v) = δ u v := fun N hO u v p q r s => by rw [hO 10 (by omega) (by omega) (by omega) (by omega) (by omega) (by omega)]; exact eδ u v p q r s
      refine X9_fits (δ := δ) (α := α) (β := β) hn (by rw [hO 0 (by omega) (by omega) (by omega) (by omega) (by omega) (by omega), e0]) ha hb hα (fun v p q => by rw [hO 4 (by omega) (by omega) (by omega) (by omega) (by omega) (by omega)]; exact hM v p q) (eδN N hO) hsum (fun N1 hO1 hF => ⟨fun _ => ?_, fun q => by omega⟩) (fun N1 hO1 hF hfar hS => ⟨fun q => absurd rfl q, fun _ => ?_⟩)
      · exact h fa N1 (fun k p1 p2 p3 p4 p5 p6 => by rw [hO1 k p1 p2 p3 p4 p5 p6]; exact hO k p1 p2 p3 p4 p5 p6) ⟨fa0, hF, hg⟩ fa1
      · have o1 : OffI M N1 := fun k p1 p2 p3 p4 p5 p6 => by rw [hO1 k p1 p2 p3 p4 p5 p6]; exact hO k p1 p2 p3 p4 p5 p6
        have r0 : N1 0 0 = n := by rw [o1 0 (by omega) (by omega) (by omega) (by omega) (by omega) (by omega), e0]
        have key2 : ∀ (f2 : Nat) (r x : Int), 0 ≤ x → x ≤ n → n - x < f2 → (∀ u v : Int, 0 ≤ u → u < x → 0 ≤ v → v < n → fa < δ u v → r ≤ δ u v) → (r = 1000000000 ∨ ∃ u v : Int, 0 ≤ u ∧ u < n ∧ 0 ≤ v ∧ v < n ∧ δ u v = r ∧ fa < r) → lpX9_findFarthest_19 post (fun y1 y2 y3 N => lpX9_findFarthest_2 post f y1 y2 y3 N) f2 a b fa r x N1 := by
          intro f2
          induction f2 with
          | zero => intro r x _ _ g; omega
          | succ f2 ih2 =>
            intro r x x0 x1 hf2 q1 q2
            unfold lpX9_findFarthest_19
            rw [r0]
            refine ⟨fun g => ?_, fun g => ?_⟩
            · have q3 : ∃ u v : Int, 0 ≤ u ∧ u < n ∧ 0 ≤ v ∧ v < n ∧ δ u v = r ∧ fa < r := by
                rcases q2 with q | q
                · obtain ⟨u, v, u0, u1, v0, v1, hd⟩ := hfar
                  have z1 := q1 u v u0 (by omega) v0 v1 hd
                  have z2 := hδ.2.1 u v u0 u1 v0 v1
                  omega
                · exact q
              obtain ⟨u, v, u0, u1, v0, v1, hd, hl⟩ := q3
              have z2 := hδ.2.1 u v u0 u1 v0 v1
              refine ih r N1 (by omega) (by omega) (by omega) o1 (fun g g0 g2 hFit => ?_)
              obtain ⟨A, A1, A2⟩ := hFit
              refine hF ⟨A, A1, fun x y p q r s hg => ?_⟩
              have z := A2 x y p q r s hg
              by_cases w : fa < δ x y
              · have := q1 x y p (by omega) r s w; omega
              · omega
            · have xn : x < n := by omega
              have key3 : ∀ (f3 : Nat) (r y : Int), 0 ≤ y → y ≤ n → n - y < f3 → (∀ u v : Int, 0 ≤ u → 0 ≤ v → v < n → (u < x ∨ (u = x ∧ v < y)) → fa < δ u v → r ≤ δ u v) → (r = 1000000000 ∨ ∃ u v : Int, 0 ≤ u ∧ u < n ∧ 0 ≤ v ∧ v < n ∧ δ u v = r ∧ fa < r) → lpX9_findFarthest_31 post (fun y1 y2 y3 N => lpX9_findFarthest_2 post f y1 y2 y3 N) (fun y1 y2 y3 y4 y5 N => lpX9_findFarthest_19 post (fun y1 y2 y3 N => lpX9_findFarthest_2 post f y1 y2 y3 N) f2 y1 y2 y3 y4 y5 N) f3 a b fa r x y N1 := by
                intro f3
                induction f3 with
                | zero => intro r y _ _ g; omega
                | succ f3 ih3 =>
                  intro r y y0 y1 hf3 q1 q2
                  unfold lpX9_findFarthest_31 jbX9_findFarthest_73 jbX9_findFarthest_75
                  rw [r0]
                  refine ⟨fun g2 => ⟨by omega, ih2 r (x + 1) (by omega) (by omega) (by omega) (fun u v p q r' s => q1 u v p r' s (by omega)) q2⟩, fun g2 => ⟨by omega, fun w hw => ?_⟩⟩
                  have yn : y < n := by omega
                  rw [eδN N1 o1 x y x0 xn y0 yn] at hw
                  subst hw
                  have same : (fa < δ x y → r ≤ δ x y) → inR (y + 1) ∧ lpX9_findFarthest_31 post (fun y1 y2 y3 N => lpX9_findFarthest_2 post f y1 y2 y3 N) (fun y1 y2 y3 y4 y5 N => lpX9_findFarthest_19 post (fun y1 y2 y3 N => lpX9_findFarthest_2 post f y1 y2 y3 N) f2 y1 y2 y3 y4 y5 N) f3 a b fa r x (y + 1) N1 := fun hh => ⟨by omega, ih3 r (y + 1) (by omega) (by omega) (by omega) (fun u v p r' s hq hl => by
                    by_cases e : u = x ∧ v = y
                    · rw [e.1, e.2] at hl ⊢; exact hh hl
                    · exact q1 u v p r' s (by omega) hl) q2⟩
                  refine ⟨fun g3 => same (fun q => by omega), fun g3 => ⟨fun g4 => same (fun _ => g4), fun g4 => ⟨by omega, ih3 (δ x y) (y + 1) (by omega) (by omega) (by omega) (fun u v p r' s hq hl => ?_) (Or.inr ⟨x, y, x0, xn, y0, yn, rfl, by omega⟩)⟩⟩⟩
                  by_cases e : u = x ∧ v = y
                  · rw [e.1, e.2]; exact Int.le_refl _
                  · have := q1 u v p r' s (by omega) hl; omega
              exact ⟨11, key3 11 r 0 (by omega) (by omega) (by omega) (fun u v p r' s hq hl => q1 u v p (by omega) r' s hl) q2⟩
        exact ⟨11, key2 11 1000000000 0 (by omega) (by omega) (by omega) (fun u v _ q => by omega) (Or.inl rfl)⟩
  exact ⟨9001, key 9001 0 M (by omega) (by omega) (by omega) (fun _ _ _ _ _ _ _ => rfl) (fun g _ _ => by omega)⟩
