/-! the class's rings are turned; the first plan -/
/-- the rows of a ring, from u on -/
def rpt (rf cf : Int → Int) (u : Int) : Nat → Int
  | 0 => u
  | i + 1 => cf (rf (rpt rf cf u i))
theorem rpt_in {n u v : Int} {us tg : Int → Int → Prop} {G : Int → Int → Int} {rf cf ps : Int → Int} {R C : Int → Prop} (S : RgS n u v us tg G rf cf ps R C) (hR : R u) : ∀ i : Nat, (∀ k : Nat, k < i → rf (rpt rf cf u k) ≠ v) → R (rpt rf cf u i) ∧ ps (rf (rpt rf cf u i)) + i ≤ ps (rf u) := by
  intro i
  induction i with
  | zero => intro _; exact ⟨hR, by show ps (rf u) + ((0 : Nat) : Int) ≤ ps (rf u); omega⟩
  | succ i ih =>
    intro h
    obtain ⟨h1, h2⟩ := ih (fun k hk => h k (by omega))
    obtain ⟨s1, s2, s3, s4, s5, s6, s7⟩ := S.1 _ h1
    obtain ⟨_, _, _, t⟩ := S.2 _ s5
    obtain ⟨t1, t2, t3, t4, t5, t6⟩ := t (h i (by omega))
    refine ⟨t3, ?_⟩
    show ps (rf (cf (rf (rpt rf cf u i)))) + ((i + 1 : Nat) : Int) ≤ ps (rf u)
    omega
/-- a ring gives another plan -/
theorem ring_other {n u v : Int} {us tg : Int → Int → Prop} {α β : Int → Int} {G : Int → Int → Int} {rf cf ps : Int → Int} {R C : Int → Prop} (hu : 0 ≤ u ∧ u < n) (hT : tg u v) (huv : ¬ us u v) (S : RgS n u v us tg G rf cf ps R C) (hR : R u) (hP : Pl n α β G) : ∃ A : Int → Int → Int, TurnE n u v 1 us tg G u A ∧ A u v = G u v + 1 := by
  have key : ∀ (k : Nat) (x : Int) (A : Int → Int → Int), ps (rf x) < k → R x → TurnE n u v 1 us tg G x A → TurnL G rf ps R x A → A u v = G u v → ∃ A : Int → Int → Int, TurnE n u v 1 us tg G u A ∧ A u v = G u v + 1 := by
    intro k
    induction k with
    | zero =>
      intro x A h hx
      have := (S.2 _ (S.1 x hx).2.2.2.2.1).2.2.1
      omega
    | succ k ih =>
      intro x A h hx E L hA
      have hm := (S.1 x hx).2.2.2.2.2.2
      by_cases c : rf x = v
      · obtain ⟨E1, _, _, _, _, e1, _⟩ := turn_step (w := u) hu hT huv S hx ⟨by omega, by omega⟩ (Or.inl ⟨c, rfl⟩) E L
        exact ⟨_, E1, by rw [e1 c, hA]⟩
      · obtain ⟨E1, _, _, _, _, _, e2⟩ := turn_step (w := cf (rf x)) hu hT huv S hx ⟨by omega, by omega⟩ (Or.inr ⟨c, rfl⟩) E L
        obtain ⟨r1, r2, r3, r4⟩ := e2 c
        exact ih _ _ (by omega) r1 E1 r3 (by rw [r4, hA])
  have p0 := (S.2 _ (S.1 u hR).2.2.2.2.1).2.2.1
  exact key ((ps (rf u)).toNat + 1) u G (by omega) hR (turn_start hP) (fun _ _ _ => Int.le_refl _) rfl
def GX (M : Mem) : Int → Int → Int := fun a b => if 0 ≤ a ∧ a < 10 then M (70 + a) b else 0
theorem GX_in {M : Mem} {a b : Int} (h : 0 ≤ a ∧ a < 10) : GX M a b = M (70 + a) b := if_pos h
theorem GX_eq {M M' : Mem} (h : ∀ a : Int, 0 ≤ a → a < 10 → M' (70 + a) = M (70 + a)) : GX M' = GX M := by
  funext a b
  unfold GX
  by_cases c : 0 ≤ a ∧ a < 10
  · rw [if_pos c, if_pos c, h a c.1 c.2]
  · rw [if_neg c, if_neg c]
def OffP (M M' : Mem) : Prop := ∀ k : Int, (k < 70 ∨ 80 ≤ k) → M' k = M k
theorem X6_turnRing {n u v : Int} {us tg : Int → Int → Prop} {α β : Int → Int} {M : Mem} {ps : Int → Int} {post : Mem → Prop} (hn : 0 ≤ n ∧ n ≤ 10) (hu : 0 ≤ u ∧ u < n) (hv : 0 ≤ v ∧ v < n) (hα : ∀ v : Int, 0 ≤ v → v < n → 0 ≤ α v ∧ α v ≤ 1000) (hT : tg u v) (huv : ¬ us u v) (hP : Pl n α β (GX M)) (hvu : M 25 v = u) (hps : ∀ y : Int, 0 ≤ y → y < n → M 25 y ≠ -1 → ps y < 10) (hRu : M 24 u ≠ -1) (S : RgS n u v us tg (GX M) (M 24) (M 25) ps (fun x => 0 ≤ x ∧ x < n ∧ M 24 x ≠ -1) (fun y => 0 ≤ y ∧ y < n ∧ M 25 y ≠ -1))
    (h : ∀ (M' : Mem) (m : Int), OffP M M' → 1 ≤ m → TurnE n u v m us tg (GX M) u (GX M') → GX M' u v = GX M u v + m → post M') : wpX6_turnRing u v M post := by
  have hR : (fun x => 0 ≤ x ∧ x < n ∧ M 24 x ≠ -1) u := ⟨hu.1, hu.2, hRu⟩
  have path := rpt_in S hR
  have st := S.1 u hR
  have ps9 := hps _ st.2.2.1 st.2.2.2.1 st.2.2.2.2.1.2.2
  have cell : ∀ x y : Int, 0 ≤ x → x < n → 0 ≤ y → y < n → GX M x y ≤ 1000 := fun x y a b c d => by
    have h1 := su_term (n := n) (f := GX M x) (fun k k0 k1 => hP.1 x k a b k0 k1) c d
    rw [hP.2.1 x a b] at h1
    have := hα x a b
    omega
  -- the turn
  have key2 : ∀ (m : Int) (I : Nat), 1 ≤ m → m ≤ 1000 → (∀ k : Nat, k ≤ I → m ≤ GX M (rpt (M 24) (M 25) u k) (M 24 (rpt (M 24) (M 25) u k))) → (∀ k : Nat, k < I → M 24 (rpt (M 24) (M 25) u k) ≠ v) → M 24 (rpt (M 24) (M 25) u I) = v → ∀ (f i : Nat) (N : Mem), i ≤ I → (I : Int) - i + 1 < f → OffP M N → TurnE n u v m us tg (GX M) (rpt (M 24) (M 25) u i) (GX N) → TurnL (GX M) (M 24) ps (fun x => 0 ≤ x ∧ x < n ∧ M 24 x ≠ -1) (rpt (M 24) (M 25) u i) (GX N) → GX N u v = GX M u v → lpX6_turnRing_21 post f v m (rpt (M 24) (M 25) u i) (M 24 (rpt (M 24) (M 25) u i)) i N := by
    intro m I m1 m2 hm hI1 hI2 f
    induction f with
    | zero => intro i N hi hf; omega
    | succ f ih =>
      intro i N hi hf hO E L hN
      obtain ⟨p1, p2⟩ := path i (fun k hk => hI1 k (by omega))
      obtain ⟨s1, s2, s3, s4, s5, s6, s7⟩ := S.1 _ p1
      have p0 := (S.2 _ s5).2.2.1
      have r25 : N 25 = M 25 := hO 25 (by omega)
      have r24 : N 24 = M 24 := hO 24 (by omega)
      have hmi := hm i hi
      unfold lpX6_turnRing_21 jbX6_turnRing_96 jbX6_turnRing_88
      refine ⟨fun g => by omega, fun g => ⟨fun g1 => by omega, fun g1 => ?_⟩⟩
      -- both cells
      have both : ∀ w : Int, (M 24 (rpt (M 24) (M 25) u i) = v ∧ w = u) ∨ (M 24 (rpt (M 24) (M 25) u i) ≠ v ∧ w = M 25 (M 24 (rpt (M 24) (M 25) u i))) → M 25 (M 24 (rpt (M 24) (M 25) u i)) = w := fun w hw => by
        rcases hw with ⟨q1, q2⟩ | ⟨q1, q2⟩
        · rw [q1, hvu, q2]
        · exact q2.symm
      have hcase : (M 24 (rpt (M 24) (M 25) u i) = v ∧ M 25 (M 24 (rpt (M 24) (M 25) u i)) = u) ∨ (M 24 (rpt (M 24) (M 25) u i) ≠ v ∧ M 25 (M 24 (rpt (M 24) (M 25) u i)) = M 25 (M 24 (rpt (M 24) (M 25) u i))) := by
        by_cases q : M 24 (rpt (M 24) (M 25) u i) = v
        · exact Or.inl ⟨q, by rw [q, hvu]⟩
        · exact Or.inr ⟨q, rfl⟩
      obtain ⟨E1, ea, w0, w1, wx, e1, e2⟩ := turn_step (w := M 25 (M 24 (rpt (M 24) (M 25) u i))) hu hT huv S p1 ⟨m1, hmi⟩ hcase E L
      have bnd : ∀ a b : Int, 0 ≤ a → a < n → 0 ≤ b → b < n → 0 ≤ GX N a b ∧ GX N a b ≤ 2000 := fun a b a0 a1 b0 b1 => by
        have t1 := su_term (n := n) (f := GX N a) (fun k k0 k1 => E.1 a k a0 a1 k0 k1) b0 b1
        have t2 := E.2.1 a a0 a1
        have t3 := hP.2.1 a a0 a1
        have t4 := hα a a0 a1
        have t5 := E.1 a b a0 a1 b0 b1
        refine ⟨t5, ?_⟩
        split at t2 <;> split at t2 <;> omega
      have b1 := bnd _ _ s1 s2 s3 s4
      have b2 := bnd _ _ w0 w1 s3 s4
      have c1 : N (70 + rpt (M 24) (M 25) u i) (M 24 (rpt (M 24) (M 25) u i)) = GX N (rpt (M 24) (M 25) u i) (M 24 (rpt (M 24) (M 25) u i)) := (GX_in (by omega)).symm
      refine ⟨by omega, by omega, by omega, by rw [c1]; omega, fun N1 f1 => ⟨by omega, fun w hw => ?_⟩⟩
      have t25 : N1 25 = M 25 := by rw [f1, row_ne (by omega), r25]
      rw [t25] at hw
      subst hw
      have c2 : N1 (70 + M 25 (M 24 (rpt (M 24) (M 25) u i))) (M 24 (rpt (M 24) (M 25) u i)) = GX N (M 25 (M 24 (rpt (M 24) (M 25) u i))) (M 24 (rpt (M 24) (M 25) u i)) := by
        rw [f1, mset_r (by omega), GX_in (by omega)]
      refine ⟨by omega, by omega, by omega, by rw [c2]; omega, fun N2 f2 => ?_⟩
      have g2 : GX N2 = up2 (up2 (GX N) (rpt (M 24) (M 25) u i) (M 24 (rpt (M 24) (M 25) u i)) (GX N (rpt (M 24) (M 25) u i) (M 24 (rpt (M 24) (M 25) u i)) - m)) (M 25 (M 24 (rpt (M 24) (M 25) u i))) (M 24 (rpt (M 24) (M 25) u i)) (GX N (M 25 (M 24 (rpt (M 24) (M 25) u i))) (M 24 (rpt (M 24) (M 25) u i)) + m) := by
        funext a b
        by_cases d1 : a = M 25 (M 24 (rpt (M 24) (M 25) u i)) ∧ b = M 24 (rpt (M 24) (M 25) u i)
        · rw [d1.1, d1.2, up2_s, GX_in (by omega), f2, mset_s, c2]
        · rw [up2_n d1]
          by_cases d2 : a = rpt (M 24) (M 25) u i ∧ b = M 24 (rpt (M 24) (M 25) u i)
          · rw [d2.1, d2.2, up2_s, GX_in (by omega), f2, mset_r (by omega), f1, mset_s, c1]
          · rw [up2_n d2]
            unfold GX
            by_cases d3 : 0 ≤ a ∧ a < 10
            · rw [if_pos d3, if_pos d3, f2]
              have e : mset N1 (70 + M 25 (M 24 (rpt (M 24) (M 25) u i))) (M 24 (rpt (M 24) (M 25) u i)) (N1 (70 + M 25 (M 24 (rpt (M 24) (M 25) u i))) (M 24 (rpt (M 24) (M 25) u i)) + m) (70 + a) b = N1 (70 + a) b := if_neg (fun q => d1 ⟨by omega, q.2⟩)
              rw [e, f1]
              exact if_neg (fun q => d2 ⟨by omega, q.2⟩)
            · rw [if_neg d3, if_neg d3]
      have o2 : OffP M N2 := fun k hk => by rw [f2, row_ne (by omega), f1, row_ne (by omega)]; exact hO k hk
      rw [← g2] at E1 e1 e2
      have t24 : N2 24 = M 24 := o2 24 (by omega)
      rw [t24]
      refine ⟨fun q => ⟨by omega, by omega, ?_⟩, fun q => ⟨by omega, ?_⟩⟩
      · have hiI : i < I := by
          by_cases d : i = I
          · rw [d] at q; exact absurd hI2 q
          · omega
        obtain ⟨x1, x2, x3, x4⟩ := e2 q
        exact ih (i + 1) N2 (by omega) (by omega) o2 E1 x3 (by rw [x4, hN])
      · have w_u : M 25 (M 24 (rpt (M 24) (M 25) u i)) = u := by rw [q, hvu]
        rw [w_u] at E1
        cases f with
        | zero => omega
        | succ f =>
          show lpX6_turnRing_21 post (f + 1) v m _ (-1) ((i : Int) + 1) N2
          unfold lpX6_turnRing_21 jbX6_turnRing_96
          have fin := h N2 m o2 m1 E1 (by rw [e1 q, hN])
          exact ⟨fun _ => fin, fun _ => ⟨fun _ => fin, fun r => absurd rfl r⟩⟩
  -- its amount
  have key : ∀ (f i : Nat) (m : Int), 12 - (i : Int) < f → 1 ≤ m → m ≤ 1000 → (∀ k : Nat, k < i → M 24 (rpt (M 24) (M 25) u k) ≠ v ∧ m ≤ GX M (rpt (M 24) (M 25) u k) (M 24 (rpt (M 24) (M 25) u k))) → lpX6_ringAmount_18 (fun r3_0 M3_0 => (0 ≤ u ∧ u < 10) ∧ (∀ v16_3 : Int, v16_3 = (M3_0 24 u) → (∃ j, lpX6_turnRing_21 post j v r3_0 u v16_3 0 M3_0))) f v m (rpt (M 24) (M 25) u i) (M 24 (rpt (M 24) (M 25) u i)) i M := by
    intro f
    induction f with
    | zero =>
      intro i m hf m1 m2 hk
      obtain ⟨p1, p2⟩ := path i (fun k hk2 => (hk k hk2).1)
      have p0 := (S.2 _ (S.1 _ p1).2.2.2.2.1).2.2.1
      omega
    | succ f ih =>
      intro i m hf m1 m2 hk
      obtain ⟨p1, p2⟩ := path i (fun k hk2 => (hk k hk2).1)
      obtain ⟨s1, s2, s3, s4, s5, s6, s7⟩ := S.1 _ p1
      have p0 := (S.2 _ s5).2.2.1
      unfold lpX6_ringAmount_18 jbX6_ringAmount_80 jbX6_ringAmount_72
      refine ⟨fun g => by omega, fun g => ⟨fun g1 => by omega, fun g1 => ⟨by omega, by omega, fun a ha => ⟨by omega, fun w hw => ?_⟩⟩⟩⟩
      subst hw
      have ha' : a = min m (GX M (rpt (M 24) (M 25) u i) (M 24 (rpt (M 24) (M 25) u i))) := by rw [GX_in (by omega)]; exact ha
      refine ⟨fun q => ?_, fun q => ⟨by omega, ?_⟩⟩
      · obtain ⟨_, _, _, t⟩ := S.2 _ s5
        obtain ⟨t1, t2, _⟩ := t q
        refine ⟨by omega, by omega, ?_⟩
        exact ih (i + 1) a (by omega) (by omega) (by omega) (fun k hk2 => by
          by_cases d : k = i
          · rw [d]; exact ⟨q, by omega⟩
          · have := hk k (by omega)
            exact ⟨this.1, by omega⟩)
      · cases f with
        | zero => omega
        | succ f =>
          show lpX6_ringAmount_18 _ (f + 1) v a _ (-1) ((i : Int) + 1) M
          unfold lpX6_ringAmount_18 jbX6_ringAmount_80
          have fin : (0 ≤ u ∧ u < 10) ∧ (∀ v16_3 : Int, v16_3 = (M 24 u) → (∃ j, lpX6_turnRing_21 post j v a u v16_3 0 M)) := ⟨by omega, fun b hb => ⟨i + 3, by
            rw [hb]
            exact key2 a i (by omega) (by omega) (fun k hk2 => by
              by_cases d : k = i
              · rw [d]; omega
              · have := hk k (by omega); omega) (fun k hk2 => (hk k hk2).1) q (i + 3) 0 M (by omega) (by omega) (fun _ _ => rfl) (turn_start hP) (fun _ _ _ => Int.le_refl _) rfl⟩⟩
          exact ⟨fun _ => fin, fun _ => ⟨fun _ => fin, fun r => absurd rfl r⟩⟩
  unfold wpX6_turnRing wpX6_ringAmount
  exact ⟨by omega, fun b hb => ⟨13, by rw [hb]; exact key 13 0 1000 (by omega) (by omega) (by omega) (fun k hk => by omega)⟩⟩
