/-! the reference's plan -/
theorem pl_ext {n : Int} {α β : Int → Int} {F G : Int → Int → Int} (h : ∀ u v : Int, 0 ≤ u → u < n → 0 ≤ v → v < n → F u v = G u v) (H : Pl n α β G) : Pl n α β F := by
  refine ⟨fun u v a b c d => by rw [h u v a b c d]; exact H.1 u v a b c d, fun u a b => ?_, fun v a b => ?_⟩
  · rw [su_congr (fun v c d => h u v a b c d)]; exact H.2.1 u a b
  · rw [su_congr (f := fun u => F u v) (g := fun u => G u v) (fun u c d => h u v c d a b)]; exact H.2.2 v a b
theorem cst_ext {n : Int} {δ F G : Int → Int → Int} (h : ∀ u v : Int, 0 ≤ u → u < n → 0 ≤ v → v < n → F u v = G u v) : cst n δ F = cst n δ G := su2_congr (fun u v a b c d => by rw [h u v a b c d])
theorem opt_ext {n : Int} {δ : Int → Int → Int} {α β : Int → Int} {F G : Int → Int → Int} (h : ∀ u v : Int, 0 ≤ u → u < n → 0 ≤ v → v < n → F u v = G u v) (H : Opt n δ α β G) : Opt n δ α β F := ⟨pl_ext h H.1, fun A hA => by rw [cst_ext h]; exact H.2 A hA⟩
theorem som_opt {n m : Int} {δ : Int → Int → Int} {α β : Int → Int} {G : Int → Int → Int} (hm : m = su n α) (hP : Pl n α β G) (H : Som n δ α β m (cst n δ G)) : Opt n δ α β G := ⟨hP, fun A hA => H.2 A ⟨hA.1, fun u a b => by rw [hA.2.1 u a b]; exact Int.le_refl _, fun v a b => by rw [hA.2.2 v a b]; exact Int.le_refl _, by rw [su_congr (fun u a b => hA.2.1 u a b), hm]⟩⟩
def Off11 (M M' : Mem) : Prop := ∀ k : Int, k ≠ 11 → M' k = M k
theorem X9_turn {n u v : Int} {us tg : Int → Int → Prop} {α β : Int → Int} {M : Mem} {ps : Int → Int} {post : Mem → Prop} (hn : 0 ≤ n ∧ n ≤ 10) (hu : 0 ≤ u ∧ u < n) (hv : 0 ≤ v ∧ v < n) (hα : ∀ v : Int, 0 ≤ v → v < n → 0 ≤ α v ∧ α v ≤ 1000) (hT : tg u v) (huv : ¬ us u v) (hP : Pl n α β (gC M)) (hps : ∀ y : Int, 0 ≤ y → y < n → M 18 (10 + y) ≠ 0 → ps y < 20) (hRu : M 18 u ≠ 0) (S : RgS n u v us tg (gC M) (fun x => M 16 x - 10) (fun y => M 16 (10 + y)) ps (fun x => 0 ≤ x ∧ x < n ∧ M 18 x ≠ 0) (fun y => 0 ≤ y ∧ y < n ∧ M 18 (10 + y) ≠ 0))
    (h : ∀ (M' : Mem) (m : Int), Off11 M M' → (∀ j : Int, (∀ a b : Int, 0 ≤ a → a < n → 0 ≤ b → b < n → j ≠ 10 * a + b) → M' 11 j = M 11 j) → 1 ≤ m → TurnE n u v m us tg (gC M) u (gC M') → gC M' u v = gC M u v + m → post M') : wpX9_turn u v M post := by
  have hR : (fun x => 0 ≤ x ∧ x < n ∧ M 18 x ≠ 0) u := ⟨hu.1, hu.2, hRu⟩
  have path := rpt_in S hR
  have st := S.1 u hR
  have ps9 := hps _ st.2.2.1 st.2.2.2.1 st.2.2.2.2.1.2.2
  have cell : ∀ x y : Int, 0 ≤ x → x < n → 0 ≤ y → y < n → gC M x y ≤ 1000 := fun x y a b c d => by
    have h1 := su_term (n := n) (f := gC M x) (fun k k0 k1 => hP.1 x k a b k0 k1) c d
    rw [hP.2.1 x a b] at h1
    have := hα x a b
    omega
  -- a cell's change
  have chg : ∀ (N N1 : Mem) (x y z : Int), 0 ≤ x → x < 10 → 0 ≤ y → y < 10 → N1 = mset N 11 (10 * x + y) z → gC N1 = up2 (gC N) x y z := fun N N1 x y z x0 x1 y0 y1 e => by
    funext a b
    by_cases d : a = x ∧ b = y
    · rw [d.1, d.2, up2_s, gC_in ⟨⟨x0, x1⟩, y0, y1⟩, e, mset_s]
    · rw [up2_n d]
      unfold gC
      by_cases c : (0 ≤ a ∧ a < 10) ∧ 0 ≤ b ∧ b < 10
      · rw [if_pos c, if_pos c, e, mset_i (ix_ne c.2.1 c.2.2 y0 y1 d)]
      · rw [if_neg c, if_neg c]
  -- one row and one column of the way
  have step : ∀ (m x : Int) (fu : Nat) (N : Mem), 1 ≤ m → m ≤ 1000 → m ≤ gC M x (M 16 x - 10) → (0 ≤ x ∧ x < n ∧ M 18 x ≠ 0) → Off11 M N → (∀ j : Int, (∀ a b : Int, 0 ≤ a → a < n → 0 ≤ b → b < n → j ≠ 10 * a + b) → N 11 j = M 11 j) → TurnE n u v m us tg (gC M) x (gC N) → TurnL (gC M) (fun x => M 16 x - 10) ps (fun x => 0 ≤ x ∧ x < n ∧ M 18 x ≠ 0) x (gC N) → gC N u v = gC M u v → (M 16 x - 10 ≠ v → ∀ N' : Mem, Off11 M N' → (∀ j : Int, (∀ a b : Int, 0 ≤ a → a < n → 0 ≤ b → b < n → j ≠ 10 * a + b) → N' 11 j = M 11 j) → TurnE n u v m us tg (gC M) (M 16 (M 16 x)) (gC N') → TurnL (gC M) (fun x => M 16 x - 10) ps (fun x => 0 ≤ x ∧ x < n ∧ M 18 x ≠ 0) (M 16 (M 16 x)) (gC N') → gC N' u v = gC M u v → lpX9_turn_73 post fu u v m (M 16 (M 16 x)) N') → lpX9_turn_73 post (fu + 1 + 1) u v m x N := by
    intro m x fu N m1 m2 hmi p1 hO h11 E L hN cont
    obtain ⟨s1, s2, s3, s4, s5, s6, s7⟩ := S.1 x p1
    have s3 : 0 ≤ M 16 x - 10 := s3
    have s4 : M 16 x - 10 < n := s4
    have r16 : N 16 = M 16 := hO 16 (by omega)
    have bnd : ∀ a b : Int, 0 ≤ a → a < n → 0 ≤ b → b < n → 0 ≤ gC N a b ∧ gC N a b ≤ 2000 := fun a b a0 a1 b0 b1 => by
      have t1 := su_term (n := n) (f := gC N a) (fun k k0 k1 => E.1 a k a0 a1 k0 k1) b0 b1
      have t2 := E.2.1 a a0 a1
      have t3 := hP.2.1 a a0 a1
      have t4 := hα a a0 a1
      have t5 := E.1 a b a0 a1 b0 b1
      refine ⟨t5, ?_⟩
      split at t2 <;> split at t2 <;> omega
    have b1 := bnd x (M 16 x - 10) s1 s2 s3 s4
    have c1 : N 11 (10 * x + M 16 x - 10) = gC N x (M 16 x - 10) := by
      rw [gC_in (by omega)]; congr 1; omega
    unfold lpX9_turn_73
    refine ⟨by omega, fun g => by omega, fun g => ⟨fun g1 => by omega, fun g1 => ?_⟩⟩
    rw [r16, c1]
    refine ⟨by omega, by omega, by omega, by omega, fun N1 f1 => ?_⟩
    unfold jbX9_turn_142
    have t16 : N1 16 = M 16 := by rw [f1, row_ne (by omega), r16]
    rw [t16]
    refine ⟨by omega, fun k hk => ?_⟩
    subst hk
    have gn1 := chg N N1 x (M 16 x - 10) (gC N x (M 16 x - 10) - m) s1 (by omega) s3 (by omega) (by rw [f1]; congr 1; omega)
    have o1 : Off11 M N1 := fun k hk => by rw [f1, row_ne hk]; exact hO k hk
    have h1 : ∀ j : Int, (∀ a b : Int, 0 ≤ a → a < n → 0 ≤ b → b < n → j ≠ 10 * a + b) → N1 11 j = M 11 j := fun j hj => by
      rw [f1, mset_i (by have := hj x (M 16 x - 10) s1 s2 s3 s4; omega)]; exact h11 j hj
    show lpX9_turn_73 post (fu + 1) u v m (M 16 x) N1
    unfold lpX9_turn_73
    refine ⟨by omega, fun g2 => ?_, fun g2 => ⟨fun g3 => ?_, fun g3 => by omega⟩⟩
    · -- the end
      have e : (fun x => M 16 x - 10) x = v := by show M 16 x - 10 = v; omega
      obtain ⟨E1, ea, w0, w1, wx, e1, e2⟩ := turn_step (w := u) hu hT huv S p1 ⟨m1, hmi⟩ (Or.inl ⟨e, rfl⟩) E L
      have e1 := e1 e
      have ev : M 16 x - 10 = v := e
      have b2 := bnd u v hu.1 hu.2 hv.1 hv.2
      have c2 : N1 11 (10 * u + v) = gC N u v := by
        have : gC N1 u v = gC N u v := by rw [gn1]; exact up2_n (fun q => wx q.1)
        rw [gC_in (by omega)] at this
        exact this
      rw [c2]
      refine ⟨by omega, by omega, by omega, fun N2 f2 => ?_⟩
      have gn2 := chg N1 N2 u v (gC N u v + m) hu.1 (by omega) hv.1 (by omega) f2
      have ge : gC N2 = up2 (up2 (gC N) x ((fun x => M 16 x - 10) x) (gC N x ((fun x => M 16 x - 10) x) - m)) u ((fun x => M 16 x - 10) x) (gC N u ((fun x => M 16 x - 10) x) + m) := by
        show gC N2 = up2 (up2 (gC N) x (M 16 x - 10) (gC N x (M 16 x - 10) - m)) u (M 16 x - 10) (gC N u (M 16 x - 10) + m)
        rw [gn2, gn1, ev]
      rw [← ge] at E1 e1
      refine h N2 m (fun k hk => by rw [f2, row_ne hk]; exact o1 k hk) (fun j hj => by rw [f2, mset_i (hj u v hu.1 hu.2 hv.1 hv.2)]; exact h1 j hj) m1 E1 (by rw [e1, hN])
    · -- further on
      have ne : (fun x => M 16 x - 10) x ≠ v := by show M 16 x - 10 ≠ v; omega
      obtain ⟨E1, ea, w0, w1, wx, e1, e2⟩ := turn_step (w := (fun y => M 16 (10 + y)) ((fun x => M 16 x - 10) x)) hu hT huv S p1 ⟨m1, hmi⟩ (Or.inr ⟨ne, rfl⟩) E L
      obtain ⟨x1, x2, x3, x4⟩ := e2 ne
      have ek : 10 + (M 16 x - 10) = M 16 x := by omega
      have w0 : 0 ≤ M 16 (10 + (M 16 x - 10)) := w0
      have w1 : M 16 (10 + (M 16 x - 10)) < n := w1
      have wx : M 16 (10 + (M 16 x - 10)) ≠ x := wx
      rw [t16]
      have b2 := bnd (M 16 (10 + (M 16 x - 10))) (M 16 x - 10) w0 w1 s3 s4
      have c2 : N1 11 (10 * M 16 (M 16 x) + M 16 x - 10) = gC N (M 16 (10 + (M 16 x - 10))) (M 16 x - 10) := by
        have q1 : gC N1 (M 16 (10 + (M 16 x - 10))) (M 16 x - 10) = gC N (M 16 (10 + (M 16 x - 10))) (M 16 x - 10) := by rw [gn1]; exact up2_n (fun q => wx q.1)
        rw [gC_in (by omega)] at q1
        rw [← q1]
        congr 1
        rw [ek]; omega
      rw [c2]
      rw [ek] at w0 w1 b2 c2 ⊢
      refine ⟨by omega, by omega, by omega, by omega, fun N2 f2 => ?_⟩
      unfold jbX9_turn_142
      have u16 : N2 16 = M 16 := by rw [f2, row_ne (by omega), t16]
      rw [u16]
      refine ⟨by omega, fun k hk => ?_⟩
      subst hk
      have gn2 := chg N1 N2 (M 16 (M 16 x)) (M 16 x - 10) (gC N (M 16 (M 16 x)) (M 16 x - 10) + m) w0 (by omega) s3 (by omega) (by rw [f2]; congr 1; omega)
      have ge : gC N2 = up2 (up2 (gC N) x ((fun x => M 16 x - 10) x) (gC N x ((fun x => M 16 x - 10) x) - m)) ((fun y => M 16 (10 + y)) ((fun x => M 16 x - 10) x)) ((fun x => M 16 x - 10) x) (gC N ((fun y => M 16 (10 + y)) ((fun x => M 16 x - 10) x)) ((fun x => M 16 x - 10) x) + m) := by
        show gC N2 = up2 (up2 (gC N) x (M 16 x - 10) (gC N x (M 16 x - 10) - m)) (M 16 (10 + (M 16 x - 10))) (M 16 x - 10) (gC N (M 16 (10 + (M 16 x - 10))) (M 16 x - 10) + m)
        rw [ek, gn2, gn1]
      rw [← ge] at E1 x3 x4
      have ew : (fun y => M 16 (10 + y)) ((fun x => M 16 x - 10) x) = M 16 (M 16 x) := by show M 16 (10 + (M 16 x - 10)) = M 16 (M 16 x); rw [ek]
      rw [ew] at E1 x3
      exact cont ne N2 (fun k hk => by rw [f2, row_ne hk]; exact o1 k hk) (fun j hj => by rw [f2, mset_i (by have := hj (M 16 (M 16 x)) (M 16 x - 10) w0 w1 s3 s4; omega)]; exact h1 j hj) E1 x3 (by rw [x4, hN])
  have nx : ∀ i : Nat, (∀ k : Nat, k ≤ i → M 16 (rpt (fun x => M 16 x - 10) (fun y => M 16 (10 + y)) u k) - 10 ≠ v) → rpt (fun x => M 16 x - 10) (fun y => M 16 (10 + y)) u (i + 1) = M 16 (M 16 (rpt (fun x => M 16 x - 10) (fun y => M 16 (10 + y)) u i)) := fun i _ => by
    show M 16 (10 + (M 16 (rpt (fun x => M 16 x - 10) (fun y => M 16 (10 + y)) u i) - 10)) = _
    congr 1
    omega
  have key2 : ∀ (m : Int) (I : Nat), 1 ≤ m → m ≤ 1000 → (∀ k : Nat, k ≤ I → m ≤ gC M (rpt (fun x => M 16 x - 10) (fun y => M 16 (10 + y)) u k) (M 16 (rpt (fun x => M 16 x - 10) (fun y => M 16 (10 + y)) u k) - 10)) → (∀ k : Nat, k < I → M 16 (rpt (fun x => M 16 x - 10) (fun y => M 16 (10 + y)) u k) - 10 ≠ v) → M 16 (rpt (fun x => M 16 x - 10) (fun y => M 16 (10 + y)) u I) - 10 = v → ∀ (g i : Nat) (N : Mem), i ≤ I → I - i ≤ g → Off11 M N → (∀ j : Int, (∀ a b : Int, 0 ≤ a → a < n → 0 ≤ b → b < n → j ≠ 10 * a + b) → N 11 j = M 11 j) → TurnE n u v m us tg (gC M) (rpt (fun x => M 16 x - 10) (fun y => M 16 (10 + y)) u i) (gC N) → TurnL (gC M) (fun x => M 16 x - 10) ps (fun x => 0 ≤ x ∧ x < n ∧ M 18 x ≠ 0) (rpt (fun x => M 16 x - 10) (fun y => M 16 (10 + y)) u i) (gC N) → gC N u v = gC M u v → lpX9_turn_73 post (2 * g + 2) u v m (rpt (fun x => M 16 x - 10) (fun y => M 16 (10 + y)) u i) N := by
    intro m I m1 m2 hm hI1 hI2 g
    induction g with
    | zero =>
      intro i N hi hg hO h11 E L hN
      have e : i = I := by omega
      subst e
      obtain ⟨p1, p2⟩ := path i (fun k hk => hI1 k hk)
      exact step m _ 0 N m1 m2 (hm i (by omega)) p1 hO h11 E L hN (fun q => absurd hI2 q)
    | succ g ih =>
      intro i N hi hg hO h11 E L hN
      obtain ⟨p1, p2⟩ := path i (fun k hk => hI1 k (by omega))
      refine step m _ (2 * g + 2) N m1 m2 (hm i hi) p1 hO h11 E L hN (fun q N' a1 a2 a3 a4 a5 => ?_)
      have hiI : i < I := by
        by_cases d : i = I
        · rw [d] at q; exact absurd hI2 q
        · omega
      rw [← nx i (fun k hk => hI1 k (by omega))] at a3 a4 ⊢
      exact ih (i + 1) N' (by omega) (by omega) a1 a2 a3 a4 a5
  -- its amount
  have key : ∀ (g i : Nat) (m : Int), 20 ≤ i + g → 1 ≤ m → (1 ≤ i → m ≤ 1000) → (∀ k : Nat, k < i → M 16 (rpt (fun x => M 16 x - 10) (fun y => M 16 (10 + y)) u k) - 10 ≠ v ∧ m ≤ gC M (rpt (fun x => M 16 x - 10) (fun y => M 16 (10 + y)) u k) (M 16 (rpt (fun x => M 16 x - 10) (fun y => M 16 (10 + y)) u k) - 10)) → lpX9_turn_6 post (2 * g) u v m (rpt (fun x => M 16 x - 10) (fun y => M 16 (10 + y)) u i) M := by
    intro g
    induction g with
    | zero =>
      intro i m hg m1 m2 hk
      obtain ⟨p1, p2⟩ := path i (fun k hk2 => (hk k hk2).1)
      have p0 : 0 ≤ ps (M 16 (rpt (fun x => M 16 x - 10) (fun y => M 16 (10 + y)) u i) - 10) := (S.2 _ (S.1 _ p1).2.2.2.2.1).2.2.1
      have ps9 : ps (M 16 u - 10) < 20 := ps9
      omega
    | succ g ih =>
      intro i m hg m1 m2 hk
      obtain ⟨p1, p2⟩ := path i (fun k hk2 => (hk k hk2).1)
      obtain ⟨s1, s2, s3, s4, s5, s6, s7⟩ := S.1 _ p1
      have s3 : 0 ≤ M 16 (rpt (fun x => M 16 x - 10) (fun y => M 16 (10 + y)) u i) - 10 := s3
      have s4 : M 16 (rpt (fun x => M 16 x - 10) (fun y => M 16 (10 + y)) u i) - 10 < n := s4
      have s7 : 0 < gC M (rpt (fun x => M 16 x - 10) (fun y => M 16 (10 + y)) u i) (M 16 (rpt (fun x => M 16 x - 10) (fun y => M 16 (10 + y)) u i) - 10) := s7
      have cl := cell _ _ s1 s2 s3 s4
      have c1 : M 11 (10 * rpt (fun x => M 16 x - 10) (fun y => M 16 (10 + y)) u i + M 16 (rpt (fun x => M 16 x - 10) (fun y => M 16 (10 + y)) u i) - 10) = gC M (rpt (fun x => M 16 x - 10) (fun y => M 16 (10 + y)) u i) (M 16 (rpt (fun x => M 16 x - 10) (fun y => M 16 (10 + y)) u i) - 10) := by
        rw [gC_in (by omega)]; congr 1; omega
      -- the column behind it
      have col : ∀ a : Int, 1 ≤ a → a ≤ 1000 → a ≤ m → a ≤ gC M (rpt (fun x => M 16 x - 10) (fun y => M 16 (10 + y)) u i) (M 16 (rpt (fun x => M 16 x - 10) (fun y => M 16 (10 + y)) u i) - 10) → lpX9_turn_6 post (2 * g + 1) u v a (M 16 (rpt (fun x => M 16 x - 10) (fun y => M 16 (10 + y)) u i)) M := fun a a1 a2 a3 a4 => by
        unfold lpX9_turn_6
        refine ⟨by omega, fun g2 => ?_, fun g2 => ⟨fun g3 => ?_, fun g3 => by omega⟩⟩
        · refine ⟨2 * i + 2, ?_⟩
          exact key2 a i a1 a2 (fun k hk2 => by
            by_cases d : k = i
            · rw [d]; exact a4
            · have := (hk k (by omega)).2; omega) (fun k hk2 => (hk k hk2).1) (by omega) i 0 M (by omega) (by omega) (fun _ _ => rfl) (fun _ _ => rfl) (turn_start hP) (fun _ _ _ => Int.le_refl _) rfl
        · unfold jbX9_turn_58
          refine ⟨by omega, fun w hw => ?_⟩
          rw [hw, ← nx i (fun k hk2 => by
            by_cases d : k = i
            · rw [d]; omega
            · exact (hk k (by omega)).1)]
          exact ih (i + 1) a (by omega) a1 (fun _ => a2) (fun k hk2 => by
            by_cases d : k = i
            · rw [d]; exact ⟨by omega, a4⟩
            · have := hk k (by omega)
              exact ⟨this.1, by omega⟩)
      show lpX9_turn_6 post (2 * g + 1 + 1) u v m _ M
      unfold lpX9_turn_6
      refine ⟨by omega, fun g2 => by omega, fun g2 => ⟨fun g3 => by omega, fun g3 => ⟨by omega, by omega, fun w hw => ?_⟩⟩⟩
      rw [c1] at hw
      subst hw
      unfold jbX9_turn_57 jbX9_turn_58
      refine ⟨fun g4 => ⟨by omega, fun w hw => by rw [hw]; exact col m m1 (by omega) (Int.le_refl _) g4⟩, fun g4 => ⟨by omega, fun w hw => by rw [hw]; exact col _ (by omega) cl (by omega) (Int.le_refl _)⟩⟩
  exact ⟨40, key 20 0 1000000000 (by omega) (by omega) (fun q => by omega) (fun k hk => by omega)⟩
theorem X9_loosen {M : Mem} {post : Mem → Prop} (h : ∀ M' : Mem, (∀ k : Int, k ≠ 17 → M' k = M k) → (∀ j : Int, 0 ≤ j → j < 100 → M' 17 j = 0) → post M') : wpX9_loosen M post := by
  have key : ∀ (f : Nat) (x : Int) (N : Mem), 0 ≤ x → x ≤ 100 → 100 - x < f → (∀ k : Int, k ≠ 17 → N k = M k) → (∀ j : Int, 0 ≤ j → j < x → N 17 j = 0) → lpX9_loosen_2 post f x N := by
    intro f
    induction f with
    | zero => intro x N _ _ g; omega
    | succ f ih =>
      intro x N x0 x1 hf hO hI
      unfold lpX9_loosen_2
      refine ⟨fun g => h N hO (fun j a b => hI j a (by omega)), fun g => ⟨by omega, fun N1 e1 => ⟨by omega, ?_⟩⟩⟩
      refine ih (x + 1) N1 (by omega) (by omega) (by omega) (fun k hk => by rw [e1, row_ne hk]; exact hO k hk) (fun j a b => ?_)
      by_cases c : j = x
      · rw [e1, c, mset_s]
      · rw [e1, mset_i c]; exact hI j a (by omega)
  exact ⟨101, key 101 0 M (by omega) (by omega) (by omega) (fun _ _ => rfl) (fun j _ _ => by omega)⟩
theorem X9_isTight {n u v : Int} {M : Mem} {post : Int → Mem → Prop} (hn : n ≤ 10) (hu : 0 ≤ u ∧ u < n) (hv : 0 ≤ v ∧ v < n) (hH : ∀ x : Int, 0 ≤ x → x < n → -100000 ≤ M 14 x ∧ M 14 x ≤ 100000) (h0 : M 14 u - M 14 v ≠ M 10 (10 * u + v) → post 0 M) (h1 : M 14 u - M 14 v = M 10 (10 * u + v) → post 1 M) : wpX9_isTight u v M post := by
  have a := hH u hu.1 hu.2
  have b := hH v hv.1 hv.2
  unfold wpX9_isTight jbX9_isTight_32
  exact ⟨by omega, by omega, by omega, by omega, fun q => ⟨Or.inl rfl, h0 q⟩, fun q => ⟨Or.inr rfl, h1 q⟩⟩
/-- the rows that a plan's making writes in the reference -/
def OffL (M M' : Mem) : Prop := ∀ k : Int, (k < 11 ∨ 19 < k) → M' k = M k
theorem offC_g {M M' : Mem} (h : OffC M M') : gC M' = gC M := by
  funext a b
  unfold gC
  rw [h 11 (by omega) (by omega) (by omega)]
/-- the reference's cells, one by one -/
theorem rp_loop {n cost : Int} {α β H : Int → Int} {δ : Int → Int → Int} {M : Mem} {post : Mem → Prop} (hn : 0 ≤ n ∧ n ≤ 10) (hc : 0 ≤ cost) (e0 : M 0 0 = n) (eδ : ∀ u v : Int, 0 ≤ u → u < n → 0 ≤ v → v < n → M 10 (10 * u + v) = δ u v) (hα : ∀ v : Int, 0 ≤ v → v < n → 0 ≤ α v ∧ α v ≤ 1000) (eH : M 14 = H) (hH : ∀ x : Int, 0 ≤ x → x < n → -100000 ≤ H x ∧ H x ≤ 100000) (hV : Pv n δ α β H) (ho : Opt n δ α β (gC M)) (h17 : ∀ j : Int, 0 ≤ j → j < 100 → M 17 j = 0)
    (h : ∀ M' : Mem, OffL M M' → M' 14 = H → Fst n δ α β (gC M') → (∀ j : Int, (∀ a b : Int, 0 ≤ a → a < n → 0 ≤ b → b < n → j ≠ 10 * a + b) → M' 11 j = M 11 j) → post M') : ∃ j, lpX9_findPlan_23 post j cost 0 M := by
  have hL := hV.1
  let Stt : Int → Mem → Prop := fun k N => (∀ i : Int, (i < 11 ∨ 19 < i) → N i = M i) ∧ N 14 = H ∧ Opt n δ α β (gC N) ∧ Lex n δ α β k (gC N) ∧ ∀ j : Int, (∀ a b : Int, 0 ≤ a → a < n → 0 ≤ b → b < n → j ≠ 10 * a + b) → N 11 j = M 11 j
  have key : ∀ (f : Nat) (u : Int) (N : Mem), 0 ≤ u → u ≤ n → n - u < f → Stt (10 * u) N → (∀ x y : Int, 0 ≤ x → x < n → 0 ≤ y → y < n → (N 17 (10 * x + y) = 0 ↔ u ≤ x)) → lpX9_findPlan_23 post f cost u N := by
    intro f
    induction f with
    | zero => intro u N _ _ g; omega
    | succ f ih =>
      intro u N u0 u1 hf St hX
      obtain ⟨t1, t2, t3, t4, t5⟩ := id St
      unfold lpX9_findPlan_23 jbX9_findPlan_107
      rw [t1 0 (by omega), e0]
      refine ⟨fun g => ?_, fun g => ⟨fun q => by omega, fun _ => ?_⟩⟩
      · have e : u = n := by omega
        subst e
        exact h N t1 t2 (lex_fst t3 t4 hn.2) t5
      · have un : u < n := by omega
        have key2 : ∀ (f2 : Nat) (v : Int) (N : Mem), 0 ≤ v → v ≤ n → n - v < f2 → Stt (10 * u + v) N → (∀ x y : Int, 0 ≤ x → x < n → 0 ≤ y → y < n → (N 17 (10 * x + y) = 0 ↔ (u < x ∨ (u = x ∧ v ≤ y)))) → lpX9_findPlan_39 post (fun y3 y4 N => lpX9_findPlan_23 post f y3 y4 N) f2 cost u v N := by
          intro f2
          induction f2 with
          | zero => intro v N _ _ g; omega
          | succ f2 ih2 =>
            intro v N v0 v1 hf2 St hX
            unfold lpX9_findPlan_39
            rw [St.1 0 (by omega), e0]
            refine ⟨fun g2 => ⟨by omega, ?_⟩, fun g2 => ?_⟩
            · obtain ⟨t1, t2, t3, t4, t5⟩ := St
              refine ih (u + 1) N (by omega) (by omega) (by omega) ⟨t1, t2, t3, fun x y a b c d hk => ?_, t5⟩ (fun x y a b c d => ?_)
              · by_cases e : x < u
                · exact t4 x y a b c d (by omega)
                · exact t4 x y a b c d (by omega)
              · rw [hX x y a b c d]; omega
            · have vn : v < n := by omega
              -- the cell is fixed
              have fix : ∀ N : Mem, Stt (10 * u + (v + 1)) N → (∀ x y : Int, 0 ≤ x → x < n → 0 ≤ y → y < n → (N 17 (10 * x + y) = 0 ↔ (u < x ∨ (u = x ∧ v ≤ y)))) → jbX9_findPlan_81 post (fun y3 y4 N => lpX9_findPlan_23 post f y3 y4 N) (fun y3 y4 y5 N => lpX9_findPlan_39 post (fun y3 y4 N => lpX9_findPlan_23 post f y3 y4 N) f2 y3 y4 y5 N) cost u v N := fun N St hX => by
                unfold jbX9_findPlan_81
                refine ⟨by omega, fun N1 e1 => ⟨by omega, ?_⟩⟩
                obtain ⟨t1, t2, t3, t4, t5⟩ := St
                have r11 : N1 11 = N 11 := by rw [e1, row_ne (by omega)]
                have eg : gC N1 = gC N := by funext a b; unfold gC; rw [r11]
                refine ih2 (v + 1) N1 (by omega) (by omega) (by omega) ⟨fun i hi => by rw [e1, row_ne (by omega)]; exact t1 i hi, by rw [e1, row_ne (by omega)]; exact t2, by rw [eg]; exact t3, by rw [eg]; exact t4, fun j hj => by rw [r11]; exact t5 j hj⟩ (fun x y a b c d => ?_)
                by_cases e : x = u ∧ y = v
                · rw [e.1, e.2, e1, mset_s]; omega
                · rw [e1, mset_i (ix_ne c (by omega) v0 (by omega) e), hX x y a b c d]; omega
              have key3 : ∀ (f3 : Nat) (N : Mem), 1000 - gC N u v < f3 → Stt (10 * u + v) N → (∀ x y : Int, 0 ≤ x → x < n → 0 ≤ y → y < n → (N 17 (10 * x + y) = 0 ↔ (u < x ∨ (u = x ∧ v ≤ y)))) → lpX9_findPlan_48 post (fun y3 y4 N => lpX9_findPlan_23 post f y3 y4 N) (fun y3 y4 y5 N => lpX9_findPlan_39 post (fun y3 y4 N => lpX9_findPlan_23 post f y3 y4 N) f2 y3 y4 y5 N) f3 cost u v N := by
                intro f3
                induction f3 with
                | zero =>
                  intro N hg St
                  have a1 := su_term (n := n) (f := gC N u) (fun k k0 k1 => St.2.2.1.1.1 u k u0 un k0 k1) v0 vn
                  rw [St.2.2.1.1.2.1 u u0 un] at a1
                  have := hα u u0 un
                  omega
                | succ f3 ih3 =>
                  intro N hg St hX
                  obtain ⟨t1, t2, t3, t4, t5⟩ := id St
                  unfold lpX9_findPlan_48
                  refine X9_isTight hn.2 ⟨u0, un⟩ ⟨v0, vn⟩ (by rw [t2]; exact hH) (fun g3 => ⟨fun _ => fix N ⟨t1, t2, t3, lex_s ⟨v0, by omega⟩ hn.2 t4 (fun A hA _ => ?_), t5⟩ hX, fun q => absurd rfl q⟩) (fun g3 => ⟨fun q => by omega, fun _ => ?_⟩)
                  · rw [t2, t1 10 (by omega), eδ u v u0 un v0 vn] at g3
                    have g0 := t3.1.1 u v u0 un v0 vn
                    by_cases q : 0 < A u v
                    · exact absurd (pv_tight hV hA u v u0 un v0 vn q) g3
                    · omega
                  · rw [t2, t1 10 (by omega), eδ u v u0 un v0 vn] at g3
                    have gg : ∀ x y : Int, 0 ≤ x → x < n → 0 ≤ y → y < n → N 11 (10 * x + y) = gC N x y := fun x y a b c d => (gC_in (by omega)).symm
                    refine X9_canTurn hn ⟨u0, un⟩ ⟨v0, vn⟩ (by rw [t1 0 (by omega), e0]) (by rw [t2]; exact hH) (fun N1 hO1 p1 p2 p3 p4 => ⟨fun _ => ?_, fun q => absurd rfl q⟩) (fun N1 ps hO1 p1 p3 S => ⟨fun q => by omega, fun _ => ?_⟩)
                    · have eg := offC_g hO1
                      refine fix N1 ⟨fun i hi => by rw [hO1 i (by omega) (by omega) (by omega)]; exact t1 i hi, by rw [hO1 14 (by omega) (by omega) (by omega)]; exact t2, by rw [eg]; exact t3, ?_, fun j hj => by rw [hO1 11 (by omega) (by omega) (by omega)]; exact t5 j hj⟩ (fun x y a b c d => by rw [hO1 17 (by omega) (by omega) (by omega)]; exact hX x y a b c d)
                      rw [eg]
                      refine lex_s ⟨v0, by omega⟩ hn.2 t4 (fun A hA hb => ?_)
                      refine cut_lex (us := usR N u v) (R := fun x => N1 18 x ≠ 0) (C := fun y => N1 18 (10 + y) ≠ 0) ⟨u0, un⟩ ⟨v0, vn⟩ t3.1 hA.1 (pv_tight hV hA) p2 (fun q => q p1) (fun x y a b c d q r s => p3 x y a b c d q r (by rw [gg x y a b c d]; exact s)) (fun x y a b c d q r s => p4 x y a b c d q r (by rw [t2, t1 10 (by omega), eδ x y a b c d]; exact s)) (fun x y a b c d q1 q2 => hb x y a b c d ?_)
                      have : ¬ N 17 (10 * x + y) = 0 := fun q => q1 ⟨q, q2⟩
                      rw [hX x y a b c d] at this
                      omega
                    · have eg := offC_g hO1
                      have S' : RgS n u v (usR N u v) (fun a b => 0 ≤ a ∧ a < n ∧ 0 ≤ b ∧ b < n ∧ N 14 a - N 14 b = N 10 (10 * a + b)) (gC N1) (fun x => N1 16 x - 10) (fun y => N1 16 (10 + y)) ps (fun x => 0 ≤ x ∧ x < n ∧ N1 18 x ≠ 0) (fun y => 0 ≤ y ∧ y < n ∧ N1 18 (10 + y) ≠ 0) := by
                        refine ⟨fun x hx => ?_, fun y hy => ?_⟩
                        · obtain ⟨a1, a2, a3, a4, a5, a6, a7⟩ := S.1 x hx
                          exact ⟨a1, a2, a3, a4, a5, a6, by rw [eg, ← gg _ _ a1 a2 a3 a4]; exact a7⟩
                        · obtain ⟨a1, a2, a3, a4⟩ := S.2 y hy
                          refine ⟨a1, a2, a3, fun q => ?_⟩
                          obtain ⟨z1, z2, z3, z4, z5, z6⟩ := a4 q
                          exact ⟨z1, z2, z3, z4, ⟨z1, z2, a1, a2, z5⟩, z6⟩
                      refine X9_turn (α := α) (β := β) hn ⟨u0, un⟩ ⟨v0, vn⟩ hα ⟨u0, un, v0, vn, by rw [t2, t1 10 (by omega), eδ u v u0 un v0 vn]; exact g3⟩ (fun q => q.2 ⟨rfl, rfl⟩) (by rw [eg]; exact t3.1) p3 p1 S' (fun N2 m hO2 h2 m1 E eA => ?_)
                      rw [eg] at E eA
                      obtain ⟨_, _, O2⟩ := turn_end (H := H) (δ := δ) (fun a b q => by rw [t2, t1 10 (by omega), eδ a b q.1 q.2.1 q.2.2.1 q.2.2.2.1] at q; exact q.2.2.2.2) hL t3.1 (pv_tight hV t3) E
                      refine ih3 N2 (by omega) ⟨fun i hi => by rw [hO2 i (by omega), hO1 i (by omega) (by omega) (by omega)]; exact t1 i hi, by rw [hO2 14 (by omega), hO1 14 (by omega) (by omega) (by omega)]; exact t2, O2, lex_keep t4 (fun x y a b c d hk => ?_) hn.2, fun j hj => by rw [h2 j hj, hO1 11 (by omega) (by omega) (by omega)]; exact t5 j hj⟩ (fun x y a b c d => by rw [hO2 17 (by omega), hO1 17 (by omega) (by omega) (by omega)]; exact hX x y a b c d)
                      refine E.2.2.2.1 x y (fun q => ?_) (fun q => by omega)
                      have := (hX x y a b c d).mp q.1
                      omega
              have g0 := St.2.2.1.1.1 u v u0 un v0 vn
              exact ⟨1001, key3 1001 N (by omega) St hX⟩
        refine ⟨11, key2 11 0 N (by omega) (by omega) (by omega) (by rw [show 10 * u + 0 = 10 * u by omega]; exact St) (fun x y a b c d => by rw [hX x y a b c d]; omega)⟩
  refine ⟨11, key 11 0 M (by omega) (by omega) (by omega) ⟨fun _ _ => rfl, eH, ho, fun x y _ _ _ _ hk => by omega, fun _ _ => rfl⟩ (fun x y a b c d => ?_)⟩
  rw [h17 _ (by omega) (by omega)]
  exact ⟨fun _ => a, fun _ => rfl⟩
