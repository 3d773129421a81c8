/-! the reference's plan, its heights, whether it is alone -/
theorem sol_opt {n m l : Int} {δ : Int → Int → Int} {α β π : Int → Int} {M : Mem} (hn : 0 ≤ n ∧ n ≤ 10) (eδ : ∀ u v : Int, 0 ≤ u → u < n → 0 ≤ v → v < n → M 10 (10 * u + v) = δ u v) (ma : m = su n α) (mb : m = su n β) (S : SolI n α β M π l) (hs : su n (fun u => su n (fun v => M 11 (10 * u + v))) = m) : Opt n δ α β (gR M) := by
  have som := sol_som hn S hs
  have hP : Pl n α β (gR M) := by
    obtain ⟨s1, s2, s3, s4, s5, s6, s7⟩ := S
    refine ⟨fun u v a b c d => (s1 u v a b c d).1, su_eq_all (n := n) (f := fun u => su n (gR M u)) (g := α) (fun u a b => by have := s2 u a b; show su n (fun v => M 11 (10 * u + v)) ≤ α u; omega) (by rw [← ma]; exact hs), su_eq_all (n := n) (f := fun v => su n (fun u => gR M u v)) (g := β) (fun v a b => by have := s3 v a b; show su n (fun u => M 11 (10 * u + v)) ≤ β v; omega) ?_⟩
    rw [su_swap n n (fun v u => gR M u v), ← mb]
    exact hs
  have o1 := som_opt ma hP som
  have ec : ∀ A : Int → Int → Int, cst n (fun u v => M 10 (10 * u + v)) A = cst n δ A := fun A => su2_congr (fun u v a b c d => by show A u v * M 10 (10 * u + v) = A u v * δ u v; rw [eδ u v a b c d])
  refine ⟨o1.1, fun A hA => ?_⟩
  have := o1.2 A hA
  rw [ec, ec] at this
  exact this
theorem X9_planned {n a b : Int} {δ : Int → Int → Int} {α β H0 : Int → Int} {M : Mem} {post : Int → Mem → Prop} (hn : 0 ≤ n ∧ n ≤ 10) (e0 : M 0 0 = n) (ha : 0 ≤ a ∧ a < 8) (hb : 0 ≤ b ∧ b < 8) (hα : ∀ v : Int, 0 ≤ v → v < n → (0 ≤ α v ∧ α v ≤ 1000) ∧ 0 ≤ β v ∧ β v ≤ 1000) (hM : ∀ v : Int, 0 ≤ v → v < n → M 4 (10 * a + v) = α v ∧ M 4 (10 * b + v) = β v) (hM4 : ∀ v : Int, 0 ≤ v → v < 10 → 0 ≤ M 4 (10 * a + v) ∧ M 4 (10 * a + v) ≤ 1000) (hδ : Mtr n δ) (eδ : ∀ u v : Int, 0 ≤ u → u < n → 0 ≤ v → v < n → M 10 (10 * u + v) = δ u v) (hsum : su n α = su n β) (hV : Pv n δ α β H0)
    (h : ∀ (c : Int) (M' : Mem), (∀ k : Int, (k < 11 ∨ 16 < k) → M' k = M k) → 0 ≤ c → Opt n δ α β (gC M') → Hts n δ α β (M' 14) → (∀ x : Int, 0 ≤ x → x < n → -100000 ≤ M' 14 x ∧ M' 14 x ≤ 100000) → (∀ j : Int, 0 ≤ j → j < 100 → (∀ a b : Int, 0 ≤ a → a < n → 0 ≤ b → b < n → j ≠ 10 * a + b) → M' 11 j = 0) → post c M') : wpX9_sumOf a M (fun r M1 => wpX9_solve a b r M1 (fun c M2 => wpX9_findHeights M2 (fun M3 => post c M3))) := by
  have esum : su n (fun v => M 4 (10 * a + v)) = su n α := su_congr (fun v c d => (hM v c d).1)
  refine X9_sumOf ha (by omega) hM4 ?_
  rw [e0, esum]
  have nn := su_nonneg (n := n) (f := α) (fun v c d => (hα v c d).1.1)
  refine X9_solve hn e0 ha hb hα hM (fun u v p q r s => by rw [eδ u v p q r s]; exact hδ.2.1 u v p q r s) nn (Int.le_refl _) (by omega) (fun M1 π l hO S hs => ?_)
  have r10 : M1 10 = M 10 := hO 10 (by omega) (by omega) (by omega) (by omega) (by omega)
  have eδ1 : ∀ u v : Int, 0 ≤ u → u < n → 0 ≤ v → v < n → M1 10 (10 * u + v) = δ u v := fun u v p q r s => by rw [r10]; exact eδ u v p q r s
  have o1 := sol_opt hn eδ1 rfl hsum S hs
  have c0 : 0 ≤ cst n (fun u v => M 10 (10 * u + v)) (fun u v => M1 11 (10 * u + v)) := su_nonneg (fun u p q => su_nonneg (fun v r s => Int.mul_nonneg (o1.1.1 u v p q r s) (by show 0 ≤ M 10 (10 * u + v); rw [eδ u v p q r s]; exact (hδ.2.1 u v p q r s).1)))
  have mt : Mtr n (dR M1) := ⟨fun u p q => by rw [show dR M1 u u = M1 10 (10 * u + u) from rfl, eδ1 u u p q p q]; exact hδ.1 u p q, fun u v p q r s => by rw [show dR M1 u v = M1 10 (10 * u + v) from rfl, eδ1 u v p q r s]; exact hδ.2.1 u v p q r s, fun u x v p q r s t w => by
    rw [show dR M1 u v = M1 10 (10 * u + v) from rfl, show dR M1 u x = M1 10 (10 * u + x) from rfl, show dR M1 x v = M1 10 (10 * x + v) from rfl, eδ1 u v p q t w, eδ1 u x p q r s, eδ1 x v r s t w]
    exact hδ.2.2 u x v p q r s t w⟩
  have hf := pv_hfe o1 hV
  have hf1 : Hfe n (dR M1) (gR M1) H0 := ⟨fun u v p q r s => by
    rw [show dR M1 u v = M1 10 (10 * u + v) from rfl, eδ1 u v p q r s]; exact hf.1 u v p q r s, hf.2⟩
  refine X9_findHeights hn (by rw [hO 0 (by omega) (by omega) (by omega) (by omega) (by omega), e0]) mt hf1 (fun M2 hO2 hg => ?_)
  have hg' : Hgr n δ (gR M1) (M2 14) := by
    refine ⟨⟨fun u v p q r s => ?_, hg.1.2⟩, fun I hI x p q => hg.2 I ⟨fun u v p q r s => ?_, hI.2⟩ x p q⟩
    · have := hg.1.1 u v p q r s
      rw [show dR M1 u v = M1 10 (10 * u + v) from rfl, eδ1 u v p q r s] at this
      exact this
    · rw [show dR M1 u v = M1 10 (10 * u + v) from rfl, eδ1 u v p q r s]
      exact hI.1 u v p q r s
  have HT := hgr_hts o1 hg'
  have r11 : M2 11 = M1 11 := hO2 11 (by omega)
  refine h _ M2 (fun k hk => by rw [hO2 k (by omega), hO k (by omega) (by omega) (by omega) (by omega) (by omega)]) c0 (opt_ext (fun u v p q r s => by rw [gC_in (by omega), r11]) o1) HT (fun x p q => ?_) (fun j j0 j1 hj => by rw [r11]; exact S.2.2.2.2.2.2 j j0 j1 hj)
  have a1 := hfe_low (by omega) hδ hg'.1 x p q
  have a2 := (hg'.1.1 x 0 p q (by omega) (by omega)).1
  have a3 := hg'.1.2 (by omega)
  have a4 := hδ.2.1 x 0 p q (by omega) (by omega)
  omega
theorem X9_findPlan {n a b : Int} {δ : Int → Int → Int} {α β H0 : Int → Int} {M : Mem} {post : Mem → Prop} (hn : 0 ≤ n ∧ n ≤ 10) (e0 : M 0 0 = n) (ha : 0 ≤ a ∧ a < 8) (hb : 0 ≤ b ∧ b < 8) (hα : ∀ v : Int, 0 ≤ v → v < n → (0 ≤ α v ∧ α v ≤ 1000) ∧ 0 ≤ β v ∧ β v ≤ 1000) (hM : ∀ v : Int, 0 ≤ v → v < n → M 4 (10 * a + v) = α v ∧ M 4 (10 * b + v) = β v) (hM4 : ∀ v : Int, 0 ≤ v → v < 10 → 0 ≤ M 4 (10 * a + v) ∧ M 4 (10 * a + v) ≤ 1000) (hδ : Mtr n δ) (eδ : ∀ u v : Int, 0 ≤ u → u < n → 0 ≤ v → v < n → M 10 (10 * u + v) = δ u v) (hsum : su n α = su n β) (hV : Pv n δ α β H0)
    (h : ∀ M' : Mem, OffL M M' → Fst n δ α β (gC M') → Hts n δ α β (M' 14) → (∀ x : Int, 0 ≤ x → x < n → -100000 ≤ M' 14 x ∧ M' 14 x ≤ 100000) → (∀ j : Int, 0 ≤ j → j < 100 → (∀ a b : Int, 0 ≤ a → a < n → 0 ≤ b → b < n → j ≠ 10 * a + b) → M' 11 j = 0) → post M') : wpX9_findPlan a b M post := by
  unfold wpX9_findPlan
  refine X9_planned hn e0 ha hb hα hM hM4 hδ eδ hsum hV (fun c M1 hO1 c0 o1 HT hl hz => ?_)
  refine X9_loosen (fun M2 hO2 h17 => ?_)
  have r11 : M2 11 = M1 11 := hO2 11 (by omega)
  have eg : gC M2 = gC M1 := by funext p q; unfold gC; rw [r11]
  have r14 : M2 14 = M1 14 := hO2 14 (by omega)
  refine rp_loop (δ := δ) (α := α) (β := β) (H := M1 14) hn c0 (by rw [hO2 0 (by omega), hO1 0 (by omega), e0]) (fun u v p q r s => by rw [hO2 10 (by omega), hO1 10 (by omega)]; exact eδ u v p q r s) (fun v p q => (hα v p q).1) r14 hl HT.1 (by rw [eg]; exact o1) h17 (fun M3 hO3 h14 hF h11 => ?_)
  refine h M3 (fun k hk => by rw [hO3 k hk, hO2 k (by omega), hO1 k (by omega)]) hF (by rw [h14]; exact HT) (by rw [h14]; exact hl) (fun j j0 j1 hj => by rw [h11 j hj, r11]; exact hz j j0 j1 hj)
theorem X9_aloneLoop {n : Int} {α β H : Int → Int} {δ : Int → Int → Int} {M : Mem} {post : Int → Mem → Prop} (hn : 0 ≤ n ∧ n ≤ 10) (e0 : M 0 0 = n) (eδ : ∀ u v : Int, 0 ≤ u → u < n → 0 ≤ v → v < n → M 10 (10 * u + v) = δ u v) (eH : M 14 = H) (hH : ∀ x : Int, 0 ≤ x → x < n → -100000 ≤ H x ∧ H x ≤ 100000) (hV : Pv n δ α β H) (ho : Opt n δ α β (gC M)) (h17 : ∀ j : Int, 0 ≤ j → j < 100 → M 17 j = 0)
    (h1 : ∀ M' : Mem, OffC M M' → (∀ A : Int → Int → Int, Opt n δ α β A → ∀ u v : Int, 0 ≤ u → u < n → 0 ≤ v → v < n → A u v ≤ gC M u v) → post 1 M') (h0 : ∀ (M' : Mem) (u v : Int) (A : Int → Int → Int), OffC M M' → Opt n δ α β A → 0 ≤ u → u < n → 0 ≤ v → v < n → A u v = gC M u v + 1 → post 0 M') : ∃ j, lpX9_alone_26 post j 0 M := by
  have key : ∀ (f : Nat) (u : Int) (N : Mem), 0 ≤ u → u ≤ n → n - u < f → OffC M N → (∀ A : Int → Int → Int, Opt n δ α β A → ∀ x y : Int, 0 ≤ x → x < u → 0 ≤ y → y < n → A x y ≤ gC M x y) → lpX9_alone_26 post f u N := by
    intro f
    induction f with
    | zero => intro u N _ _ g; omega
    | succ f ih =>
      intro u N u0 u1 hf hO hX
      unfold lpX9_alone_26
      rw [hO 0 (by omega) (by omega) (by omega), e0]
      refine ⟨fun g => h1 N hO (fun A hA x y a b c d => hX A hA x y a (by omega) c d), fun g => ?_⟩
      have un : u < n := by omega
      have key2 : ∀ (f2 : Nat) (v : Int) (N : Mem), 0 ≤ v → v ≤ n → n - v < f2 → OffC M N → (∀ A : Int → Int → Int, Opt n δ α β A → ∀ x y : Int, 0 ≤ x → 0 ≤ y → y < n → (x < u ∨ (x = u ∧ y < v)) → A x y ≤ gC M x y) → lpX9_alone_38 post (fun y4 N => lpX9_alone_26 post f y4 N) f2 u v N := by
        intro f2
        induction f2 with
        | zero => intro v N _ _ g; omega
        | succ f2 ih2 =>
          intro v N v0 v1 hf2 hO hX
          unfold lpX9_alone_38 jbX9_alone_71
          rw [hO 0 (by omega) (by omega) (by omega), e0]
          refine ⟨fun g2 => ⟨by omega, ih (u + 1) N (by omega) (by omega) (by omega) hO (fun A hA x y a b c d => hX A hA x y a c d (by omega))⟩, fun g2 => ?_⟩
          have vn : v < n := by omega
          have nxt : ∀ N : Mem, OffC M N → (∀ A : Int → Int → Int, Opt n δ α β A → A u v ≤ gC M u v) → inR (v + 1) ∧ lpX9_alone_38 post (fun y4 N => lpX9_alone_26 post f y4 N) f2 u (v + 1) N := fun N hO hh => ⟨by omega, ih2 (v + 1) N (by omega) (by omega) (by omega) hO (fun A hA x y a c d hq => by
            by_cases e : x = u ∧ y = v
            · rw [e.1, e.2]; exact hh A hA
            · exact hX A hA x y a c d (by omega))⟩
          have r14 : N 14 = H := by rw [hO 14 (by omega) (by omega) (by omega), eH]
          have r10 : N 10 = M 10 := hO 10 (by omega) (by omega) (by omega)
          have eg := offC_g hO
          have gg : ∀ x y : Int, 0 ≤ x → x < n → 0 ≤ y → y < n → N 11 (10 * x + y) = gC M x y := fun x y a b c d => by rw [← eg]; exact (gC_in (by omega)).symm
          refine X9_isTight hn.2 ⟨u0, un⟩ ⟨v0, vn⟩ (by rw [r14]; exact hH) (fun g3 => ⟨fun _ => nxt N hO (fun A hA => ?_), fun q => absurd rfl q⟩) (fun g3 => ⟨fun q => by omega, fun _ => ?_⟩)
          · rw [r14, r10, eδ u v u0 un v0 vn] at g3
            have g0 := ho.1.1 u v u0 un v0 vn
            by_cases q : 0 < A u v
            · exact absurd (pv_tight hV hA u v u0 un v0 vn q) g3
            · omega
          · rw [r14, r10, eδ u v u0 un v0 vn] at g3
            refine X9_canTurn hn ⟨u0, un⟩ ⟨v0, vn⟩ (by rw [hO 0 (by omega) (by omega) (by omega), e0]) (by rw [r14]; exact hH) (fun N1 hO1 p1 p2 p3 p4 => ⟨fun _ => ?_, fun q => absurd rfl q⟩) (fun N1 ps hO1 p1 p3 S => ⟨fun q => by omega, fun _ => ?_⟩)
            · refine nxt N1 (fun k z1 z2 z3 => by rw [hO1 k z1 z2 z3]; exact hO k z1 z2 z3) (fun A hA => ?_)
              refine cut_lex (us := usR N u v) (R := fun x => N1 18 x ≠ 0) (C := fun y => N1 18 (10 + y) ≠ 0) ⟨u0, un⟩ ⟨v0, vn⟩ ho.1 hA.1 (pv_tight hV hA) p2 (fun q => q p1) (fun x y a b c d q r s => p3 x y a b c d q r (by rw [gg x y a b c d]; exact s)) (fun x y a b c d q r s => p4 x y a b c d q r (by rw [r14, r10, eδ x y a b c d]; exact s)) (fun x y a b c d q1 q2 => absurd ⟨?_, q2⟩ q1)
              rw [hO 17 (by omega) (by omega) (by omega)]
              exact h17 _ (by omega) (by omega)
            · have S' : RgS n u v (usR N u v) (fun a b => 0 ≤ a ∧ a < n ∧ 0 ≤ b ∧ b < n ∧ H a - H b = δ a b) (gC M) (fun x => N1 16 x - 10) (fun y => N1 16 (10 + y)) ps (fun x => 0 ≤ x ∧ x < n ∧ N1 18 x ≠ 0) (fun y => 0 ≤ y ∧ y < n ∧ N1 18 (10 + y) ≠ 0) := by
                refine ⟨fun x hx => ?_, fun y hy => ?_⟩
                · obtain ⟨a1, a2, a3, a4, a5, a6, a7⟩ := S.1 x hx
                  exact ⟨a1, a2, a3, a4, a5, a6, by rw [← gg _ _ a1 a2 a3 a4]; exact a7⟩
                · obtain ⟨a1, a2, a3, a4⟩ := S.2 y hy
                  refine ⟨a1, a2, a3, fun q => ?_⟩
                  obtain ⟨z1, z2, z3, z4, z5, z6⟩ := a4 q
                  refine ⟨z1, z2, z3, z4, ⟨z1, z2, a1, a2, ?_⟩, z6⟩
                  rw [r14, r10, eδ _ _ z1 z2 a1 a2] at z5
                  exact z5
              obtain ⟨A, E, eA⟩ := ring_other (α := α) (β := β) ⟨u0, un⟩ ⟨u0, un, v0, vn, g3⟩ (fun q => q.2 ⟨rfl, rfl⟩) S' ⟨u0, un, p1⟩ ho.1
              obtain ⟨_, _, O2⟩ := turn_end (H := H) (δ := δ) (fun a b q => q.2.2.2.2) hV.1 ho.1 (pv_tight hV ho) E
              exact h0 N1 u v A (fun k z1 z2 z3 => by rw [hO1 k z1 z2 z3]; exact hO k z1 z2 z3) O2 u0 un v0 vn eA
      exact ⟨11, key2 11 0 N (by omega) (by omega) (by omega) hO (fun A hA x y a c d hq => hX A hA x y a (by omega) c d)⟩
  exact ⟨11, key 11 0 M (by omega) (by omega) (by omega) (fun _ _ _ _ => rfl) (fun A _ x y _ h => by omega)⟩
