/-! the class's plan -/
def Lex (n : Int) (δ : Int → Int → Int) (α β : Int → Int) (k : Int) (G : Int → Int → Int) : Prop := ∀ x y : Int, 0 ≤ x → x < n → 0 ≤ y → y < n → 10 * x + y < k → ∀ A : Int → Int → Int, Opt n δ α β A → (∀ a b : Int, 0 ≤ a → a < n → 0 ≤ b → b < n → (a < x ∨ (a = x ∧ b < y)) → A a b = G a b) → A x y ≤ G x y
theorem lex_fst {n : Int} {δ : Int → Int → Int} {α β : Int → Int} {G : Int → Int → Int} (ho : Opt n δ α β G) (h : Lex n δ α β (10 * n) G) (hn : n ≤ 10) : Fst n δ α β G := ⟨ho, fun u v A a b c d hA hb => h u v a b c d (by omega) A hA hb⟩
theorem lex_keep {n k : Int} {δ : Int → Int → Int} {α β : Int → Int} {G F : Int → Int → Int} (h : Lex n δ α β k G) (hF : ∀ x y : Int, 0 ≤ x → x < n → 0 ≤ y → y < n → 10 * x + y < k → F x y = G x y) (hn : n ≤ 10) : Lex n δ α β k F := fun x y a b c d hk A hA hb => by
  rw [hF x y a b c d hk]
  exact h x y a b c d hk A hA (fun p q p0 p1 q0 q1 hq => by rw [hb p q p0 p1 q0 q1 hq]; exact hF p q p0 p1 q0 q1 (by omega))
theorem lex_s {n u v : Int} {δ : Int → Int → Int} {α β : Int → Int} {G : Int → Int → Int} (hv : 0 ≤ v ∧ v < 10) (hn : n ≤ 10) (h : Lex n δ α β (10 * u + v) G) (hs : ∀ A : Int → Int → Int, Opt n δ α β A → (∀ a b : Int, 0 ≤ a → a < n → 0 ≤ b → b < n → (a < u ∨ (a = u ∧ b < v)) → A a b = G a b) → A u v ≤ G u v) : Lex n δ α β (10 * u + (v + 1)) G := fun x y a b c d hk A hA hb => by
  by_cases e : x = u ∧ y = v
  · rw [e.1, e.2]
    refine hs A hA (fun p q p0 p1 q0 q1 hq => hb p q p0 p1 q0 q1 (by rw [e.1, e.2]; exact hq))
  · exact h x y a b c d (by omega) A hA hb
def OffF (M M' : Mem) : Prop := ∀ k : Int, k ≠ 24 → k ≠ 25 → k ≠ 26 → (k < 70 ∨ 80 ≤ k) → M' k = M k
theorem X6_putFirst {n : Int} {δ : Int → Int → Int} {α β H : Int → Int} {M : Mem} {post : Mem → Prop} (hn : 0 ≤ n ∧ n ≤ 10) (e0 : M 1 0 = n) (eδ : ∀ u v : Int, 0 ≤ u → u < n → 0 ≤ v → v < n → M (50 + u) v = δ u v) (hα : ∀ v : Int, 0 ≤ v → v < n → 0 ≤ α v ∧ α v ≤ 1000) (eH : M 23 = H) (hH : ∀ x : Int, 0 ≤ x → x < n → -100000 ≤ H x ∧ H x ≤ 100000) (hL : ∀ u v : Int, 0 ≤ u → u < n → 0 ≤ v → v < n → H u - H v ≤ δ u v) (hV : Pv n δ α β H) (hP : Pl n α β (GX M)) (hT : ∀ u v : Int, 0 ≤ u → u < n → 0 ≤ v → v < n → 0 < GX M u v → H u - H v = δ u v)
    (h : ∀ M' : Mem, OffF M M' → Fst n δ α β (GX M') → post M') : wpX6_putFirst M post := by
  have key : ∀ (f : Nat) (u : Int) (N : Mem), 0 ≤ u → u ≤ n → n - u < f → OffF M N → Pl n α β (GX N) → (∀ u v : Int, 0 ≤ u → u < n → 0 ≤ v → v < n → 0 < GX N u v → H u - H v = δ u v) → Lex n δ α β (10 * u) (GX N) → lpX6_putFirst_2 post f u N := by
    intro f
    induction f with
    | zero => intro u N _ _ g; omega
    | succ f ih =>
      intro u N u0 u1 hf hO hP hT hX
      unfold lpX6_putFirst_2
      rw [hO 1 (by omega) (by omega) (by omega) (by omega), e0]
      refine ⟨fun g => ?_, fun g => ?_⟩
      · have e : u = n := by omega
        subst e
        exact h N hO (lex_fst (opt_of hL hP hT) hX hn.2)
      · have un : u < n := by omega
        have key2 : ∀ (f2 : Nat) (v : Int) (N : Mem), 0 ≤ v → v ≤ n → n - v < f2 → OffF M N → Pl n α β (GX N) → (∀ u v : Int, 0 ≤ u → u < n → 0 ≤ v → v < n → 0 < GX N u v → H u - H v = δ u v) → Lex n δ α β (10 * u + v) (GX N) → lpX6_putFirst_12 post (fun y2 N => lpX6_putFirst_2 post f y2 N) f2 u v N := by
          intro f2
          induction f2 with
          | zero => intro v N _ _ g; omega
          | succ f2 ih2 =>
            intro v N v0 v1 hf2 hO hP hT hX
            unfold lpX6_putFirst_12
            rw [hO 1 (by omega) (by omega) (by omega) (by omega), e0]
            refine ⟨fun g2 => ⟨by omega, ?_⟩, fun g2 => ?_⟩
            · refine ih (u + 1) N (by omega) (by omega) (by omega) hO hP hT (fun x y a b c d hk => ?_)
              by_cases e : x < u
              · exact hX x y a b c d (by omega)
              · exact hX x y a b c d (by omega)
            · have vn : v < n := by omega
              have hu1 := hH u u0 un
              have hv1 := hH v v0 vn
              have nxt : ∀ N : Mem, OffF M N → Pl n α β (GX N) → (∀ u v : Int, 0 ≤ u → u < n → 0 ≤ v → v < n → 0 < GX N u v → H u - H v = δ u v) → Lex n δ α β (10 * u + (v + 1)) (GX N) → jbX6_putFirst_74 post (fun y2 N => lpX6_putFirst_2 post f y2 N) (fun y2 y3 N => lpX6_putFirst_12 post (fun y2 N => lpX6_putFirst_2 post f y2 N) f2 y2 y3 N) u v N := fun N hO hP hT hX => by
                unfold jbX6_putFirst_74
                exact ⟨by omega, ih2 (v + 1) N (by omega) (by omega) (by omega) hO hP hT hX⟩
              unfold wpX6_isTight jbX6_isTight_29
              rw [hO 23 (by omega) (by omega) (by omega) (by omega), eH, hO (50 + u) (by omega) (by omega) (by omega) (by omega), eδ u v u0 un v0 vn]
              refine ⟨by omega, by omega, by omega, by omega, by omega, fun g3 => ⟨Or.inl rfl, fun _ => ?_, fun q => absurd rfl q⟩, fun g3 => ⟨Or.inr rfl, fun q => by omega, fun _ => ⟨by omega, by omega, fun fr hfr => ?_⟩⟩⟩
              · refine nxt N hO hP hT (lex_s ⟨v0, by omega⟩ hn.2 hX (fun A hA _ => ?_))
                have g0 := hP.1 u v u0 un v0 vn
                by_cases q : 0 < A u v
                · exact absurd (pv_tight hV hA u v u0 un v0 vn q) g3
                · omega
              · -- the rings of this cell
                have key3 : ∀ (f3 : Nat) (t : Int) (N : Mem), 0 ≤ t → t ≤ 1000 → 1000 - t < f3 → t ≤ GX N u v → OffF M N → Pl n α β (GX N) → (∀ u v : Int, 0 ≤ u → u < n → 0 ≤ v → v < n → 0 < GX N u v → H u - H v = δ u v) → Lex n δ α β (10 * u + v) (GX N) → lpX6_putFirst_42 post (fun y2 N => lpX6_putFirst_2 post f y2 N) (fun y2 y3 N => lpX6_putFirst_12 post (fun y2 N => lpX6_putFirst_2 post f y2 N) f2 y2 y3 N) f3 u v fr t N := by
                  intro f3
                  induction f3 with
                  | zero => intro t N _ _ g; omega
                  | succ f3 ih3 =>
                    intro t N t0 t1 hf3 ht hO hP hT hX
                    unfold lpX6_putFirst_42
                    refine ⟨fun g4 => ?_, fun g4 => ?_⟩
                    · refine nxt N hO hP hT (lex_s ⟨v0, by omega⟩ hn.2 hX (fun A hA _ => ?_))
                      have a1 := su_term (n := n) (f := A u) (fun k k0 k1 => hA.1.1 u k u0 un k0 k1) v0 vn
                      rw [hA.1.2.1 u u0 un] at a1
                      have := hα u u0 un
                      omega
                    · have r1 : N 1 0 = n := by rw [hO 1 (by omega) (by omega) (by omega) (by omega), e0]
                      have r23 : N 23 = H := by rw [hO 23 (by omega) (by omega) (by omega) (by omega), eH]
                      refine X6_findRing (δ := δ) (G := GX N) hn ⟨u0, un⟩ ⟨v0, vn⟩ r1 (fun x y a b c d => by rw [hO (50 + x) (by omega) (by omega) (by omega) (by omega)]; exact eδ x y a b c d) (fun x y a b c d => (GX_in ⟨a, by omega⟩).symm) (by rw [r23]; exact hH) (fun N1 hO1 p1 p2 p3 p4 => ⟨fun _ => ?_, fun q => absurd rfl q⟩) (fun N1 ps hO1 p1 p2 p3 S => ⟨fun q => by omega, fun _ => ?_⟩)
                      · have eg : GX N1 = GX N := GX_eq (fun a _ _ => hO1 (70 + a) (by omega) (by omega) (by omega))
                        rw [r23] at p4
                        have o1 : OffF M N1 := fun k z1 z2 z3 z4 => by rw [hO1 k z1 z2 z3]; exact hO k z1 z2 z3 z4
                        refine nxt N1 o1 (by rw [eg]; exact hP) (by rw [eg]; exact hT) ?_
                        rw [eg]
                        refine lex_s ⟨v0, by omega⟩ hn.2 hX (fun A hA hb => ?_)
                        refine cut_lex (us := usX fr u v) (R := fun x => N1 24 x ≠ -1) (C := fun y => N1 25 y ≠ -1) ⟨u0, un⟩ ⟨v0, vn⟩ hP hA.1 (pv_tight hV hA) p2 (fun q => q p1) p3 p4 (fun x y a b c d q1 q2 => ?_)
                        refine hb x y a b c d ?_
                        have : ¬ fr ≤ 10 * x + y := fun q => q1 ⟨q, q2⟩
                        omega
                      · have eg : GX N1 = GX N := GX_eq (fun a _ _ => hO1 (70 + a) (by omega) (by omega) (by omega))
                        rw [← eg] at S
                        refine X6_turnRing (α := α) (β := β) hn ⟨u0, un⟩ ⟨v0, vn⟩ hα (by show N 23 u - N 23 v = δ u v; rw [r23]; exact g3) (fun q => q.2 ⟨rfl, rfl⟩) (by rw [eg]; exact hP) p2 p3 p1 S (fun N2 m hO2 m1 E eA => ⟨by omega, ?_⟩)
                        rw [eg] at E eA
                        obtain ⟨P2, T2, _⟩ := turn_end (H := H) (δ := δ) (fun a b q => by rw [r23] at q; exact q) hL hP hT E
                        refine ih3 (t + 1) N2 (by omega) (by omega) (by omega) (by omega) (fun k z1 z2 z3 z4 => by rw [hO2 k z4, hO1 k z1 z2 z3]; exact hO k z1 z2 z3 z4) P2 T2 (lex_keep hX (fun x y a b c d hk => ?_) hn.2)
                        refine E.2.2.2.1 x y (fun q => ?_) (fun q => by omega)
                        have := q.1
                        omega
                exact ⟨1001, key3 1001 0 N (by omega) (by omega) (by omega) (hP.1 u v u0 un v0 vn) hO hP hT hX⟩
        exact ⟨11, key2 11 0 N (by omega) (by omega) (by omega) hO hP hT (by rw [show 10 * u + 0 = 10 * u by omega]; exact hX)⟩
  exact ⟨11, key 11 0 M (by omega) (by omega) (by omega) (fun _ _ _ _ _ => rfl) hP hT (fun x y _ _ _ _ hk => by omega)⟩
/-- whether it is alone -/
theorem X6_hasOther {n : Int} {δ : Int → Int → Int} {α β H : Int → Int} {M : Mem} {post : Int → Mem → Prop} (hn : 0 ≤ n ∧ n ≤ 10) (e0 : M 1 0 = n) (eδ : ∀ u v : Int, 0 ≤ u → u < n → 0 ≤ v → v < n → M (50 + u) v = δ u v) (eH : M 23 = H) (hH : ∀ x : Int, 0 ≤ x → x < n → -100000 ≤ H x ∧ H x ≤ 100000) (hV : Pv n δ α β H) (ho : Opt n δ α β (GX M))
    (h0 : ∀ M' : Mem, OffR M M' → (∀ A : Int → Int → Int, Opt n δ α β A → ∀ u v : Int, 0 ≤ u → u < n → 0 ≤ v → v < n → A u v ≤ GX M u v) → post 0 M') (h1 : ∀ (M' : Mem) (u v : Int) (A : Int → Int → Int), OffR M M' → Opt n δ α β A → 0 ≤ u → u < n → 0 ≤ v → v < n → A u v = GX M u v + 1 → post 1 M') : wpX6_hasOther M post := by
  have key : ∀ (f : Nat) (u : Int) (N : Mem), 0 ≤ u → u ≤ n → n - u < f → OffR M N → (∀ A : Int → Int → Int, Opt n δ α β A → ∀ x y : Int, 0 ≤ x → x < u → 0 ≤ y → y < n → A x y ≤ GX M x y) → lpX6_hasOther_2 post f u N := by
    intro f
    induction f with
    | zero => intro u N _ _ g; omega
    | succ f ih =>
      intro u N u0 u1 hf hO hX
      unfold lpX6_hasOther_2
      rw [hO 1 (by omega) (by omega) (by omega), e0]
      refine ⟨fun g => h0 N hO (fun A hA x y a b c d => hX A hA x y a (by omega) c d), fun g => ?_⟩
      have un : u < n := by omega
      have key2 : ∀ (f2 : Nat) (v : Int) (N : Mem), 0 ≤ v → v ≤ n → n - v < f2 → OffR M N → (∀ A : Int → Int → Int, Opt n δ α β A → ∀ x y : Int, 0 ≤ x → 0 ≤ y → y < n → (x < u ∨ (x = u ∧ y < v)) → A x y ≤ GX M x y) → lpX6_hasOther_12 post (fun y2 N => lpX6_hasOther_2 post f y2 N) f2 u v N := by
        intro f2
        induction f2 with
        | zero => intro v N _ _ g; omega
        | succ f2 ih2 =>
          intro v N v0 v1 hf2 hO hX
          unfold lpX6_hasOther_12 jbX6_hasOther_43
          rw [hO 1 (by omega) (by omega) (by omega), e0]
          refine ⟨fun g2 => ⟨by omega, ih (u + 1) N (by omega) (by omega) (by omega) hO (fun A hA x y a b c d => hX A hA x y a c d (by omega))⟩, fun g2 => ?_⟩
          have vn : v < n := by omega
          have hu1 := hH u u0 un
          have hv1 := hH v v0 vn
          have nxt : ∀ N : Mem, OffR M N → (∀ A : Int → Int → Int, Opt n δ α β A → A u v ≤ GX M u v) → inR (v + 1) ∧ lpX6_hasOther_12 post (fun y2 N => lpX6_hasOther_2 post f y2 N) f2 u (v + 1) N := fun N hO hh => ⟨by omega, ih2 (v + 1) N (by omega) (by omega) (by omega) hO (fun A hA x y a c d hq => by
            by_cases e : x = u ∧ y = v
            · rw [e.1, e.2]; exact hh A hA
            · exact hX A hA x y a c d (by omega))⟩
          have r1 : N 1 0 = n := by rw [hO 1 (by omega) (by omega) (by omega), e0]
          have r23 : N 23 = H := by rw [hO 23 (by omega) (by omega) (by omega), eH]
          unfold wpX6_isTight jbX6_isTight_29
          rw [r23, hO (50 + u) (by omega) (by omega) (by omega), eδ u v u0 un v0 vn]
          refine ⟨by omega, by omega, by omega, by omega, by omega, fun g3 => ⟨Or.inl rfl, fun _ => nxt N hO (fun A hA => ?_), fun q => absurd rfl q⟩, fun g3 => ⟨Or.inr rfl, fun q => by omega, fun _ => ?_⟩⟩
          · have g0 := ho.1.1 u v u0 un v0 vn
            by_cases q : 0 < A u v
            · exact absurd (pv_tight hV hA u v u0 un v0 vn q) g3
            · omega
          · have eg : GX N = GX M := GX_eq (fun a _ _ => hO (70 + a) (by omega) (by omega) (by omega))
            refine X6_findRing (δ := δ) (G := GX N) hn ⟨u0, un⟩ ⟨v0, vn⟩ r1 (fun x y a b c d => by rw [hO (50 + x) (by omega) (by omega) (by omega)]; exact eδ x y a b c d) (fun x y a b c d => (GX_in ⟨a, by omega⟩).symm) (by rw [r23]; exact hH) (fun N1 hO1 p1 p2 p3 p4 => ⟨fun _ => ?_, fun q => absurd rfl q⟩) (fun N1 ps hO1 p1 p2 p3 S => ⟨fun q => by omega, fun _ => ?_⟩)
            · have o1 : OffR M N1 := fun k z1 z2 z3 => by rw [hO1 k z1 z2 z3]; exact hO k z1 z2 z3
              rw [r23] at p4
              rw [eg] at p3
              refine nxt N1 o1 (fun A hA => ?_)
              refine cut_lex (us := usX 0 u v) (R := fun x => N1 24 x ≠ -1) (C := fun y => N1 25 y ≠ -1) ⟨u0, un⟩ ⟨v0, vn⟩ ho.1 hA.1 (pv_tight hV hA) p2 (fun q => q p1) p3 p4 (fun x y a b c d q1 q2 => absurd ⟨by omega, q2⟩ q1)
            · have o1 : OffR M N1 := fun k z1 z2 z3 => by rw [hO1 k z1 z2 z3]; exact hO k z1 z2 z3
              rw [eg, r23] at S
              obtain ⟨A, E, eA⟩ := ring_other (α := α) (β := β) (tg := fun a b => H a - H b = δ a b) ⟨u0, un⟩ g3 (fun q => q.2 ⟨rfl, rfl⟩) S ⟨u0, un, p1⟩ ho.1
              obtain ⟨_, _, O2⟩ := turn_end (H := H) (δ := δ) (fun a b q => q) hV.1 ho.1 (pv_tight hV ho) E
              exact h1 N1 u v A o1 O2 u0 un v0 vn eA
      exact ⟨11, key2 11 0 N (by omega) (by omega) (by omega) hO (fun A hA x y a c d hq => hX A hA x y a (by omega) c d)⟩
  exact ⟨11, key 11 0 M (by omega) (by omega) (by omega) (fun _ _ _ _ => rfl) (fun A _ x y _ h => by omega)⟩
