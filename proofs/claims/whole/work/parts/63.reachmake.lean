/-! the class's reach, whole -/
theorem X7_noteStuck {n : Int} {M : Mem} {post : Mem → Prop} (hn : 0 ≤ n ∧ n ≤ 10) (h : ∀ M' : Mem, (∀ k : Int, k ≠ 27 → M' k = M k) → (∀ u : Int, 0 ≤ u → u < n → M' 27 u = if M (36 + 1) u < 1000000 then 1 else 0) → post M') : wpX7_noteStuck n M post := by
  have key : ∀ (f : Nat) (x : Int) (N : Mem), 0 ≤ x → x ≤ n → n - x < f → (∀ k : Int, k ≠ 27 → N k = M k) → (∀ u : Int, 0 ≤ u → u < x → N 27 u = if M (36 + 1) u < 1000000 then 1 else 0) → lpX7_noteStuck_2 post f n x N := by
    intro f
    induction f with
    | zero => intro x N _ _ g; omega
    | succ f ih =>
      intro x N x0 x1 hf hO hI
      unfold lpX7_noteStuck_2
      refine ⟨fun g => ?_, fun g => ?_⟩
      · have e : x = n := by omega
        subst e
        exact h N hO hI
      · have nxt : ∀ t : Int, t = (if M (36 + 1) x < 1000000 then 1 else 0) → jbX7_noteStuck_28 post (fun y1 y2 N => lpX7_noteStuck_2 post f y1 y2 N) n x t x N := fun t ht => by
          unfold jbX7_noteStuck_28
          refine ⟨by omega, fun N1 e1 => ⟨by omega, ?_⟩⟩
          refine ih (x + 1) N1 (by omega) (by omega) (by omega) (fun k hk => by rw [e1, row_ne hk]; exact hO k hk) (fun u u0 u1 => ?_)
          by_cases c : u = x
          · rw [e1, c, mset_s, ht]
          · rw [e1, mset_i c]; exact hI u u0 (by omega)
        unfold wpX5_isReached jbX5_isReached_16
        rw [hO (36 + 1) (by omega)]
        refine ⟨by omega, fun g1 => ⟨Or.inl rfl, fun _ => nxt 0 (by rw [if_neg (by omega)]), fun q => absurd rfl q⟩, fun g1 => ⟨Or.inr rfl, fun q => by omega, fun _ => nxt 1 (by rw [if_pos (by omega)])⟩⟩
  exact ⟨11, key 11 0 M (by omega) (by omega) (by omega) (fun _ _ => rfl) (fun u _ _ => by omega)⟩
theorem X7_distanceAbove {n fa : Int} {δ : Int → Int → Int} {M : Mem} {post : Int → Mem → Prop} (hn : 0 ≤ n ∧ n ≤ 10) (e0 : M 1 0 = n) (eδ : ∀ u v : Int, 0 ≤ u → u < n → 0 ≤ v → v < n → M (50 + u) v = δ u v)
    (h : ∀ r : Int, (∀ u v : Int, 0 ≤ u → u < n → 0 ≤ v → v < n → fa < δ u v → r ≤ δ u v) → (r = 1000000 ∨ ∃ u v : Int, 0 ≤ u ∧ u < n ∧ 0 ≤ v ∧ v < n ∧ δ u v = r ∧ fa < r) → post r M) : wpX7_distanceAbove fa M post := by
  have key : ∀ (f : Nat) (r x : Int), 0 ≤ x → x ≤ n → n - x < f → (∀ u v : Int, 0 ≤ u → u < x → 0 ≤ v → v < n → fa < δ u v → r ≤ δ u v) → (r = 1000000 ∨ ∃ u v : Int, 0 ≤ u ∧ u < n ∧ 0 ≤ v ∧ v < n ∧ δ u v = r ∧ fa < r) → lpX7_distanceAbove_5 post f fa r x M := by
    intro f
    induction f with
    | zero => intro r x _ _ g; omega
    | succ f ih =>
      intro r x x0 x1 hf h1 h2
      unfold lpX7_distanceAbove_5
      rw [e0]
      refine ⟨fun g => h r (fun u v a b c d => h1 u v a (by omega) c d) h2, fun g => ?_⟩
      have xn : x < n := by omega
      have key2 : ∀ (f2 : Nat) (r y : Int), 0 ≤ y → y ≤ n → n - y < f2 → (∀ u v : Int, 0 ≤ u → 0 ≤ v → v < n → (u < x ∨ (u = x ∧ v < y)) → fa < δ u v → r ≤ δ u v) → (r = 1000000 ∨ ∃ u v : Int, 0 ≤ u ∧ u < n ∧ 0 ≤ v ∧ v < n ∧ δ u v = r ∧ fa < r) → lpX7_distanceAbove_16 post (fun y1 y2 y3 N => lpX7_distanceAbove_5 post f y1 y2 y3 N) f2 fa r x y M := by
        intro f2
        induction f2 with
        | zero => intro r y _ _ g; omega
        | succ f2 ih2 =>
          intro r y y0 y1 hf2 h1 h2
          unfold lpX7_distanceAbove_16 jbX7_distanceAbove_52
          rw [e0]
          refine ⟨fun g2 => ⟨by omega, ih r (x + 1) (by omega) (by omega) (by omega) (fun u v a b c d => h1 u v a c d (by omega)) h2⟩, fun g2 => ?_⟩
          have yn : y < n := by omega
          rw [eδ x y x0 xn y0 yn]
          refine ⟨by omega, by omega, fun g3 => ⟨by omega, ih2 r (y + 1) (by omega) (by omega) (by omega) (fun u v a c d hq hl => ?_) h2⟩, fun g3 => ⟨by omega, by omega, fun w hw => ⟨by omega, ih2 w (y + 1) (by omega) (by omega) (by omega) (fun u v a c d hq hl => ?_) ?_⟩⟩⟩
          · by_cases e : u = x ∧ v = y
            · rw [e.1, e.2] at hl; omega
            · exact h1 u v a c d (by omega) hl
          · by_cases e : u = x ∧ v = y
            · rw [e.1, e.2]; omega
            · have := h1 u v a c d (by omega) hl; omega
          · by_cases e : r ≤ δ x y
            · rw [show w = r by omega]; exact h2
            · exact Or.inr ⟨x, y, x0, xn, y0, yn, by omega, by omega⟩
      exact ⟨11, key2 11 r 0 (by omega) (by omega) (by omega) (fun u v a c d hq hl => h1 u v a (by omega) c d hl) h2⟩
  exact ⟨11, key 11 1000000 0 (by omega) (by omega) (by omega) (fun u v _ b => by omega) (Or.inl rfl)⟩
def RchX (n : Int) (δ : Int → Int → Int) (α β : Int → Int) (M : Mem) : Prop := FarOk n δ α β (M 7 0) ∧ (M 7 0 = 0 → ∀ u : Int, 0 ≤ u → u < n → M 27 u = 0) ∧ (0 < M 7 0 → ∃ S : Int → Prop, Shd n (fun u v => δ u v < M 7 0) α β S ∧ ∀ u : Int, 0 ≤ u → u < n → (M 27 u = 1 ∧ S u) ∨ (M 27 u = 0 ∧ ¬ S u))
theorem rch_off {n : Int} {α β : Int → Int} {J : Int → Int → Prop} {M M' : Mem} {js jt : Int → Int} {jm : Int → Int → Int} (hO : OffN 1 M M') (H : RchF n α β J M js jt jm) : RchF n α β J M' js jt jm := by
  obtain ⟨h1, h2, h3, h4⟩ := H
  refine ⟨fun v a b => ⟨fun q => arc_off (Or.inr rfl) hO ((h1 v a b).1 q), fun q => arc_off (Or.inr rfl) hO ((h1 v a b).2 q)⟩, fun u v a b c d q => ?_, fun φ => by rw [hO.2.1]; exact h3 φ, fun e e0 e1 => ?_⟩
  · obtain ⟨t1, t2, t3⟩ := h2 u v a b c d q
    exact ⟨t1, t2, arc_off (Or.inr rfl) hO t3⟩
  · rw [hO.2.1] at e1
    rw [hO.1 (34 + 1) (by omega) (by omega) (by omega) (by omega)]
    exact h4 e e0 e1
theorem rch_iff {n : Int} {α β : Int → Int} {J1 J2 : Int → Int → Prop} {M : Mem} {js jt : Int → Int} {jm : Int → Int → Int} (hJJ : ∀ u v : Int, 0 ≤ u → u < n → 0 ≤ v → v < n → (J1 u v ↔ J2 u v)) (H : RchF n α β J1 M js jt jm) : RchF n α β J2 M js jt jm := by
  obtain ⟨h1, h2, h3, h4⟩ := H
  refine ⟨h1, fun u v a b c d q => h2 u v a b c d ((hJJ u v a b c d).mpr q), fun φ => ?_, h4⟩
  rw [h3 φ]
  congr 1
  refine su2_congr (fun u v a b c d => ?_)
  by_cases q : J1 u v
  · rw [ind_t q, ind_t ((hJJ u v a b c d).mp q)]
  · rw [ind_f q, ind_f (fun r => q ((hJJ u v a b c d).mpr r))]
theorem rch_mem {n : Int} {α β : Int → Int} {J : Int → Int → Prop} {M M' : Mem} {js jt : Int → Int} {jm : Int → Int → Int} (h9 : M' (8 + 1) = M (8 + 1)) (h29 : M' (28 + 1) = M (28 + 1)) (h31 : M' (30 + 1) = M (30 + 1)) (h33 : M' (32 + 1) = M (32 + 1)) (h35 : M' (34 + 1) = M (34 + 1)) : (RchF n α β J M js jt jm → RchF n α β J M' js jt jm) ∧ (NetS 1 M → NetS 1 M') ∧ (∀ π : Int → Int, NetD 1 M π → NetD 1 M' π) := by
  refine ⟨fun H => ?_, fun H => ?_, fun π H => ?_⟩
  · unfold RchF Arc
    rw [h9, h29, h31, h33, h35]
    exact H
  · unfold NetS
    rw [h9, h29, h31, h35]
    exact H
  · unfold NetD PotZ
    rw [h9, h29, h31, h33, h35]
    exact H
theorem X7_make {r2 r3 n total : Int} {δ : Int → Int → Int} {M : Mem} {post : Mem → Prop} (hr2 : 80 ≤ r2 ∧ r2 < 88) (hr3 : 80 ≤ r3 ∧ r3 < 88) (hn : 0 ≤ n ∧ n ≤ 10) (e0 : M 1 0 = n) (hα : ∀ v : Int, 0 ≤ v → v < n → (0 ≤ M r2 v ∧ M r2 v ≤ 1000) ∧ 0 ≤ M r3 v ∧ M r3 v ≤ 1000) (hδ : Mtr n δ) (eδ : ∀ u v : Int, 0 ≤ u → u < n → 0 ≤ v → v < n → M (50 + u) v = δ u v) (ta : total = su n (M r2)) (tb : total = su n (M r3))
    (h : ∀ M' : Mem, OffX M M' → RchX n δ (M r2) (M r3) M' → post M') : wpX7_make r2 r3 total M post := by
  have tb0 := su_bnd (n := n) (B := 1000) (f := M r2) hn.1 (fun k a b => (hα k a b).1)
  let St : Mem → (Int → Int) → Prop := fun N π => OffX M N ∧ NetS 1 N ∧ NetD 1 N π ∧ (∃ (js jt : Int → Int) (jm : Int → Int → Int), RchF n (M r2) (M r3) (fun u v => δ u v ≤ N 7 0 ∧ 0 < M r2 u ∧ 0 < M r3 v) N js jt jm) ∧ 0 ≤ N 7 0 ∧ N (8 + 1) 1 ≤ total ∧ (total ≤ N (8 + 1) 1 ∨ ∃ ra : Int → Int, FinZ 1 N π N ra ∧ 1000000 ≤ N (36 + 1) 21) ∧ (∀ g : Int, 0 ≤ g → g < N 7 0 → ¬ Fit n δ (M r2) (M r3) g) ∧ (N 7 0 = 0 → ∀ u : Int, 0 ≤ u → u < n → N 27 u = 0) ∧ (0 < N 7 0 → ∃ S : Int → Prop, Shd n (fun u v => δ u v < N 7 0) (M r2) (M r3) S ∧ ∀ u : Int, 0 ≤ u → u < n → (N 27 u = 1 ∧ S u) ∨ (N 27 u = 0 ∧ ¬ S u))
  have fin : ∀ (N : Mem) (π : Int → Int), St N π → total ≤ N (8 + 1) 1 → post N := fun N π st hm => by
    obtain ⟨o, s, d, ⟨js, jt, jm, H⟩, f0, m1, m2, b1, b2, b3⟩ := st
    refine h N o ⟨⟨f0, ?_, b1⟩, b2, b3⟩
    obtain ⟨⟨g1, g2, g3⟩, _⟩ := rch_stk (f := N 7 0) (δ := δ) (ra := fun _ => 0) hn hα (fun u v _ _ _ _ => Iff.rfl) s d H (by omega)
    obtain ⟨c1, c2, c3⟩ := rch_bal hn.2 d H
    have tot : su n (fun u => su n (rG (fun u v => δ u v ≤ N 7 0 ∧ 0 < M r2 u ∧ 0 < M r3 v) (N (32 + 1)) jm u)) = total := by rw [c3]; omega
    refine ⟨_, ⟨fun u v a b c e => (g1 u v a b c e).1, su_eq_all (n := n) (f := fun u => su n (rG (fun u v => δ u v ≤ N 7 0 ∧ 0 < M r2 u ∧ 0 < M r3 v) (N (32 + 1)) jm u)) (g := M r2) (fun u a b => g2 u a b) (by rw [tot, ta]), su_eq_all (n := n) (f := fun v => su n (fun u => rG (fun u v => δ u v ≤ N 7 0 ∧ 0 < M r2 u ∧ 0 < M r3 v) (N (32 + 1)) jm u v)) (g := M r3) (fun v a b => g3 v a b) ?_⟩, fun u v a b c e => (g1 u v a b c e).2⟩
    rw [su_swap n n (fun v u => rG (fun u v => δ u v ≤ N 7 0 ∧ 0 < M r2 u ∧ 0 < M r3 v) (N (32 + 1)) jm u v)]
    exact tot.trans tb
  -- the number of near pairs
  have cnt100 : ∀ f : Int, (∃ u v : Int, 0 ≤ u ∧ u < n ∧ 0 ≤ v ∧ v < n ∧ f < δ u v) → su n (fun u => su n (fun v => if δ u v ≤ f then (1 : Int) else 0)) ≤ 99 := fun f ⟨u, v, u0, u1, v0, v1, hf⟩ => by
    have b2 : su n (fun x => su n (fun y => (if δ x y ≤ f then (1 : Int) else 0) + (if x = u ∧ y = v then (1 : Int) else 0))) ≤ n * 10 := by
      refine (su_bnd (n := n) (B := 10) hn.1 (fun x _ _ => ?_)).2
      have t := su_bnd (n := n) (B := 1) (f := fun y => (if δ x y ≤ f then (1 : Int) else 0) + (if x = u ∧ y = v then (1 : Int) else 0)) hn.1 (fun y _ _ => by
        show 0 ≤ (if δ x y ≤ f then (1 : Int) else 0) + (if x = u ∧ y = v then (1 : Int) else 0) ∧ (if δ x y ≤ f then (1 : Int) else 0) + (if x = u ∧ y = v then (1 : Int) else 0) ≤ 1
        by_cases c : x = u ∧ y = v
        · rw [if_pos c, c.1, c.2, if_neg (by omega)]; omega
        · rw [if_neg c]; split <;> omega)
      omega
    rw [su2_add n (fun x y => if δ x y ≤ f then (1 : Int) else 0), su_one (f := fun x => su n (fun y => if x = u ∧ y = v then (1 : Int) else 0)) u0 u1 (fun x _ _ hx => su_all0 (fun y _ _ => if_neg (fun q => hx q.1))), su_one (f := fun y => if u = u ∧ y = v then (1 : Int) else 0) v0 v1 (fun y _ _ hy => if_neg (fun q => hy q.2)), if_pos ⟨rfl, rfl⟩] at b2
    omega
  have cntup : ∀ f f2 : Int, f < f2 → (∃ u v : Int, 0 ≤ u ∧ u < n ∧ 0 ≤ v ∧ v < n ∧ δ u v = f2) → su n (fun u => su n (fun v => if δ u v ≤ f then (1 : Int) else 0)) + 1 ≤ su n (fun u => su n (fun v => if δ u v ≤ f2 then (1 : Int) else 0)) := fun f f2 hf ⟨u, v, u0, u1, v0, v1, hd⟩ => by
    have b2 : su n (fun x => su n (fun y => (if δ x y ≤ f then (1 : Int) else 0) + (if x = u ∧ y = v then (1 : Int) else 0))) ≤ su n (fun u => su n (fun v => if δ u v ≤ f2 then (1 : Int) else 0)) := su2_le (fun x y _ _ _ _ => by
      by_cases c : x = u ∧ y = v
      · rw [if_pos c, c.1, c.2, if_neg (by omega), if_pos (by omega)]; omega
      · rw [if_neg c]; split <;> split <;> omega)
    rw [su2_add n (fun x y => if δ x y ≤ f then (1 : Int) else 0), su_one (f := fun x => su n (fun y => if x = u ∧ y = v then (1 : Int) else 0)) u0 u1 (fun x _ _ hx => su_all0 (fun y _ _ => if_neg (fun q => hx q.1))), su_one (f := fun y => if u = u ∧ y = v then (1 : Int) else 0) v0 v1 (fun y _ _ hy => if_neg (fun q => hy q.2)), if_pos ⟨rfl, rfl⟩] at b2
    exact b2
  have key : ∀ (f : Nat) (x : Int) (N : Mem) (π : Int → Int), 0 ≤ x → x ≤ 100 → 100 - x < f → St N π → x ≤ su n (fun u => su n (fun v => if δ u v ≤ N 7 0 then (1 : Int) else 0)) → lpX7_make_42 r2 r3 post f total x N := by
    intro f
    induction f with
    | zero => intro x N π _ _ g; omega
    | succ f ih =>
      intro x N π x0 x1 hf st hx
      obtain ⟨o, s, d, ⟨js, jt, jm, H⟩, f0, m1, m2, b1, b2, b3⟩ := id st
      -- where it is stuck
      have stuck : ¬ total ≤ N (8 + 1) 1 → ∃ S : Int → Prop, (∀ u : Int, S u ↔ N (36 + 1) u < 1000000) ∧ Shd n (fun u v => δ u v ≤ N 7 0) (M r2) (M r3) S ∧ ¬ Fit n δ (M r2) (M r3) (N 7 0) ∧ ∃ u v : Int, 0 ≤ u ∧ u < n ∧ 0 ≤ v ∧ v < n ∧ N 7 0 < δ u v := fun hm => by
        rcases m2 with m2 | ⟨ra, F, hk⟩
        · exact absurd m2 hm
        · obtain ⟨_, hh⟩ := rch_stk (f := N 7 0) (δ := δ) (ra := ra) hn hα (fun u v _ _ _ _ => Iff.rfl) s d H (by omega)
          obtain ⟨k1, k2⟩ := hh F hk
          obtain ⟨c1, c2, c3⟩ := rch_bal hn.2 d H
          obtain ⟨z1, z2⟩ := stk_not k1 (by omega) (by rw [c3]; omega)
          exact ⟨fun u => N (36 + 1) u < 1000000, fun _ => Iff.rfl, stk_shd k1 k2, z1, z2⟩
      unfold lpX7_make_42 jbX7_make_103
      refine ⟨fun g => fin N π st ?_, fun g => ⟨fun g1 => fin N π st g1, fun g1 => ?_⟩⟩
      · by_cases q : total ≤ N (8 + 1) 1
        · exact q
        · obtain ⟨_, _, _, _, z⟩ := stuck q
          have := cnt100 _ z
          omega
      · obtain ⟨S, hSi, hShd, hnf, hfar⟩ := stuck g1
        have r1 : N 1 0 = n := by rw [o 1 (by omega) (by omega) (by omega) (by omega) (by omega) (by omega) (by omega) (by omega) (by omega), e0]
        rw [r1]
        refine X7_noteStuck hn (fun N1 hO1 h27 => ?_)
        have q7 : N1 7 = N 7 := hO1 7 (by omega)
        rw [q7]
        have eδ1 : ∀ u v : Int, 0 ≤ u → u < n → 0 ≤ v → v < n → N1 (50 + u) v = δ u v := fun u v a b c e => by
          rw [hO1 (50 + u) (by omega), o (50 + u) (by omega) (by omega) (by omega) (by omega) (by omega) (by omega) (by omega) (by omega) (by omega)]; exact eδ u v a b c e
        refine X7_distanceAbove (δ := δ) hn (by rw [hO1 1 (by omega), r1]) eδ1 (fun F2 hF2 hF2' => ?_)
        have hF2'' : ∃ u v : Int, 0 ≤ u ∧ u < n ∧ 0 ≤ v ∧ v < n ∧ δ u v = F2 ∧ N 7 0 < F2 := by
          rcases hF2' with q | q
          · obtain ⟨u, v, u0, u1, v0, v1, hd⟩ := hfar
            have z1 := hF2 u v u0 u1 v0 v1 hd
            have z2 := hδ.2.1 u v u0 u1 v0 v1
            omega
          · exact q
        obtain ⟨ux, vx, ux0, ux1, vx0, vx1, hdx, hlt⟩ := hF2''
        intro N2 e2
        have off2 : ∀ k : Int, k ≠ 7 → k ≠ 27 → N2 k = N k := fun k p1 p2 => by rw [e2, row_ne p1, hO1 k p2]
        have v7 : N2 7 0 = F2 := by rw [e2, mset_s]
        obtain ⟨t1, t2, t3⟩ := rch_mem (n := n) (α := M r2) (β := M r3) (J := fun u v => δ u v ≤ N 7 0 ∧ 0 < M r2 u ∧ 0 < M r3 v) (M := N) (M' := N2) (js := js) (jt := jt) (jm := jm) (off2 _ (by omega) (by omega)) (off2 _ (by omega) (by omega)) (off2 _ (by omega) (by omega)) (off2 _ (by omega) (by omega)) (off2 _ (by omega) (by omega))
        have H2 := t1 H
        have s2 := t2 s
        have d2 := netD_zero (t3 π d) H2.2.2.2
        have w2 : N2 r2 = M r2 := by rw [off2 r2 (by omega) (by omega), o r2 (by omega) (by omega) (by omega) (by omega) (by omega) (by omega) (by omega) (by omega) (by omega)]
        have w3 : N2 r3 = M r3 := by rw [off2 r3 (by omega) (by omega), o r3 (by omega) (by omega) (by omega) (by omega) (by omega) (by omega) (by omega) (by omega) (by omega)]
        rw [← w2, ← w3] at H2
        refine X7_joinDistance (δ := δ) hr2 hr3 hn (by rw [off2 1 (by omega) (by omega), r1]) (fun u v a b c e => by rw [off2 (50 + u) (by omega) (by omega), ← hO1 (50 + u) (by omega)]; exact eδ1 u v a b c e) s2 d2 H2 (fun u v _ _ _ _ q => by rw [v7]; have := q.1; omega) (fun N3 jm3 hO3 s3 d3 mv3 H3 => ?_)
        rw [w2, w3, v7] at H3
        have c7 : N3 7 = N2 7 := hO3 7 (by omega) (by omega) (by omega) (by omega) (by omega) (by omega) (by omega)
        have H3' : RchF n (M r2) (M r3) (fun u v => δ u v ≤ F2 ∧ 0 < M r2 u ∧ 0 < M r3 v) N3 js jt jm3 := rch_iff (fun u v a b c e => ⟨fun q => by
          rcases q with q | q
          · exact ⟨by have := q.1; omega, q.2⟩
          · exact ⟨by omega, q.2⟩, fun q => by
          by_cases z : δ u v ≤ N 7 0
          · exact Or.inl ⟨z, q.2⟩
          · have := hF2 u v a b c e (by omega)
            exact Or.inr ⟨by omega, q.2⟩⟩) H3
        refine X5_push (Or.inr rfl) (by omega) s3 d3 (fun N4 π4 hO4 d4 s4 p1 p2 p3 => ⟨by omega, ?_⟩)
        have b7 : N4 7 0 = F2 := by rw [hO4.1 7 (by omega) (by omega) (by omega) (by omega), c7, v7]
        have m9 : N2 (8 + 1) 1 = N (8 + 1) 1 := by rw [off2 (8 + 1) (by omega) (by omega)]
        have b27 : N4 27 = N1 27 := by rw [hO4.1 27 (by omega) (by omega) (by omega) (by omega), hO3 27 (by omega) (by omega) (by omega) (by omega) (by omega) (by omega) (by omega), e2, row_ne (by omega)]
        refine ih (x + 1) N4 π4 (by omega) (by omega) (by omega) ⟨fun k z1 z2 z3 z4 z5 z6 z7 z8 z9 => ?_, s4, d4, ⟨js, jt, jm3, by rw [b7]; exact rch_off hO4 H3'⟩, by omega, by omega, p3, fun g g0 g2 q => ?_, fun q => by omega, fun _ => ⟨S, ?_, fun u u0 u1 => ?_⟩⟩ ?_
        · rw [hO4.1 k (by omega) (by omega) (by omega) (by omega), hO3 k z3 z4 z5 z6 z7 z8 z9, off2 k z1 z2]
          exact o k z1 z2 z3 z4 z5 z6 z7 z8 z9
        · rw [b7] at g2
          obtain ⟨A, A1, A2⟩ := q
          refine hnf ⟨A, A1, fun u v a b c e hg => ?_⟩
          have z := A2 u v a b c e hg
          by_cases w : N 7 0 < δ u v
          · have := hF2 u v a b c e w; omega
          · omega
        · rw [b7]
          refine shd_near (fun u v a b c e => ⟨fun q => by omega, fun q => ?_⟩) hShd
          by_cases w : N 7 0 < δ u v
          · have := hF2 u v a b c e w; omega
          · omega
        · rw [b27, h27 u u0 u1]
          by_cases w : N (36 + 1) u < 1000000
          · rw [if_pos w]; exact Or.inl ⟨rfl, (hSi u).mpr w⟩
          · rw [if_neg w]; exact Or.inr ⟨rfl, fun q => w ((hSi u).mp q)⟩
        · rw [b7]
          have := cntup (N 7 0) F2 hlt ⟨ux, vx, ux0, ux1, vx0, vx1, hdx⟩
          omega
  -- the start
  unfold wpX7_make
  rw [e0]
  refine X7_joinEnds hr2 hr3 hn hα (fun M1 js jt hO1 s1 d1 mv1 H1 => ?_)
  refine J7_fill (by rw [lenX_27]; omega) (by rw [lenX_27]; omega) (fun M2 e2 => ?_)
  rw [lenX_27] at e2
  have off2 : ∀ k : Int, k ≠ 7 → k ≠ 27 → M2 k = M1 k := fun k p1 p2 => by
    rw [e2, row_ne p1]
    funext i
    exact mfill_r p2
  have v7 : M2 7 0 = 0 := by rw [e2, mset_s]
  have v27 : ∀ u : Int, 0 ≤ u → u < 10 → M2 27 u = 0 := fun u a b => by rw [e2, mset_r (by omega), mfill_in a b]
  obtain ⟨t1, t2, t3⟩ := rch_mem (n := n) (α := M r2) (β := M r3) (J := fun _ _ => False) (M := M1) (M' := M2) (js := js) (jt := jt) (jm := fun _ _ => 0) (off2 _ (by omega) (by omega)) (off2 _ (by omega) (by omega)) (off2 _ (by omega) (by omega)) (off2 _ (by omega) (by omega)) (off2 _ (by omega) (by omega))
  have o2 : ∀ k : Int, k ≠ 7 → k ≠ 27 → k ≠ 9 → k ≠ 29 → k ≠ 31 → k ≠ 33 → k ≠ 35 → k ≠ 37 → k ≠ 39 → M2 k = M k := fun k z1 z2 z3 z4 z5 z6 z7 z8 z9 => by rw [off2 k z1 z2, hO1 k z3 z4 z5 z6 z7 z8 z9]
  have w2 : M2 r2 = M r2 := o2 r2 (by omega) (by omega) (by omega) (by omega) (by omega) (by omega) (by omega) (by omega) (by omega)
  have w3 : M2 r3 = M r3 := o2 r3 (by omega) (by omega) (by omega) (by omega) (by omega) (by omega) (by omega) (by omega) (by omega)
  have H2 := t1 H1
  rw [← w2, ← w3] at H2
  refine X7_joinDistance (δ := δ) hr2 hr3 hn (by rw [o2 1 (by omega) (by omega) (by omega) (by omega) (by omega) (by omega) (by omega) (by omega) (by omega), e0]) (fun u v a b c e => by rw [o2 (50 + u) (by omega) (by omega) (by omega) (by omega) (by omega) (by omega) (by omega) (by omega) (by omega)]; exact eδ u v a b c e) (t2 s1) (t3 _ d1) H2 (fun u v _ _ _ _ q => q.elim) (fun M3 jm3 hO3 s3 d3 mv3 H3 => ?_)
  rw [w2, w3, v7] at H3
  have H3' : RchF n (M r2) (M r3) (fun u v => δ u v ≤ 0 ∧ 0 < M r2 u ∧ 0 < M r3 v) M3 js jt jm3 := rch_iff (fun u v a b c e => ⟨fun q => by
    rcases q with q | q
    · exact q.elim
    · exact ⟨by omega, q.2⟩, fun q => Or.inr ⟨by have := (hδ.2.1 u v a b c e).1; omega, q.2⟩⟩) H3
  refine X5_push (Or.inr rfl) (by omega) s3 d3 (fun M4 π4 hO4 d4 s4 p1 p2 p3 => ?_)
  have b7 : M4 7 0 = 0 := by rw [hO4.1 7 (by omega) (by omega) (by omega) (by omega), hO3 7 (by omega) (by omega) (by omega) (by omega) (by omega) (by omega) (by omega), v7]
  have m9 : M3 (8 + 1) 1 = 0 := by rw [mv3, off2 (8 + 1) (by omega) (by omega), mv1]
  refine ⟨101, key 101 0 M4 π4 (by omega) (by omega) (by omega) ⟨fun k z1 z2 z3 z4 z5 z6 z7 z8 z9 => ?_, s4, d4, ⟨js, jt, jm3, by rw [b7]; exact rch_off hO4 H3'⟩, by omega, by omega, p3, fun g g0 g2 => by omega, fun _ u u0 u1 => ?_, fun q => by omega⟩ (su_nonneg (fun u _ _ => su_nonneg (fun v _ _ => by split <;> omega)))⟩
  · rw [hO4.1 k (by omega) (by omega) (by omega) (by omega), hO3 k z3 z4 z5 z6 z7 z8 z9]
    exact o2 k z1 z2 z3 z4 z5 z6 z7 z8 z9
  · rw [hO4.1 27 (by omega) (by omega) (by omega) (by omega), hO3 27 (by omega) (by omega) (by omega) (by omega) (by omega) (by omega) (by omega)]
    exact v27 u u0 (by omega)
