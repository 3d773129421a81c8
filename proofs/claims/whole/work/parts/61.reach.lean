/-! the class's reach: its network -/
/-- which pairs are joined: J; arcs js (source), jt (sink), jm -/
def RchF (n : Int) (α β : Int → Int) (J : Int → Int → Prop) (M : Mem) (js jt : Int → Int) (jm : Int → Int → Int) : Prop :=
  (∀ v : Int, 0 ≤ v → v < n → (0 < α v → Arc 1 M (js v) 20 v (α v) 0) ∧ (0 < β v → Arc 1 M (jt v) (10 + v) 21 (β v) 0)) ∧ (∀ u v : Int, 0 ≤ u → u < n → 0 ≤ v → v < n → J u v → 0 < α u ∧ 0 < β v ∧ Arc 1 M (jm u v) u (10 + v) 1000000 0)
  ∧ (∀ φ : Int → Int, su (M (8 + 1) 0 / 2) φ = su n (fun v => ind (0 < α v) (φ (js v)) + ind (0 < β v) (φ (jt v))) + su n (fun u => su n (fun v => ind (J u v) (φ (jm u v))))) ∧ ∀ e : Int, 0 ≤ e → e < M (8 + 1) 0 → M (34 + 1) e = 0
def OffX (M M' : Mem) : Prop := ∀ k : Int, k ≠ 7 → k ≠ 27 → k ≠ 9 → k ≠ 29 → k ≠ 31 → k ≠ 33 → k ≠ 35 → k ≠ 37 → k ≠ 39 → M' k = M k
def OffY (M M' : Mem) : Prop := ∀ k : Int, k ≠ 9 → k ≠ 29 → k ≠ 31 → k ≠ 33 → k ≠ 35 → k ≠ 37 → k ≠ 39 → M' k = M k
theorem offY_jn {M M1 M2 : Mem} {a1 a2 a3 a4 : Int} (h : OffY M M1) (hj : Jn 1 M1 M2 a1 a2 a3 a4) : OffY M M2 := fun k p1 p2 p3 p4 p5 p6 p7 => by
  rw [hj.2.2.2.2.2.2.2 k (by omega) (by omega) (by omega) (by omega) (by omega)]
  exact h k p1 p2 p3 p4 p5 p6 p7
theorem price_jn {M M' : Mem} {a1 a2 a3 : Int} (h : ∀ e : Int, 0 ≤ e → e < M (8 + 1) 0 → M (34 + 1) e = 0) (hj : Jn 1 M M' a1 a2 a3 0) : ∀ e : Int, 0 ≤ e → e < M' (8 + 1) 0 → M' (34 + 1) e = 0 := fun e e0 e1 => by
  rw [hj.1] at e1
  rw [hj.2.2.2.2.2.2.1]
  by_cases c1 : e = M (8 + 1) 0 + 1
  · rw [c1, up_s]; rfl
  · by_cases c2 : e = M (8 + 1) 0
    · rw [c2, up2_a]
    · rw [up2_lo (by omega)]; exact h e e0 (by omega)
theorem netD_zero {M : Mem} {π : Int → Int} (h : NetD 1 M π) (hp : ∀ e : Int, 0 ≤ e → e < M (8 + 1) 0 → M (34 + 1) e = 0) : NetD 1 M Zπ := by
  obtain ⟨d1, d2, d3, d4, d5, d6, d7⟩ := h
  exact ⟨d1, fun e e0 e1 _ => by rw [hp e e0 e1]; exact Int.le_refl _, fun _ _ _ => Int.le_refl _, rfl, d5, d6, d7⟩
theorem X7_joinEnds {r2 r3 n : Int} {M : Mem} {post : Mem → Prop} (hr2 : 80 ≤ r2 ∧ r2 < 88) (hr3 : 80 ≤ r3 ∧ r3 < 88) (hn : 0 ≤ n ∧ n ≤ 10) (hα : ∀ v : Int, 0 ≤ v → v < n → (0 ≤ M r2 v ∧ M r2 v ≤ 1000) ∧ 0 ≤ M r3 v ∧ M r3 v ≤ 1000)
    (h : ∀ (M' : Mem) (js jt : Int → Int), OffY M M' → NetS 1 M' → NetD 1 M' Zπ → M' (8 + 1) 1 = 0 → RchF n (M r2) (M r3) (fun _ _ => False) M' js jt (fun _ _ => 0) → post M') : wpX7_joinEnds r2 r3 n M post := by
  have l2 : lenX r2 = 10 := by have := lenX_80 (u := r2 - 80) (by omega); rw [show 80 + (r2 - 80) = r2 by omega] at this; exact this
  have l3 : lenX r3 = 10 := by have := lenX_80 (u := r3 - 80) (by omega); rw [show 80 + (r3 - 80) = r3 by omega] at this; exact this
  refine X5_empty (fun M1 x0 x1 x2 xO xS xD => ?_)
  have key : ∀ (f : Nat) (x : Int) (N : Mem) (js jt : Int → Int), 0 ≤ x → x ≤ n → n - x < f → OffY M N → NetS 1 N → NetD 1 N Zπ → N (8 + 1) 0 ≤ 4 * x → N (8 + 1) 1 = 0 → (∀ v : Int, 0 ≤ v → v < x → (0 < M r2 v → Arc 1 N (js v) 20 v (M r2 v) 0) ∧ (0 < M r3 v → Arc 1 N (jt v) (10 + v) 21 (M r3 v) 0)) → (∀ φ : Int → Int, su (N (8 + 1) 0 / 2) φ = su x (fun v => ind (0 < M r2 v) (φ (js v)) + ind (0 < M r3 v) (φ (jt v)))) → (∀ e : Int, 0 ≤ e → e < N (8 + 1) 0 → N (34 + 1) e = 0) → lpX7_joinEnds_10 r2 r3 post f n x N := by
    intro f
    induction f with
    | zero => intro x N js jt _ _ g; omega
    | succ f ih =>
      intro x N js jt xx0 xx1 hf hO hS hD hN hm hA hφ hpr
      have s2 : N r2 = M r2 := hO r2 (by omega) (by omega) (by omega) (by omega) (by omega) (by omega) (by omega)
      have s3 : N r3 = M r3 := hO r3 (by omega) (by omega) (by omega) (by omega) (by omega) (by omega) (by omega)
      unfold lpX7_joinEnds_10
      rw [s2, l2]
      refine ⟨fun g => ?_, fun g => ?_⟩
      · have e : x = n := by omega
        subst e
        refine h N js jt hO hS hD hm ⟨hA, fun u v _ _ _ _ q => q.elim, fun φ => ?_, hpr⟩
        rw [hφ φ, su_all0 (n := x) (f := fun u => su x (fun v => ind False (φ ((fun _ _ => 0 : Int → Int → Int) u v)))) (fun u _ _ => su_all0 (fun v _ _ => ind_f (fun q => q))), Int.add_zero]
      · have hb := hα x xx0 (by omega)
        -- the second end
        have second : ∀ (N : Mem) (js : Int → Int), OffY M N → NetS 1 N → NetD 1 N Zπ → N (8 + 1) 0 ≤ 4 * x + 2 → N (8 + 1) 1 = 0 → (∀ v : Int, 0 ≤ v → v < x + 1 → 0 < M r2 v → Arc 1 N (js v) 20 v (M r2 v) 0) → (∀ v : Int, 0 ≤ v → v < x → 0 < M r3 v → Arc 1 N (jt v) (10 + v) 21 (M r3 v) 0) → (∀ φ : Int → Int, su (N (8 + 1) 0 / 2) φ = su x (fun v => ind (0 < M r2 v) (φ (js v)) + ind (0 < M r3 v) (φ (jt v))) + ind (0 < M r2 x) (φ (js x))) → (∀ e : Int, 0 ≤ e → e < N (8 + 1) 0 → N (34 + 1) e = 0) → jbX7_joinEnds_39 r2 r3 post (fun y1 y4 N => lpX7_joinEnds_10 r2 r3 post f y1 y4 N) n x N := fun N js hO hS hD hN hm hA hB hφ hpr => by
          have s3 : N r3 = M r3 := hO r3 (by omega) (by omega) (by omega) (by omega) (by omega) (by omega) (by omega)
          unfold jbX7_joinEnds_39 jbX7_joinEnds_65
          rw [s3, l3]
          refine ⟨by omega, fun g2 => ⟨by omega, ?_⟩, fun g2 => ⟨by omega, by omega, ?_⟩⟩
          · refine ih (x + 1) N js jt (by omega) (by omega) (by omega) hO hS hD (by omega) hm (fun v v0 v1 => ⟨hA v v0 v1, fun q => hB v v0 (by
              by_cases c : v = x
              · rw [c] at q; omega
              · omega) q⟩) (fun φ => ?_) hpr
            rw [hφ φ, su_s xx0, ind_f (p := 0 < M r3 x) (by omega), Int.add_zero]
          · refine X5_join (Or.inr rfl) hS hD (by omega) (by omega) (by omega) (by omega) (by omega) (fun _ => by show (0 : Int) ≤ 0 + 0; omega) (fun N1 hj hS1 hD1 => ⟨by omega, ?_⟩)
            refine ih (x + 1) N1 js (up jt x (N (8 + 1) 0 / 2)) (by omega) (by omega) (by omega) (offY_jn hO hj) hS1 hD1 (by rw [hj.1]; omega) (by rw [hj.2.1]; exact hm) (fun v v0 v1 => ⟨fun q => arc_jn hj (hA v v0 v1 q), fun q => ?_⟩) (fun φ => ?_) (price_jn hpr hj)
            · by_cases c : v = x
              · rw [c, up_s]; exact arc_new hS hj
              · rw [up_n c]; exact arc_jn hj (hB v v0 (by omega) q)
            · rw [sum_jn hS hj, hφ φ, su_s xx0, ind_t (p := 0 < M r3 x) (by omega), up_s]
              rw [su_congr (n := x) (f := fun v => ind (0 < M r2 v) (φ (js v)) + ind (0 < M r3 v) (φ (up jt x (N (8 + 1) 0 / 2) v))) (g := fun v => ind (0 < M r2 v) (φ (js v)) + ind (0 < M r3 v) (φ (jt v))) (fun v v0 v1 => by rw [up_n (by omega)])]
              omega
        refine ⟨by omega, fun g1 => ?_, fun g1 => ⟨by omega, ?_⟩⟩
        · refine second N js hO hS hD (by omega) hm (fun v v0 v1 q => (hA v v0 (by
            by_cases c : v = x
            · rw [c] at q; omega
            · omega)).1 q) (fun v v0 v1 q => (hA v v0 v1).2 q) (fun φ => ?_) hpr
          rw [hφ φ, ind_f (p := 0 < M r2 x) (by omega), Int.add_zero]
        · refine X5_join (Or.inr rfl) hS hD (by omega) (by omega) (by omega) (by omega) (by omega) (fun _ => by show (0 : Int) ≤ 0 + 0; omega) (fun N1 hj hS1 hD1 => ?_)
          refine second N1 (up js x (N (8 + 1) 0 / 2)) (offY_jn hO hj) hS1 hD1 (by rw [hj.1]; omega) (by rw [hj.2.1]; exact hm) (fun v v0 v1 q => ?_) (fun v v0 v1 q => arc_jn hj ((hA v v0 v1).2 q)) (fun φ => ?_) (price_jn hpr hj)
          · by_cases c : v = x
            · rw [c, up_s]; exact arc_new hS hj
            · rw [up_n c]; exact arc_jn hj ((hA v v0 (by omega)).1 q)
          · rw [sum_jn hS hj, hφ φ, ind_t (p := 0 < M r2 x) (by omega), up_s]
            rw [su_congr (n := x) (f := fun v => ind (0 < M r2 v) (φ (up js x (N (8 + 1) 0 / 2) v)) + ind (0 < M r3 v) (φ (jt v))) (g := fun v => ind (0 < M r2 v) (φ (js v)) + ind (0 < M r3 v) (φ (jt v))) (fun v v0 v1 => by rw [up_n (by omega)])]
  exact ⟨11, key 11 0 M1 (fun _ => 0) (fun _ => 0) (by omega) (by omega) (by omega) (fun k p1 _ _ _ _ _ _ => xO k (by omega)) xS xD (by omega) x1 (fun v _ _ => by omega) (fun φ => by rw [x0]; rfl) (fun e _ _ => by omega)⟩
/-- the number of arcs -/
theorem rch_count {n : Int} {α β : Int → Int} {J : Int → Int → Prop} {M : Mem} {js jt : Int → Int} {jm : Int → Int → Int} (hn : 0 ≤ n ∧ n ≤ 10) (H : RchF n α β J M js jt jm) (hS : NetS 1 M) {u v : Int} (hu : 0 ≤ u ∧ u < n) (hv : 0 ≤ v ∧ v < n) (hJ : ¬ J u v) : M (8 + 1) 0 + 2 ≤ 240 := by
  have e := H.2.2.1 (fun _ => 1)
  have ev := hS.2.2.1
  have nb := hS.1
  rw [su_const (n := M (8 + 1) 0 / 2) (by omega)] at e
  have b1 := su_bnd (n := n) (B := 2) (f := fun v => ind (0 < α v) (1 : Int) + ind (0 < β v) (1 : Int)) hn.1 (fun k _ _ => by
    show 0 ≤ ind (0 < α k) (1 : Int) + ind (0 < β k) (1 : Int) ∧ ind (0 < α k) (1 : Int) + ind (0 < β k) (1 : Int) ≤ 2
    unfold ind
    split <;> split <;> omega)
  have b2 : su n (fun x => su n (fun y => ind (J x y) (1 : Int) + (if x = u ∧ y = v then (1 : Int) else 0))) ≤ n * 10 := by
    refine (su_bnd (n := n) (B := 10) hn.1 (fun x _ _ => ?_)).2
    have t := su_bnd (n := n) (B := 1) (f := fun y => ind (J x y) (1 : Int) + (if x = u ∧ y = v then (1 : Int) else 0)) hn.1 (fun y _ _ => by
      show 0 ≤ ind (J x y) (1 : Int) + (if x = u ∧ y = v then (1 : Int) else 0) ∧ ind (J x y) (1 : Int) + (if x = u ∧ y = v then (1 : Int) else 0) ≤ 1
      by_cases c : x = u ∧ y = v
      · rw [if_pos c, c.1, c.2, ind_f hJ]; omega
      · rw [if_neg c]
        unfold ind
        split <;> omega)
    omega
  rw [su2_add n (fun x y => ind (J x y) (1 : Int)), su_one (f := fun x => su n (fun y => if x = u ∧ y = v then (1 : Int) else 0)) hu.1 hu.2 (fun x _ _ hx => su_all0 (fun y _ _ => if_neg (fun q => hx q.1))), su_one (f := fun y => if u = u ∧ y = v then (1 : Int) else 0) hv.1 hv.2 (fun y _ _ hy => if_neg (fun q => hy q.2)), if_pos ⟨rfl, rfl⟩] at b2
  have e : M (8 + 1) 0 / 2 * 1 = su n (fun v => ind (0 < α v) (1 : Int) + ind (0 < β v) (1 : Int)) + su n (fun u => su n (fun v => ind (J u v) (1 : Int))) := e
  omega
theorem X7_joinDistance {r2 r3 n : Int} {δ : Int → Int → Int} {J : Int → Int → Prop} {M : Mem} {js jt : Int → Int} {jm : Int → Int → Int} {post : Mem → Prop} (hr2 : 80 ≤ r2 ∧ r2 < 88) (hr3 : 80 ≤ r3 ∧ r3 < 88) (hn : 0 ≤ n ∧ n ≤ 10) (e0 : M 1 0 = n) (eδ : ∀ u v : Int, 0 ≤ u → u < n → 0 ≤ v → v < n → M (50 + u) v = δ u v) (hS : NetS 1 M) (hD : NetD 1 M Zπ) (H : RchF n (M r2) (M r3) J M js jt jm) (hJ : ∀ u v : Int, 0 ≤ u → u < n → 0 ≤ v → v < n → J u v → δ u v ≠ M 7 0)
    (h : ∀ (M' : Mem) (jm : Int → Int → Int), OffY M M' → NetS 1 M' → NetD 1 M' Zπ → M' (8 + 1) 1 = M (8 + 1) 1 → RchF n (M r2) (M r3) (fun u v => J u v ∨ (δ u v = M 7 0 ∧ 0 < M r2 u ∧ 0 < M r3 v)) M' js jt jm → post M') : wpX7_joinDistance r2 r3 M post := by
  have l2 : lenX r2 = 10 := by have := lenX_80 (u := r2 - 80) (by omega); rw [show 80 + (r2 - 80) = r2 by omega] at this; exact this
  have l3 : lenX r3 = 10 := by have := lenX_80 (u := r3 - 80) (by omega); rw [show 80 + (r3 - 80) = r3 by omega] at this; exact this
  have rext : ∀ (J1 J2 : Int → Int → Prop) (N : Mem) (jm : Int → Int → Int), (∀ u v : Int, 0 ≤ u → u < n → 0 ≤ v → v < n → (J1 u v ↔ J2 u v)) → RchF n (M r2) (M r3) J1 N js jt jm → RchF n (M r2) (M r3) J2 N js jt jm := fun J1 J2 N jm hJJ H => by
    obtain ⟨h1, h2, h3, h4⟩ := H
    refine ⟨h1, fun u v a b c d q => h2 u v a b c d ((hJJ u v a b c d).mpr q), fun φ => ?_, h4⟩
    rw [h3 φ]
    congr 1
    refine su2_congr (fun u v a b c d => ?_)
    by_cases q : J1 u v
    · rw [ind_t q, ind_t ((hJJ u v a b c d).mp q)]
    · rw [ind_f q, ind_f (fun r => q ((hJJ u v a b c d).mpr r))]
  have key : ∀ (f : Nat) (x : Int) (N : Mem) (jm : Int → Int → Int), 0 ≤ x → x ≤ n → n - x < f → OffY M N → NetS 1 N → NetD 1 N Zπ → N (8 + 1) 1 = M (8 + 1) 1 → RchF n (M r2) (M r3) (fun u v => J u v ∨ (δ u v = M 7 0 ∧ 0 < M r2 u ∧ 0 < M r3 v ∧ u < x)) N js jt jm → lpX7_joinDistance_3 r2 r3 post f x N := by
    intro f
    induction f with
    | zero => intro x N jm _ _ g; omega
    | succ f ih =>
      intro x N jm x0 x1 hf hO hS hD hm H
      unfold lpX7_joinDistance_3
      rw [hO 1 (by omega) (by omega) (by omega) (by omega) (by omega) (by omega) (by omega), e0]
      refine ⟨fun g => ?_, fun g => ?_⟩
      · refine h N jm hO hS hD hm (rext _ _ N jm (fun u v a b c d => ⟨fun q => ?_, fun q => ?_⟩) H)
        · rcases q with q | q
          · exact Or.inl q
          · exact Or.inr ⟨q.1, q.2.1, q.2.2.1⟩
        · rcases q with q | q
          · exact Or.inl q
          · exact Or.inr ⟨q.1, q.2.1, q.2.2, by omega⟩
      · have xn : x < n := by omega
        have key2 : ∀ (f2 : Nat) (y : Int) (N : Mem) (jm : Int → Int → Int), 0 ≤ y → y ≤ n → n - y < f2 → OffY M N → NetS 1 N → NetD 1 N Zπ → N (8 + 1) 1 = M (8 + 1) 1 → RchF n (M r2) (M r3) (fun u v => J u v ∨ (δ u v = M 7 0 ∧ 0 < M r2 u ∧ 0 < M r3 v ∧ (u < x ∨ (u = x ∧ v < y)))) N js jt jm → lpX7_joinDistance_15 r2 r3 post (fun y4 N => lpX7_joinDistance_3 r2 r3 post f y4 N) f2 x y N := by
          intro f2
          induction f2 with
          | zero => intro y N jm _ _ g; omega
          | succ f2 ih2 =>
            intro y N jm y0 y1 hf2 hO hS hD hm H
            have s2 : N r2 = M r2 := hO r2 (by omega) (by omega) (by omega) (by omega) (by omega) (by omega) (by omega)
            have s3 : N r3 = M r3 := hO r3 (by omega) (by omega) (by omega) (by omega) (by omega) (by omega) (by omega)
            have s7 : N 7 = M 7 := hO 7 (by omega) (by omega) (by omega) (by omega) (by omega) (by omega) (by omega)
            unfold lpX7_joinDistance_15 jbX7_joinDistance_72
            rw [hO 1 (by omega) (by omega) (by omega) (by omega) (by omega) (by omega) (by omega), e0, hO (50 + x) (by omega) (by omega) (by omega) (by omega) (by omega) (by omega) (by omega), s2, s3, s7, l2, l3]
            refine ⟨fun g2 => ⟨by omega, ?_⟩, fun g2 => ?_⟩
            · refine ih (x + 1) N jm (by omega) (by omega) (by omega) hO hS hD hm (rext _ _ N jm (fun u v a b c d => ⟨fun q => ?_, fun q => ?_⟩) H)
              · rcases q with q | q
                · exact Or.inl q
                · exact Or.inr ⟨q.1, q.2.1, q.2.2.1, by omega⟩
              · rcases q with q | q
                · exact Or.inl q
                · exact Or.inr ⟨q.1, q.2.1, q.2.2.1, by omega⟩
            · have yn : y < n := by omega
              rw [eδ x y x0 xn y0 yn]
              have skip : ¬ (δ x y = M 7 0 ∧ 0 < M r2 x ∧ 0 < M r3 y) → inR (y + 1) ∧ lpX7_joinDistance_15 r2 r3 post (fun y4 N => lpX7_joinDistance_3 r2 r3 post f y4 N) f2 x (y + 1) N := fun hh => ⟨by omega, ih2 (y + 1) N jm (by omega) (by omega) (by omega) hO hS hD hm (rext _ _ N jm (fun u v a b c d => ⟨fun q => by
                  rcases q with q | q
                  · exact Or.inl q
                  · exact Or.inr ⟨q.1, q.2.1, q.2.2.1, by omega⟩, fun q => by
                  rcases q with q | q
                  · exact Or.inl q
                  · refine Or.inr ⟨q.1, q.2.1, q.2.2.1, ?_⟩
                    by_cases e : u = x ∧ v = y
                    · rw [e.1, e.2] at q; exact absurd ⟨q.1, q.2.1, q.2.2.1⟩ hh
                    · omega⟩) H)⟩
              refine ⟨by omega, by omega, fun g3 => skip (fun q => g3 q.1), fun g3 => ⟨by omega, fun g4 => skip (fun q => by omega), fun g4 => ⟨by omega, fun g5 => skip (fun q => by omega), fun g5 => ⟨by omega, ?_⟩⟩⟩⟩
              have nJ : ¬ (J x y ∨ (δ x y = M 7 0 ∧ 0 < M r2 x ∧ 0 < M r3 y ∧ (x < x ∨ (x = x ∧ y < y)))) := fun q => by
                rcases q with q | q
                · exact hJ x y x0 xn y0 yn q g3
                · omega
              have cnt := rch_count hn H hS ⟨x0, xn⟩ ⟨y0, yn⟩ nJ
              refine X5_join (Or.inr rfl) hS hD cnt (by omega) (by omega) (by omega) (by omega) (fun _ => by show (0 : Int) ≤ 0 + 0; omega) (fun N1 hj hS1 hD1 => ⟨by omega, ?_⟩)
              obtain ⟨h1, h2, h3, h4⟩ := H
              refine ih2 (y + 1) N1 (fun u v => if u = x ∧ v = y then N (8 + 1) 0 / 2 else jm u v) (by omega) (by omega) (by omega) (offY_jn hO hj) hS1 hD1 (by rw [hj.2.1]; exact hm) ⟨fun v a b => ⟨fun q => arc_jn hj ((h1 v a b).1 q), fun q => arc_jn hj ((h1 v a b).2 q)⟩, fun u v a b c d q => ?_, fun φ => ?_, price_jn h4 hj⟩
              · show 0 < M r2 u ∧ 0 < M r3 v ∧ Arc 1 N1 (if u = x ∧ v = y then N (8 + 1) 0 / 2 else jm u v) u (10 + v) 1000000 0
                by_cases e : u = x ∧ v = y
                · rw [if_pos e, e.1, e.2]
                  exact ⟨by omega, by omega, arc_new hS hj⟩
                · rw [if_neg e]
                  obtain ⟨t1, t2, t3⟩ := h2 u v a b c d (by
                    rcases q with q | q
                    · exact Or.inl q
                    · exact Or.inr ⟨q.1, q.2.1, q.2.2.1, by omega⟩)
                  exact ⟨t1, t2, arc_jn hj t3⟩
              · rw [sum_jn hS hj, h3 φ, Int.add_assoc]
                congr 1
                have e1 : su n (fun u => su n (fun v => ind (J u v ∨ (δ u v = M 7 0 ∧ 0 < M r2 u ∧ 0 < M r3 v ∧ (u < x ∨ (u = x ∧ v < y + 1)))) (φ (if u = x ∧ v = y then N (8 + 1) 0 / 2 else jm u v)))) = su n (fun u => su n (fun v => ind (J u v ∨ (δ u v = M 7 0 ∧ 0 < M r2 u ∧ 0 < M r3 v ∧ (u < x ∨ (u = x ∧ v < y)))) (φ (jm u v)) + (if u = x ∧ v = y then φ (N (8 + 1) 0 / 2) else 0))) := su2_congr (fun u v a b c d => by
                  by_cases e : u = x ∧ v = y
                  · rw [if_pos e, if_pos e, e.1, e.2, ind_t (Or.inr ⟨g3, by omega, by omega, by omega⟩), ind_f nJ, Int.zero_add]
                  · rw [if_neg e, if_neg e, Int.add_zero]
                    by_cases q : J u v ∨ (δ u v = M 7 0 ∧ 0 < M r2 u ∧ 0 < M r3 v ∧ (u < x ∨ (u = x ∧ v < y)))
                    · rw [ind_t q, ind_t (by
                        rcases q with q | q
                        · exact Or.inl q
                        · exact Or.inr ⟨q.1, q.2.1, q.2.2.1, by omega⟩)]
                    · rw [ind_f q, ind_f (fun r => q (by
                        rcases r with r | r
                        · exact Or.inl r
                        · exact Or.inr ⟨r.1, r.2.1, r.2.2.1, by omega⟩))])
                rw [e1, su2_add n (fun u v => ind (J u v ∨ (δ u v = M 7 0 ∧ 0 < M r2 u ∧ 0 < M r3 v ∧ (u < x ∨ (u = x ∧ v < y)))) (φ (jm u v))), su_one (f := fun u => su n (fun v => if u = x ∧ v = y then φ (N (8 + 1) 0 / 2) else 0)) x0 xn (fun u _ _ hu => su_all0 (fun v _ _ => if_neg (fun q => hu q.1))), su_one (f := fun v => if x = x ∧ v = y then φ (N (8 + 1) 0 / 2) else 0) y0 yn (fun v _ _ hv => if_neg (fun q => hv q.2)), if_pos ⟨rfl, rfl⟩]
        exact ⟨11, key2 11 0 N jm (by omega) (by omega) (by omega) hO hS hD hm (rext _ _ N jm (fun u v a b c d => ⟨fun q => by
          rcases q with q | q
          · exact Or.inl q
          · exact Or.inr ⟨q.1, q.2.1, q.2.2.1, by omega⟩, fun q => by
          rcases q with q | q
          · exact Or.inl q
          · exact Or.inr ⟨q.1, q.2.1, q.2.2.1, by omega⟩⟩) H)⟩
  exact ⟨11, key 11 0 M jm (by omega) (by omega) (by omega) (fun _ _ _ _ _ _ _ _ => rfl) hS hD rfl (rext _ _ M jm (fun u v a b c d => ⟨fun q => Or.inl q, fun q => by
    rcases q with q | q
    · exact q
    · omega⟩) H)⟩
