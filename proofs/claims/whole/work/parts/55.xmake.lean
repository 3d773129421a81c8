/-! the class's goods, and its whole plan -/
theorem mov_arc {n : Int} {α β : Int → Int} {δ : Int → Int → Int} {M : Mem} {π js : Int → Int} {jm : Int → Int → Int} {jt : Int → Int} (hn : 0 ≤ n ∧ n ≤ 10) (H : MovF n α β δ M π js jm jt) {j : Int} (j0 : 0 ≤ j) (j1 : 2 * j + 1 < M (8 + 0) 0) (ht : M (28 + 0) (2 * j) < n) (hq : M (30 + 0) (2 * j) < n) : ∃ u v : Int, 0 ≤ u ∧ u < n ∧ 0 ≤ v ∧ v < n ∧ β u < α u ∧ α v < β v ∧ jm u v = j := by
  obtain ⟨hS, hD, h1, h2, h3, hφ⟩ := H
  have e := hφ (fun i => if i = j then 1 else 0)
  rw [su_one (j := j) j0 (by omega) (fun k _ _ hk => if_neg hk), if_pos rfl] at e
  have z1 : su n (fun u => if β u < α u then (if js u = j then (1 : Int) else 0) else 0) = 0 := su_all0 (fun u a b => by
    by_cases c : β u < α u
    · rw [if_pos c]
      by_cases d : js u = j
      · have := (h1 u a b c).2.2.1
        rw [d] at this
        omega
      · rw [if_neg d]
    · rw [if_neg c])
  have z3 : su n (fun v => if α v < β v then (if jt v = j then (1 : Int) else 0) else 0) = 0 := su_all0 (fun v a b => by
    by_cases c : α v < β v
    · rw [if_pos c]
      by_cases d : jt v = j
      · have := (h3 v a b c).2.2.2.1
        rw [d] at this
        omega
      · rw [if_neg d]
    · rw [if_neg c])
  have z2 : 0 < su n (fun u => su n (fun v => if β u < α u ∧ α v < β v then (if jm u v = j then (1 : Int) else 0) else 0)) := by
    have z1' : su n (fun u => if β u < α u then (fun i : Int => if i = j then (1 : Int) else 0) (js u) else 0) = 0 := z1
    have z3' : su n (fun v => if α v < β v then (fun i : Int => if i = j then (1 : Int) else 0) (jt v) else 0) = 0 := z3
    have e' : (1 : Int) = su n (fun u => if β u < α u then (fun i : Int => if i = j then (1 : Int) else 0) (js u) else 0) + su n (fun u => su n (fun v => if β u < α u ∧ α v < β v then (if jm u v = j then (1 : Int) else 0) else 0)) + su n (fun v => if α v < β v then (fun i : Int => if i = j then (1 : Int) else 0) (jt v) else 0) := e
    rw [z1', z3'] at e'
    omega
  obtain ⟨u, u0, u1, u2⟩ := su_pos (fun u a b => su_nonneg (fun v c d => by split <;> (try split) <;> omega)) z2
  obtain ⟨v, v0, v1, v2⟩ := su_pos (n := n) (fun v c d => by split <;> (try split) <;> omega) u2
  by_cases c : β u < α u ∧ α v < β v
  · have v2 : 0 < (if β u < α u ∧ α v < β v then (if jm u v = j then (1 : Int) else 0) else 0) := v2
    rw [if_pos c] at v2
    by_cases d : jm u v = j
    · exact ⟨u, v, u0, u1, v0, v1, c.1, c.2, d⟩
    · rw [if_neg d] at v2; omega
  · have v2 : 0 < (if β u < α u ∧ α v < β v then (if jm u v = j then (1 : Int) else 0) else 0) := v2
    rw [if_neg c] at v2; omega
theorem X6_takeGoods {r3 r4 n : Int} {α β : Int → Int} {δ : Int → Int → Int} {M : Mem} {π js : Int → Int} {jm : Int → Int → Int} {jt : Int → Int} {post : Mem → Prop} (hr3 : 80 ≤ r3 ∧ r3 < 88) (hr4 : 80 ≤ r4 ∧ r4 < 88) (hn : 0 ≤ n ∧ n ≤ 10) (e3 : M r3 = α) (e4 : M r4 = β) (H : MovF n α β δ M π js jm jt)
    (h : ∀ M' : Mem, OffP M M' → (∀ u v : Int, 0 ≤ u → u < n → 0 ≤ v → v < n → GX M' u v = mvG α β (M (32 + 0)) jm u v) → post M') : wpX6_takeGoods r3 r4 n M post := by
  have H' := H
  obtain ⟨hS, hD, h1, h2, h3, hφ⟩ := H
  have l3 : lenX r3 = 10 := by have := lenX_80 (u := r3 - 80) (by omega); rw [show 80 + (r3 - 80) = r3 by omega] at this; exact this
  have l4 : lenX r4 = 10 := by have := lenX_80 (u := r4 - 80) (by omega); rw [show 80 + (r4 - 80) = r4 by omega] at this; exact this
  have even := hS.2.2.1
  have key2 : ∀ (f : Nat) (j : Int) (N : Mem), 0 ≤ j → 2 * j ≤ M (8 + 0) 0 → M (8 + 0) 0 - 2 * j < f → OffP M N → (∀ u v : Int, 0 ≤ u → u < n → 0 ≤ v → v < n → N (70 + u) v = (if β u < α u ∧ α v < β v then (if jm u v < j then M (32 + 0) (2 * jm u v + 1) else 0) else 0) + (if u = v then min (α u) (β u) else 0)) → lpX6_takeGoods_51 r3 r4 post f n (2 * j) N := by
    intro f
    induction f with
    | zero => intro j N _ _ g; omega
    | succ f ih =>
      intro j N j0 j1 hf hO hI
      unfold lpX6_takeGoods_51 jbX6_takeGoods_111
      have nb := hS.1
      rw [hO (8 + 0) (by omega), hO (28 + 0) (by omega), hO (30 + 0) (by omega), hO (32 + 0) (by omega)]
      refine ⟨by omega, fun g => ?_, fun g => ?_⟩
      · refine h N hO (fun u v a b c d => ?_)
        rw [GX_in (by omega), hI u v a b c d]
        unfold mvG
        congr 1
        by_cases q : β u < α u ∧ α v < β v
        · have := (h2 u v a b c d q.1 q.2).2.1
          rw [if_pos q, if_pos q, if_pos (by omega)]
        · rw [if_neg q, if_neg q]
      · have skip : (∀ u v : Int, 0 ≤ u → u < n → 0 ≤ v → v < n → β u < α u → α v < β v → jm u v ≠ j) → inR (2 * j + 2) ∧ lpX6_takeGoods_51 r3 r4 post f n (2 * j + 2) N := fun hh => by
          refine ⟨by omega, ?_⟩
          have := ih (j + 1) N (by omega) (by omega) (by omega) hO (fun u v a b c d => by
            rw [hI u v a b c d]
            congr 1
            by_cases q : β u < α u ∧ α v < β v
            · rw [if_pos q, if_pos q]
              have := hh u v a b c d q.1 q.2
              by_cases r : jm u v < j
              · rw [if_pos r, if_pos (by omega)]
              · rw [if_neg r, if_neg (by omega)]
            · rw [if_neg q, if_neg q])
          rw [show 2 * (j + 1) = 2 * j + 2 by omega] at this
          exact this
        obtain ⟨a1, a2, a3, a4, _, _⟩ := hS.2.1 (2 * j) (by omega) (by omega)
        refine ⟨by omega, fun tl htl => ⟨by omega, fun hd hhd => ?_⟩⟩
        subst htl; subst hhd
        refine ⟨fun g1 => skip (fun u v a b c d p q r => ?_), fun g1 => ⟨fun g2 => skip (fun u v a b c d p q r => ?_), fun g2 => ⟨by omega, by omega, by omega, fun N1 e1 => ?_⟩⟩⟩
        · have := (h2 u v a b c d p q).2.2.1; rw [r] at this; omega
        · have := (h2 u v a b c d p q).2.2.2.1; rw [r] at this; omega
        · obtain ⟨x, y, x0, x1, y0, y1, p, q, r⟩ := mov_arc hn H' j0 (by omega) (by omega) (by omega)
          have ax := (h2 x y x0 x1 y0 y1 p q).2.2.1
          have ay := (h2 x y x0 x1 y0 y1 p q).2.2.2.1
          rw [r] at ax ay
          rw [ax, ay] at e1
          refine ⟨by omega, ?_⟩
          have := ih (j + 1) N1 (by omega) (by omega) (by omega) (fun k hk => by rw [e1, row_ne (by omega)]; exact hO k hk) (fun u v a b c d => by
            by_cases e : u = x ∧ v = y
            · rw [e.1, e.2, e1, mset_s, if_pos ⟨p, q⟩, if_pos (by omega), if_neg (fun w => by rw [w] at p; omega), r]
              omega
            · have hne : mset N (70 + x) y (M (32 + 0) (2 * j + 1)) (70 + u) v = N (70 + u) v := if_neg (fun w => e ⟨by omega, w.2⟩)
              rw [e1, hne, hI u v a b c d]
              congr 1
              by_cases w : β u < α u ∧ α v < β v
              · rw [if_pos w, if_pos w]
                have hj : jm u v ≠ j := fun z => by
                  have bx := (h2 u v a b c d w.1 w.2).2.2.1
                  have by' := (h2 u v a b c d w.1 w.2).2.2.2.1
                  rw [z] at bx by'
                  exact e ⟨by rw [← ax, bx], by rw [← ay, by']⟩
                by_cases s : jm u v < j
                · rw [if_pos s, if_pos (by omega)]
                · rw [if_neg s, if_neg (by omega)]
              · rw [if_neg w, if_neg w])
          rw [show 2 * (j + 1) = 2 * j + 2 by omega] at this
          exact this
  have key : ∀ (f : Nat) (x : Int) (N : Mem), 0 ≤ x → x ≤ n → n - x < f → OffP M N → (∀ u v : Int, 0 ≤ u → u < x → 0 ≤ v → v < n → N (70 + u) v = if u = v then min (α u) (β u) else 0) → lpX6_takeGoods_3 r3 r4 post f n x N := by
    intro f
    induction f with
    | zero => intro x N _ _ g; omega
    | succ f ih =>
      intro x N x0 x1 hf hO hI
      unfold lpX6_takeGoods_3
      rw [l3, l4]
      refine ⟨fun g => ?_, fun g => ⟨by omega, ?_⟩⟩
      · have e : x = n := by omega
        subst e
        refine ⟨241, ?_⟩
        have := key2 241 0 N (by omega) (by have := hS.1; omega) (by have := hS.1; omega) hO (fun u v a b c d => by
          rw [hI u v a b c d]
          by_cases q : β u < α u ∧ α v < β v
          · have := (h2 u v a b c d q.1 q.2).1
            rw [if_pos q, if_neg (show ¬ jm u v < 0 by omega), Int.zero_add]
          · rw [if_neg q, Int.zero_add])
        exact this
      · have hl : lenX (70 + x) = 10 := lenX_70 (by omega)
        refine J7_fill (by omega) (by omega) ⟨by omega, by omega, by omega, by omega, fun N1 e1 => ⟨by omega, ?_⟩⟩
        rw [hl, mfill_r (by omega), mfill_r (by omega), hO r3 (by omega), hO r4 (by omega), e3, e4] at e1
        refine ih (x + 1) N1 (by omega) (by omega) (by omega) (fun k hk => ?_) (fun u v a b c d => ?_)
        · rw [e1, row_ne (by omega)]
          funext i
          rw [mfill_r (by omega)]
          rw [hO k hk]
        · by_cases e : u = x
          · subst e
            by_cases e2 : u = v
            · subst e2; rw [e1, mset_s, if_pos rfl]
            · rw [e1, mset_i (fun q => e2 q.symm), mfill_in c (by omega), if_neg e2]
          · rw [e1, mset_r (by omega), mfill_r (by omega)]
            exact hI u v a (by omega) c d
  exact ⟨11, key 11 0 M (by omega) (by omega) (by omega) (fun _ _ => rfl) (fun u v _ _ => by omega)⟩
/-- the rows that a plan's making writes -/
def OffK (M M' : Mem) : Prop := ∀ k : Int, k ≠ 8 → k ≠ 28 → k ≠ 30 → k ≠ 32 → k ≠ 34 → k ≠ 36 → k ≠ 38 → k ≠ 23 → k ≠ 24 → k ≠ 25 → k ≠ 26 → (k < 70 ∨ 80 ≤ k) → M' k = M k
theorem X6_make {r3 r4 n m : Int} {δ : Int → Int → Int} {M : Mem} {post : Mem → Prop} (hr3 : 80 ≤ r3 ∧ r3 < 88) (hr4 : 80 ≤ r4 ∧ r4 < 88) (hn : 0 ≤ n ∧ n ≤ 10) (e0 : M 1 0 = n) (hα : ∀ v : Int, 0 ≤ v → v < n → (0 ≤ M r3 v ∧ M r3 v ≤ 1000) ∧ 0 ≤ M r4 v ∧ M r4 v ≤ 1000) (hδ : Mtr n δ) (eδ : ∀ u v : Int, 0 ≤ u → u < n → 0 ≤ v → v < n → M (50 + u) v = δ u v) (ma : m = su n (M r3)) (mb : m = su n (M r4))
    (h : ∀ M' : Mem, OffK M M' → Fst n δ (M r3) (M r4) (GX M') → Hts n δ (M r3) (M r4) (M' 23) → post M') : wpX6_make r3 r4 m M post := by
  have mb0 := su_bnd (n := n) (B := 1000) (f := M r3) hn.1 (fun k a b => (hα k a b).1)
  refine X4_cheapest hr3 hr4 hn e0 hα (fun u v a b c d => by rw [eδ u v a b c d]; exact hδ.2.1 u v a b c d) (by omega) (fun M1 π js jm jt hO1 HM hle hge => ?_)
  have r3' : M1 r3 = M r3 := hO1 r3 (by omega) (by omega) (by omega) (by omega) (by omega) (by omega) (by omega)
  have r4' : M1 r4 = M r4 := hO1 r4 (by omega) (by omega) (by omega) (by omega) (by omega) (by omega) (by omega)
  have r1 : M1 1 0 = n := by rw [hO1 1 (by omega) (by omega) (by omega) (by omega) (by omega) (by omega) (by omega), e0]
  have HM' : MovF n (M r3) (M r4) δ M1 π js jm jt := by
    obtain ⟨a1, a2, a3, a4, a5, a6⟩ := HM
    exact ⟨a1, a2, a3, fun u v a b c d p q => by rw [← eδ u v a b c d]; exact a4 u v a b c d p q, a5, a6⟩
  rw [r1]
  refine X6_takeGoods hr3 hr4 hn r3' r4' HM' (fun M2 hO2 hG2 => ?_)
  -- a whole plan
  have all := mov_all hn.2 hα (by omega) (by omega) HM' hge
  have stay : su n (fun v => min (M r3 v) (M r4 v)) ≤ su n (M r3) := su_le (fun v _ _ => by omega)
  have mv : M1 (8 + 0) 1 = m - su n (fun v => min (M r3 v) (M r4 v)) := by omega
  obtain ⟨f1, f2, f3⟩ := mov_flow hn.2 hα HM'
  obtain ⟨g1, g2, g3, g4, g5⟩ := mov_heights hn.2 hδ hα HM'
  have tot : su n (fun u => su n (mvG (M r3) (M r4) (M1 (32 + 0)) jm u)) = m := by rw [f3.2.2.2, mv]; omega
  have P0 : Pl n (M r3) (M r4) (mvG (M r3) (M r4) (M1 (32 + 0)) jm) := by
    refine ⟨f1, su_eq_all (n := n) (f := fun u => su n (mvG (M r3) (M r4) (M1 (32 + 0)) jm u)) (g := M r3) (fun u a b => f3.2.1 u a b) (by rw [tot, ma]), su_eq_all (n := n) (f := fun v => su n (fun u => mvG (M r3) (M r4) (M1 (32 + 0)) jm u v)) (g := M r4) (fun v a b => f3.2.2.1 v a b) ?_⟩
    rw [su_swap n n (fun v u => mvG (M r3) (M r4) (M1 (32 + 0)) jm u v)]
    exact tot.trans mb
  have P2 : Pl n (M r3) (M r4) (GX M2) := by
    refine ⟨fun u v a b c d => by rw [hG2 u v a b c d]; exact P0.1 u v a b c d, fun u a b => ?_, fun v a b => ?_⟩
    · rw [su_congr (fun v c d => hG2 u v a b c d)]; exact P0.2.1 u a b
    · rw [su_congr (g := fun u => mvG (M r3) (M r4) (M1 (32 + 0)) jm u v) (fun u c d => hG2 u v c d a b)]; exact P0.2.2 v a b
  -- heights that prove it
  have V0 : Pv n δ (M r3) (M r4) (fun x => mvH n (M r3) (M r4) δ π 0 - mvH n (M r3) (M r4) δ π x) := by
    refine ⟨fun u v a b c d => ?_, fun _ => by show mvH n (M r3) (M r4) δ π 0 - mvH n (M r3) (M r4) δ π 0 = 0; omega, GX M2, P2, fun u v a b c d q => ?_⟩
    · have := g1 u v a b c d
      show mvH n (M r3) (M r4) δ π 0 - mvH n (M r3) (M r4) δ π u - (mvH n (M r3) (M r4) δ π 0 - mvH n (M r3) (M r4) δ π v) ≤ δ u v
      omega
    · rw [hG2 u v a b c d] at q
      have := g2 u v a b c d q
      show mvH n (M r3) (M r4) δ π 0 - mvH n (M r3) (M r4) δ π u - (mvH n (M r3) (M r4) δ π 0 - mvH n (M r3) (M r4) δ π v) = δ u v
      omega
  have O2 : Opt n δ (M r3) (M r4) (GX M2) := by
    refine opt_of V0.1 P2 (fun u v a b c d q => ?_)
    rw [hG2 u v a b c d] at q
    have := g2 u v a b c d q
    show mvH n (M r3) (M r4) δ π 0 - mvH n (M r3) (M r4) δ π u - (mvH n (M r3) (M r4) δ π 0 - mvH n (M r3) (M r4) δ π v) = δ u v
    omega
  have s1 : M2 1 0 = n := by rw [hO2 1 (by omega), r1]
  have s5 : ∀ M3 : Mem, (∀ k : Int, 50 ≤ k → k < 60 → M3 k = M2 k) → ∀ u v : Int, 0 ≤ u → u < n → 0 ≤ v → v < n → M3 (50 + u) v = δ u v := fun M3 h3 u v a b c d => by
    rw [h3 (50 + u) (by omega) (by omega), hO2 (50 + u) (by omega), hO1 (50 + u) (by omega) (by omega) (by omega) (by omega) (by omega) (by omega) (by omega)]
    exact eδ u v a b c d
  refine X6_raise hn s1 hδ (s5 M2 (fun _ _ _ => rfl)) (fun u v a b c d => (GX_in (by omega)).symm) (pv_hfe O2 V0) (fun M3 hO3 hg => ?_)
  have eg3 : GX M3 = GX M2 := GX_eq (fun a _ _ => hO3 (70 + a) (by omega))
  have HT := hgr_hts O2 hg
  have hlow : ∀ x : Int, 0 ≤ x → x < n → -100000 ≤ M3 23 x ∧ M3 23 x ≤ 100000 := fun x x0 x1 => by
    have a1 := hfe_low (by omega) hδ hg.1 x x0 x1
    have a2 := (hg.1.1 x 0 x0 x1 (by omega) (by omega)).1
    have a3 := hg.1.2 (by omega)
    have a4 := hδ.2.1 x 0 x0 x1 (by omega) (by omega)
    omega
  refine X6_putFirst (δ := δ) (α := M r3) (β := M r4) (H := M3 23) hn (by rw [hO3 1 (by omega), s1]) (s5 M3 (fun k a b => hO3 k (by omega))) (fun v a b => (hα v a b).1) rfl hlow HT.1.1 HT.1 (by rw [eg3]; exact P2) (by rw [eg3]; exact pv_tight HT.1 O2) (fun M4 hO4 hF => ?_)
  refine h M4 (fun k p1 p2 p3 p4 p5 p6 p7 p8 p9 p10 p11 p12 => by rw [hO4 k p9 p10 p11 p12, hO3 k p8, hO2 k p12, hO1 k p1 p2 p3 p4 p5 p6 p7]) hF ?_
  rw [hO4 23 (by omega) (by omega) (by omega) (by omega)]
  exact HT
