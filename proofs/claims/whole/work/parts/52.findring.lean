/-! the class's search for a ring -/
def usX (free u v x y : Int) : Prop := free ≤ 10 * x + y ∧ ¬ (x = u ∧ y = v)
/-- rows 24 (whence a row was come to), 25 (a column), 26 (columns in their order); row x has reached its columns below w -/
def FrI (n u v free : Int) (tg : Int → Int → Prop) (G : Int → Int → Int) (x w rc : Int) (N : Mem) (ps : Int → Int) : Prop :=
  (1 ≤ rc ∧ rc ≤ 10 ∧ rc ≤ cn 10 (fun y => N 25 y ≠ -1)) ∧ (∀ j : Int, 0 ≤ j → j < rc → 0 ≤ N 26 j ∧ N 26 j < n ∧ N 25 (N 26 j) ≠ -1) ∧ (∀ y : Int, 0 ≤ y → y < 10 → N 25 y ≠ -1 → y < n ∧ 0 ≤ ps y ∧ ps y < rc ∧ N 26 (ps y) = y)
  ∧ (∀ a : Int, 0 ≤ a → a < n → N 24 a ≠ -1 → 0 ≤ N 24 a ∧ N 24 a < n ∧ N 25 (N 24 a) ≠ -1 ∧ usX free u v a (N 24 a) ∧ 0 < G a (N 24 a))
  ∧ (∀ y : Int, 0 ≤ y → y < n → N 25 y ≠ -1 → y ≠ v → 0 ≤ N 25 y ∧ N 25 y < n ∧ N 24 (N 25 y) ≠ -1 ∧ free ≤ 10 * N 25 y + y ∧ tg (N 25 y) y ∧ ps (N 24 (N 25 y)) < ps y)
  ∧ (∀ a y : Int, 0 ≤ a → a < n → 0 ≤ y → y < n → N 24 a ≠ -1 → (a = x → y < w) → free ≤ 10 * a + y → tg a y → N 25 y ≠ -1) ∧ N 25 v = u
def OffR (M M' : Mem) : Prop := ∀ k : Int, k ≠ 24 → k ≠ 25 → k ≠ 26 → M' k = M k
theorem X6_reachCols {n u v free x rc : Int} {δ G : Int → Int → Int} {M0 M : Mem} {ps : Int → Int} {post : Int → Mem → Prop} (hn : 0 ≤ n ∧ n ≤ 10) (hu : 0 ≤ u ∧ u < n) (hv : 0 ≤ v ∧ v < n) (hx : 0 ≤ x ∧ x < n) (e0 : M0 1 0 = n) (eδ : ∀ u v : Int, 0 ≤ u → u < n → 0 ≤ v → v < n → M0 (50 + u) v = δ u v) (hH : ∀ x : Int, 0 ≤ x → x < n → -100000 ≤ M0 23 x ∧ M0 23 x ≤ 100000) (hO : OffR M0 M) (hM : M 24 x ≠ -1) (H : FrI n u v free (fun a b => M0 23 a - M0 23 b = δ a b) G x 0 rc M ps)
    (h : ∀ (rc' : Int) (M' : Mem) (ps' : Int → Int), OffR M0 M' → rc ≤ rc' → M' 24 = M 24 → (∀ y : Int, M 25 y ≠ -1 → M' 25 y ≠ -1 ∧ ps' y = ps y) → (∀ y : Int, 0 ≤ y → y < n → M' 25 y ≠ -1 → M 25 y = -1 → rc ≤ ps' y) → (∀ j : Int, j < rc → M' 26 j = M 26 j) → FrI n u v free (fun a b => M0 23 a - M0 23 b = δ a b) G x n rc' M' ps' → post rc' M') : wpX6_reachColumns x rc free M post := by
  have key : ∀ (f : Nat) (w rc' : Int) (N : Mem) (ps' : Int → Int), 0 ≤ w → w ≤ n → n - w < f → OffR M0 N → rc ≤ rc' → N 24 = M 24 → (∀ y : Int, M 25 y ≠ -1 → N 25 y ≠ -1 ∧ ps' y = ps y) → (∀ y : Int, 0 ≤ y → y < n → N 25 y ≠ -1 → M 25 y = -1 → rc ≤ ps' y) → (∀ j : Int, j < rc → N 26 j = M 26 j) → FrI n u v free (fun a b => M0 23 a - M0 23 b = δ a b) G x w rc' N ps' → lpX6_reachColumns_6 post f x free rc' w N := by
    intro f
    induction f with
    | zero => intro w rc' N ps' _ _ g; omega
    | succ f ih =>
      intro w rc' N ps' w0 w1 hf hO hrc h24 h25 hnew h26 H
      have H' := H
      obtain ⟨⟨f1, f1', f1''⟩, f2, f3, f4, f5, f6, f8⟩ := H
      unfold lpX6_reachColumns_6 jbX6_reachColumns_75
      rw [hO 1 (by omega) (by omega) (by omega), e0]
      refine ⟨fun g => ?_, fun g => ?_⟩
      · have e : w = n := by omega
        subst e
        exact h rc' N ps' hO hrc h24 h25 hnew h26 H'
      · have wn : w < n := by omega
        have skip : (free ≤ 10 * x + w → M0 23 x - M0 23 w = δ x w → N 25 w ≠ -1) → inR (w + 1) ∧ lpX6_reachColumns_6 post f x free rc' (w + 1) N := fun hh => ⟨by omega, ih (w + 1) rc' N ps' (by omega) (by omega) (by omega) hO hrc h24 h25 hnew h26 ⟨⟨f1, f1', f1''⟩, f2, f3, f4, f5, fun a y a0 a1 y0 y1 p q r s => by
          by_cases c : a = x ∧ y = w
          · rw [c.1, c.2] at r s; rw [c.2]; exact hh r s
          · exact f6 a y a0 a1 y0 y1 p (fun e => by have := q e; omega) r s, f8⟩⟩
        refine ⟨by omega, fun g1 => skip (fun _ _ => g1), fun g1 => ⟨by omega, fun g2 => skip (fun q _ => by omega), fun g2 => ?_⟩⟩
        have hx1 := hH x hx.1 hx.2
        have hw1 := hH w w0 wn
        unfold wpX6_isTight jbX6_isTight_29
        rw [hO 23 (by omega) (by omega) (by omega), hO (50 + x) (by omega) (by omega) (by omega), eδ x w hx.1 hx.2 w0 wn]
        refine ⟨by omega, by omega, by omega, by omega, by omega, fun g3 => ⟨Or.inl rfl, fun _ => skip (fun _ q => absurd q g3), fun q => absurd rfl q⟩, fun g3 => ⟨Or.inr rfl, fun q => by omega, fun _ => ⟨by omega, fun N1 e1 => ⟨fun g4 => ?_, fun g4 => ⟨by omega, fun N2 e2 => ⟨by omega, by omega, ?_⟩⟩⟩⟩⟩⟩
        · have := cn_ltn (n := 10) (p := fun y => N 25 y ≠ -1) w0 (by omega) (fun q => q g1)
          omega
        · have d25 : N2 25 = up (N 25) w x := by rw [e2, row_ne (by omega), e1, row_up]
          have d24 : N2 24 = N 24 := by rw [e2, row_ne (by omega), e1, row_ne (by omega)]
          have d26 : N2 26 = up (N 26) rc' w := by rw [e2, row_up, e1, row_ne (by omega)]
          have keep : ∀ y : Int, N 25 y ≠ -1 → y ≠ w := fun y hy e => by rw [e] at hy; exact hy g1
          have cnt : cn 10 (fun y => N 25 y ≠ -1) < cn 10 (fun y => N2 25 y ≠ -1) := cn_lt (fun y _ _ hy => by show N2 25 y ≠ -1; rw [d25, up_n (keep y hy)]; exact hy) w0 (by omega) (fun q => q g1) (by show N2 25 w ≠ -1; rw [d25, up_s]; omega)
          refine ih (w + 1) (rc' + 1) N2 (up ps' w rc') (by omega) (by omega) (by omega) (fun k p1 p2 p3 => by rw [e2, row_ne p3, e1, row_ne p2]; exact hO k p1 p2 p3) (by omega) (by rw [d24, h24]) (fun y hy => ?_) (fun y y0 y1 hy hm => ?_) (fun j hj => by rw [d26, up_n (by omega)]; exact h26 j hj) ⟨⟨by omega, by omega, by omega⟩, fun j j0 j1 => ?_, fun y y0 y1 hy => ?_, fun a a0 a1 ha => ?_, fun y y0 y1 hy hyv => ?_, fun a y a0 a1 y0 y1 p q r s => ?_, ?_⟩
          · obtain ⟨t1, t2⟩ := h25 y hy
            rw [d25, up_n (keep y t1), up_n (keep y t1)]
            exact ⟨t1, t2⟩
          · by_cases c : y = w
            · rw [c, up_s]; exact hrc
            · rw [d25, up_n c] at hy
              rw [up_n c]; exact hnew y y0 y1 hy hm
          · rw [d26, d25]
            by_cases c : j = rc'
            · rw [c, up_s, up_s]; exact ⟨w0, wn, by omega⟩
            · rw [up_n c]
              obtain ⟨t1, t2, t3⟩ := f2 j j0 (by omega)
              rw [up_n (keep _ t3)]
              exact ⟨t1, t2, t3⟩
          · rw [d26]
            by_cases c : y = w
            · rw [c, up_s, up_s]; exact ⟨wn, by omega, by omega, rfl⟩
            · rw [d25, up_n c] at hy
              obtain ⟨t1, t2, t3, t4⟩ := f3 y y0 y1 hy
              rw [up_n c, up_n (by omega)]
              exact ⟨t1, t2, by omega, t4⟩
          · rw [d24] at ha ⊢
            rw [d25]
            obtain ⟨t1, t2, t3, t4, t5⟩ := f4 a a0 a1 ha
            rw [up_n (keep _ t3)]
            exact ⟨t1, t2, t3, t4, t5⟩
          · rw [d24]
            by_cases c : y = w
            · rw [c, d25, up_s, up_s]
              obtain ⟨t1, t2, t3, t4, t5⟩ := f4 x hx.1 hx.2 (by rw [h24]; exact hM)
              rw [up_n (keep _ t3)]
              exact ⟨hx.1, hx.2, by rw [h24]; exact hM, by omega, g3, (f3 _ t1 (by omega) t3).2.2.1⟩
            · rw [d25, up_n c] at hy ⊢
              obtain ⟨t1, t2, t3, t4, t5, t6⟩ := f5 y y0 y1 hy hyv
              obtain ⟨z1, z2, z3, _, _⟩ := f4 _ t1 t2 t3
              rw [up_n (keep _ z3), up_n c]
              exact ⟨t1, t2, t3, t4, t5, t6⟩
          · rw [d24] at p
            rw [d25]
            by_cases c : y = w
            · rw [c, up_s]; omega
            · rw [up_n c]
              exact f6 a y a0 a1 y0 y1 p (fun e => by have := q e; omega) r s
          · rw [d25, up_n (keep v (by rw [f8]; omega)), f8]
  exact ⟨11, key 11 0 rc M ps (by omega) (by omega) (by omega) hO (Int.le_refl _) rfl (fun y hy => ⟨hy, rfl⟩) (fun y _ _ hy hm => absurd hm hy) (fun _ _ => rfl) H⟩
theorem FrI_w {n u v free x w x' w' rc : Int} {tg : Int → Int → Prop} {G : Int → Int → Int} {N : Mem} {ps : Int → Int} (h : FrI n u v free tg G x w rc N ps) (hw : n ≤ w ∨ N 24 x = -1) : FrI n u v free tg G x' w' rc N ps := by
  obtain ⟨f1, f2, f3, f4, f5, f6, f8⟩ := h
  refine ⟨f1, f2, f3, f4, f5, fun a y a0 a1 y0 y1 p q r s => f6 a y a0 a1 y0 y1 p (fun e => ?_) r s, f8⟩
  rcases hw with hw | hw
  · omega
  · rw [e] at p; exact absurd hw p
theorem X6_findRing {n u v free : Int} {δ G : Int → Int → Int} {M0 : Mem} {post : Int → Mem → Prop} (hn : 0 ≤ n ∧ n ≤ 10) (hu : 0 ≤ u ∧ u < n) (hv : 0 ≤ v ∧ v < n) (e0 : M0 1 0 = n) (eδ : ∀ u v : Int, 0 ≤ u → u < n → 0 ≤ v → v < n → M0 (50 + u) v = δ u v) (eG : ∀ u v : Int, 0 ≤ u → u < n → 0 ≤ v → v < n → M0 (70 + u) v = G u v) (hH : ∀ x : Int, 0 ≤ x → x < n → -100000 ≤ M0 23 x ∧ M0 23 x ≤ 100000)
    (h0 : ∀ (M' : Mem), OffR M0 M' → M' 24 u = -1 → M' 25 v ≠ -1 → (∀ x y : Int, 0 ≤ x → x < n → 0 ≤ y → y < n → M' 25 y ≠ -1 → usX free u v x y → 0 < G x y → M' 24 x ≠ -1) → (∀ x y : Int, 0 ≤ x → x < n → 0 ≤ y → y < n → M' 24 x ≠ -1 → usX free u v x y → M0 23 x - M0 23 y = δ x y → M' 25 y ≠ -1) → post 0 M')
    (h1 : ∀ (M' : Mem) (ps : Int → Int), OffR M0 M' → M' 24 u ≠ -1 → M' 25 v = u → (∀ y : Int, 0 ≤ y → y < n → M' 25 y ≠ -1 → ps y < 10) → RgS n u v (usX free u v) (fun a b => M0 23 a - M0 23 b = δ a b) G (M' 24) (M' 25) ps (fun x => 0 ≤ x ∧ x < n ∧ M' 24 x ≠ -1) (fun y => 0 ≤ y ∧ y < n ∧ M' 25 y ≠ -1) → post 1 M') : wpX6_findRing u v free M0 post := by
  have found : ∀ (rc : Int) (N : Mem) (ps : Int → Int), OffR M0 N → N 24 u ≠ -1 → FrI n u v free (fun a b => M0 23 a - M0 23 b = δ a b) G n 0 rc N ps → post 1 N := fun rc N ps hO hN H => by
    obtain ⟨f1, f2, f3, f4, f5, f6, f8⟩ := H
    refine h1 N ps hO hN f8 (fun y y0 y1 hy => by have := (f3 y y0 (by omega) hy).2.2.1; omega) ⟨fun x hx => ?_, fun y hy => ?_⟩
    · obtain ⟨t1, t2, t3, t4, t5⟩ := f4 x hx.1 hx.2.1 hx.2.2
      exact ⟨hx.1, hx.2.1, t1, t2, ⟨t1, t2, t3⟩, t4, t5⟩
    · refine ⟨hy.1, hy.2.1, (f3 y hy.1 (by omega) hy.2.2).2.1, fun q => ?_⟩
      obtain ⟨t1, t2, t3, t4, t5, t6⟩ := f5 y hy.1 hy.2.1 hy.2.2 q
      exact ⟨t1, t2, ⟨t1, t2, t3⟩, ⟨t4, fun r => q r.2⟩, t5, t6⟩
  have key : ∀ (f : Nat) (i rc : Int) (N : Mem) (ps : Int → Int), 0 ≤ i → i ≤ 10 → 10 - i < f → OffR M0 N → N 24 u = -1 → FrI n u v free (fun a b => M0 23 a - M0 23 b = δ a b) G n 0 rc N ps → (∀ x y : Int, 0 ≤ x → x < n → 0 ≤ y → y < n → N 25 y ≠ -1 → ps y < i → usX free u v x y → 0 < G x y → N 24 x ≠ -1) → lpX6_findRing_36 post f u v free rc i N := by
    intro f
    induction f with
    | zero => intro i rc N ps _ _ g; omega
    | succ f ih =>
      intro i rc N ps i0 i1 hf hO hN H hC
      obtain ⟨⟨f1, f1', f1''⟩, f2, f3, f4, f5, f6, f8⟩ := id H
      have done : rc ≤ i → post 0 N := fun q => h0 N hO hN (by rw [f8]; omega) (fun x y x0 x1 y0 y1 p r s => hC x y x0 x1 y0 y1 p (by have := (f3 y y0 (by omega) p).2.2.1; omega) r s) (fun x y x0 x1 y0 y1 p r s => f6 x y x0 x1 y0 y1 p (fun e => by omega) r.1 s)
      unfold lpX6_findRing_36 jbX6_findRing_180
      refine ⟨fun g => done g, fun g => ⟨fun g2 => done (by omega), fun g2 => ⟨by omega, fun c hc => ?_⟩⟩⟩
      obtain ⟨c1, c2, c3⟩ := f2 i i0 (by omega)
      rw [← hc] at c1 c2 c3
      -- the rows of this column
      have key2 : ∀ (f2 : Nat) (w rc' : Int) (N' : Mem) (ps' : Int → Int), 0 ≤ w → w ≤ n → n - w < f2 → OffR M0 N' → i < rc' → N' 26 i = c → FrI n u v free (fun a b => M0 23 a - M0 23 b = δ a b) G n 0 rc' N' ps' → N' 25 c ≠ -1 → (∀ x y : Int, 0 ≤ x → x < n → 0 ≤ y → y < n → N' 25 y ≠ -1 → ps' y < i → usX free u v x y → 0 < G x y → N' 24 x ≠ -1) → (∀ x : Int, 0 ≤ x → x < w → usX free u v x c → 0 < G x c → N' 24 x ≠ -1) → lpX6_findRing_62 post (fun y2 y3 y4 y5 y6 N => lpX6_findRing_36 post f y2 y3 y4 y5 y6 N) f2 u v free rc' i c w N' := by
        intro f2
        induction f2 with
        | zero => intro w rc' N' ps' _ _ g; omega
        | succ f2 ih2 =>
          intro w rc' N' ps' w0 w1 hf2 hO' hirc hcol H' hNc hC' hW
          unfold lpX6_findRing_62 jbX6_findRing_102
          rw [hO' 1 (by omega) (by omega) (by omega), e0]
          refine ⟨fun g3 => ⟨by omega, fun g4 => ⟨by omega, ?_⟩, fun g4 => found rc' N' ps' hO' g4 H'⟩, fun g3 => ?_⟩
          · refine ih (i + 1) rc' N' ps' (by omega) (by omega) (by omega) hO' g4 H' (fun x y x0 x1 y0 y1 p q r s => ?_)
            by_cases e : ps' y < i
            · exact hC' x y x0 x1 y0 y1 p e r s
            · have hy := H'.2.2.1 y y0 (by omega) p
              have e2 : y = c := by rw [← hy.2.2.2, show ps' y = i by omega, hcol]
              rw [e2] at r s
              exact hW x x0 (by omega) r s
          · have wn : w < n := by omega
            have skip : ¬ (usX free u v w c ∧ 0 < G w c ∧ N' 24 w = -1) → inR (w + 1) ∧ lpX6_findRing_62 post (fun y2 y3 y4 y5 y6 N => lpX6_findRing_36 post f y2 y3 y4 y5 y6 N) f2 u v free rc' i c (w + 1) N' := fun hh => ⟨by omega, ih2 (w + 1) rc' N' ps' (by omega) (by omega) (by omega) hO' hirc hcol H' hNc hC' (fun x x0 x1 p q => by
              by_cases e : x = w
              · rw [e] at p q ⊢
                intro r
                exact hh ⟨p, q, r⟩
              · exact hW x x0 (by omega) p q)⟩
            have unus : ¬ usX free u v w c → jbX6_findRing_103 post (fun y2 y3 y4 y5 y6 N => lpX6_findRing_36 post f y2 y3 y4 y5 y6 N) (fun y2 y3 y4 y5 y6 y7 y8 N => lpX6_findRing_62 post (fun y2 y3 y4 y5 y6 N => lpX6_findRing_36 post f y2 y3 y4 y5 y6 N) f2 y2 y3 y4 y5 y6 y7 y8 N) u v free rc' i c w 0 N' := fun q => by
              unfold jbX6_findRing_103 jbX6_findRing_156
              exact ⟨fun _ => skip (fun r => q r.1), fun r => absurd rfl r⟩
            refine ⟨by omega, fun g4 => unus (fun q => by have := q.1; omega), fun g4 => ⟨by omega, by omega, fun g5 => unus (fun q => q.2 ⟨by omega, by omega⟩), fun g5 => ?_⟩⟩
            have huse : usX free u v w c := ⟨by omega, fun q => g5 (by rw [q.1, q.2])⟩
            unfold jbX6_findRing_103 jbX6_findRing_156
            refine ⟨fun q => by omega, fun _ => ⟨by omega, fun g6 => skip (fun r => g6 r.2.2), fun g6 => ⟨by omega, by omega, ?_⟩⟩⟩
            rw [hO' (70 + w) (by omega) (by omega) (by omega), eG w c w0 wn c1 c2]
            refine ⟨fun g7 => skip (fun r => by omega), fun g7 => ⟨by omega, fun N1 e1 => ?_⟩⟩
            have d24 : N1 24 = up (N' 24) w c := by rw [e1, row_up]
            have d25 : N1 25 = N' 25 := by rw [e1, row_ne (by omega)]
            have d26 : N1 26 = N' 26 := by rw [e1, row_ne (by omega)]
            obtain ⟨k1, k2, k3, k4, k5, k6, k8⟩ := id H'
            have keep : ∀ a : Int, N' 24 a ≠ -1 → a ≠ w := fun a ha e => by rw [e] at ha; exact ha g6
            have H1 : FrI n u v free (fun a b => M0 23 a - M0 23 b = δ a b) G w 0 rc' N1 ps' := by
              refine ⟨by rw [d25]; exact k1, by rw [d25, d26]; exact k2, by rw [d25, d26]; exact k3, fun a a0 a1 ha => ?_, fun y y0 y1 hy hyv => ?_, fun a y a0 a1 y0 y1 p q r s => ?_, by rw [d25]; exact k8⟩
              · rw [d24] at ha ⊢
                rw [d25]
                by_cases e : a = w
                · rw [e, up_s]; exact ⟨c1, c2, hNc, huse, by omega⟩
                · rw [up_n e] at ha ⊢; exact k4 a a0 a1 ha
              · rw [d25] at hy ⊢
                rw [d24]
                obtain ⟨t1, t2, t3, t4, t5, t6⟩ := k5 y y0 y1 hy hyv
                rw [up_n (keep _ t3)]
                exact ⟨t1, t2, t3, t4, t5, t6⟩
              · rw [d25]
                rw [d24] at p
                by_cases e : a = w
                · have := q e; omega
                · rw [up_n e] at p
                  exact k6 a y a0 a1 y0 y1 p (fun e2 => by omega) r s
            refine X6_reachCols hn hu hv ⟨w0, wn⟩ e0 eδ hH (fun k p1 p2 p3 => by rw [e1, row_ne p1]; exact hO' k p1 p2 p3) (by rw [d24, up_s]; omega) H1 (fun rc2 N2 ps2 hO2 hrc2 t24 t25 tnew t26 H2 => ⟨by omega, ?_⟩)
            rw [d24] at t24
            rw [d25] at t25 tnew
            rw [d26] at t26
            refine ih2 (w + 1) rc2 N2 ps2 (by omega) (by omega) (by omega) hO2 (by omega) (by rw [t26 i hirc, hcol]) (FrI_w H2 (Or.inl (Int.le_refl _))) (t25 c hNc).1 (fun x y x0 x1 y0 y1 p q r s => ?_) (fun x x0 x1 p q => ?_)
            · by_cases e : N' 25 y = -1
              · have := tnew y y0 y1 p e; omega
              · have hps := (t25 y e).2
                have := hC' x y x0 x1 y0 y1 e (by omega) r s
                rw [t24, up_n (keep x this)]; exact this
            · rw [t24]
              by_cases e : x = w
              · rw [e, up_s]; omega
              · rw [up_n e]; exact hW x x0 (by omega) p q
      refine ⟨11, key2 11 0 rc N ps (by omega) (by omega) (by omega) hO (by omega) hc.symm H c3 hC (fun x _ _ => by omega)⟩
  unfold wpX6_findRing
  refine J7_fill (by rw [lenX_24]; omega) (by rw [lenX_24]; omega) (J7_fill (by rw [lenX_25]; omega) (by rw [lenX_25]; omega) ⟨by omega, fun M1 e1 M2 e2 => ?_⟩)
  rw [lenX_24, lenX_25] at e1
  have d24 : ∀ x : Int, 0 ≤ x → x < 10 → M2 24 x = -1 := fun x x0 x1 => by
    rw [e2, mset_r (by omega), e1, mset_r (by omega), mfill_r (by omega), mfill_in x0 x1]
  have d25 : ∀ y : Int, 0 ≤ y → y < 10 → M2 25 y = if y = v then u else -1 := fun y y0 y1 => by
    rw [e2, mset_r (by omega), e1]
    by_cases c : y = v
    · rw [c, mset_s, if_pos rfl]
    · rw [mset_i c, if_neg c, mfill_in y0 y1]
  have d26 : M2 26 0 = v := by rw [e2, mset_s]
  have off : OffR M0 M2 := fun k p1 p2 p3 => by
    rw [e2, row_ne p3, e1, row_ne p2]
    funext i
    rw [mfill_r p2, mfill_r p1]
  have hvu : M2 25 v = u := by rw [d25 v hv.1 (by omega), if_pos rfl]
  refine ⟨11, key 11 0 1 M2 (fun _ => 0) (by omega) (by omega) (by omega) off (d24 u hu.1 (by omega)) ⟨⟨by omega, by omega, ?_⟩, fun j j0 j1 => ?_, fun y y0 y1 hy => ?_, fun a a0 a1 ha => ?_, fun y y0 y1 hy hyv => ?_, fun a y a0 a1 y0 y1 p => ?_, hvu⟩ (fun x y _ _ _ _ _ q => by have : (0 : Int) < 0 := q; omega)⟩
  · have := cn_pos (n := 10) (p := fun y => M2 25 y ≠ -1) hv.1 (by omega) (by show M2 25 v ≠ -1; rw [hvu]; omega)
    omega
  · rw [show j = 0 by omega, d26, hvu]; exact ⟨hv.1, hv.2, by omega⟩
  · rw [d25 y y0 y1] at hy
    by_cases c : y = v
    · rw [c]; exact ⟨hv.2, Int.le_refl _, by show (0 : Int) < 1; omega, d26⟩
    · rw [if_neg c] at hy; exact absurd rfl hy
  · exact absurd (d24 a a0 (by omega)) ha
  · rw [d25 y y0 (by omega), if_neg hyv] at hy; exact absurd rfl hy
  · exact absurd (d24 a a0 (by omega)) p
