/-! the reference's reach: a search from what is left, along near pairs -/
def Sn (n : Int) (N : Mem) (x : Int) : Prop := nd n x ∧ N 18 x ≠ 0
def RcI (n most : Int) (M0 : Mem) (tl : Int) (N : Mem) (pos : Int → Int) : Prop :=
  (0 ≤ tl ∧ tl ≤ cn 20 (Sn n N)) ∧ (∀ j : Int, 0 ≤ j → j < tl → Sn n N (N 19 j)) ∧ (∀ x : Int, Sn n N x → 0 ≤ pos x ∧ pos x < tl ∧ N 19 (pos x) = x)
  ∧ (∀ x : Int, 0 ≤ x → x < n → N 18 x ≠ 0 → (N 16 x = -1 ∧ 0 < M0 12 x) ∨ (0 ≤ N 16 x ∧ N 16 x < n ∧ N 18 (10 + N 16 x) ≠ 0 ∧ 0 < M0 11 (10 * x + N 16 x) ∧ pos (10 + N 16 x) < pos x))
  ∧ (∀ y : Int, 0 ≤ y → y < n → N 18 (10 + y) ≠ 0 → 0 ≤ N 16 (10 + y) ∧ N 16 (10 + y) < n ∧ N 18 (N 16 (10 + y)) ≠ 0 ∧ M0 10 (10 * N 16 (10 + y) + y) ≤ most ∧ pos (N 16 (10 + y)) < pos (10 + y))
  ∧ ∀ x : Int, 0 ≤ x → x < n → 0 < M0 12 x → N 18 x ≠ 0
/-- from node k its neighbours below w are seen -/
def Nr (n most : Int) (M0 : Mem) (k w : Int) (N : Mem) : Prop := ∀ j : Int, 0 ≤ j → j < n → j < w → (10 ≤ k → 0 < M0 11 (10 * j + (k - 10)) → N 18 j ≠ 0) ∧ (k < 10 → M0 10 (10 * k + j) ≤ most → N 18 (10 + j) ≠ 0)
theorem nd_20 {n x : Int} (hn : n ≤ 10) (h : nd n x) : 0 ≤ x ∧ x < 20 := by unfold nd at h; omega
theorem rc_add {n most tl k x c : Int} {M0 N N' : Mem} {pos : Int → Int} (hn : 0 ≤ n ∧ n ≤ 10) (H : RcI n most M0 tl N pos) (hx : nd n x) (hk : Sn n N k) (hxs : N 18 x = 0) (hrow : x < 10 → 10 ≤ k ∧ c = k - 10 ∧ 0 < M0 11 (10 * x + (k - 10))) (hcol : 10 ≤ x → k < 10 ∧ c = k ∧ M0 10 (10 * k + (x - 10)) ≤ most) (d18 : N' 18 = up (N 18) x 1) (d16 : N' 16 = up (N 16) x c) (d19 : N' 19 = up (N 19) tl x) : tl < 20 ∧ RcI n most M0 (tl + 1) N' (up pos x tl) := by
  obtain ⟨⟨c1, c1'⟩, c2, c3, c4, c5, c6⟩ := H
  have x20 := nd_20 hn.2 hx
  have k20 := nd_20 hn.2 hk.1
  have lt : tl < 20 := by
    have := cn_ltn (n := 20) (p := Sn n N) x20.1 x20.2 (fun q => q.2 hxs)
    omega
  have keep : ∀ y : Int, N 18 y ≠ 0 → y ≠ x := fun y hy e => by rw [e] at hy; exact hy hxs
  have cnt : cn 20 (Sn n N) < cn 20 (Sn n N') := cn_lt (fun y _ _ hy => ⟨hy.1, by rw [d18, up_n (keep y hy.2)]; exact hy.2⟩) x20.1 x20.2 (fun q => q.2 hxs) ⟨hx, by rw [d18, up_s]; omega⟩
  have pk := (c3 k hk).2.1
  refine ⟨lt, ⟨by omega, by omega⟩, fun j j0 j1 => ?_, fun y hy => ?_, fun y y0 y1 hy => ?_, fun y y0 y1 hy => ?_, fun y y0 y1 hy => ?_⟩
  · by_cases e : j = tl
    · rw [d19, e, up_s]; exact ⟨hx, by rw [d18, up_s]; omega⟩
    · rw [d19, up_n e]
      have t := c2 j j0 (by omega)
      exact ⟨t.1, by rw [d18, up_n (keep _ t.2)]; exact t.2⟩
  · by_cases e : y = x
    · rw [e, up_s, d19, up_s]; exact ⟨by omega, by omega, rfl⟩
    · have hy' : Sn n N y := ⟨hy.1, by have := hy.2; rw [d18, up_n e] at this; exact this⟩
      obtain ⟨t1, t2, t3⟩ := c3 y hy'
      rw [up_n e, d19, up_n (by omega)]
      exact ⟨t1, by omega, t3⟩
  · by_cases e : y = x
    · subst e
      obtain ⟨z1, z2, z3⟩ := hrow (by omega)
      right
      have ek : 10 + c = k := by omega
      rw [d16, d18, up_s, up_s, ek, up_n (keep k hk.2), up_n (keep k hk.2), z2]
      exact ⟨by omega, by have := hk.1; unfold nd at this; omega, hk.2, z3, by omega⟩
    · rw [d18, up_n e] at hy
      rw [d16, d18, up_n e, up_n e]
      rcases c4 y y0 y1 hy with t | ⟨t1, t2, t3, t4, t5⟩
      · exact Or.inl t
      · right
        rw [up_n (keep _ t3), up_n (keep _ t3)]
        exact ⟨t1, t2, t3, t4, t5⟩
  · by_cases e : 10 + y = x
    · subst e
      obtain ⟨z1, z2, z3⟩ := hcol (by omega)
      rw [show 10 + y - 10 = y by omega] at z3
      rw [d16, d18, up_s, up_s, z2, up_n (keep k hk.2), up_n (keep k hk.2)]
      exact ⟨by omega, by have := hk.1; unfold nd at this; omega, hk.2, z3, by omega⟩
    · rw [d18, up_n e] at hy
      obtain ⟨t1, t2, t3, t4, t5⟩ := c5 y y0 y1 hy
      rw [d16, d18, up_n e, up_n (keep _ t3), up_n (keep _ t3), up_n e]
      exact ⟨t1, t2, t3, t4, t5⟩
  · have t := c6 y y0 y1 hy
    rw [d18, up_n (keep _ t)]; exact t
/-- what a search of the reference leaves -/
def RcF (n most : Int) (M0 N : Mem) : Prop := ∃ (tl : Int) (pos : Int → Int), RcI n most M0 tl N pos ∧ tl ≤ 20 ∧ ∀ x : Int, Sn n N x → Nr n most M0 x n N
theorem X9_reach {n most : Int} {M0 : Mem} {post : Int → Mem → Prop} (hn : 0 ≤ n ∧ n ≤ 10) (e0 : M0 0 0 = n)
    (h : ∀ (to : Int) (M' : Mem), OffC M0 M' → RcF n most M0 M' → (to = -1 ∧ (∀ v : Int, 0 ≤ v → v < n → M' 18 (10 + v) ≠ 0 → M0 13 v ≤ 0)) ∨ (0 ≤ to ∧ to < n ∧ 0 < M0 13 to ∧ M' 18 (10 + to) ≠ 0) → post to M') : wpX9_reach most M0 post := by
  have choose : ∀ N : Mem, OffC M0 N → RcF n most M0 N → ∃ j, lpX9_reach_270 post j 0 N := fun N hO hF => by
    have key : ∀ (f : Nat) (x : Int), 0 ≤ x → x ≤ n → n - x < f → (∀ v : Int, 0 ≤ v → v < x → N 18 (10 + v) ≠ 0 → M0 13 v ≤ 0) → lpX9_reach_270 post f x N := by
      intro f
      induction f with
      | zero => intro x _ _ g; omega
      | succ f ih =>
        intro x x0 x1 hf hI
        unfold lpX9_reach_270 jbX9_reach_305
        rw [hO 0 (by omega) (by omega) (by omega), e0, hO 13 (by omega) (by omega) (by omega)]
        have nxt : (N 18 (10 + x) ≠ 0 → M0 13 x ≤ 0) → inR (x + 1) ∧ x < n → inR (x + 1) ∧ lpX9_reach_270 post f (x + 1) N := fun hh hx => ⟨hx.1, ih (x + 1) (by omega) (by omega) (by omega) (fun v v0 v1 q => by
          by_cases c : v = x
          · rw [c] at q ⊢; exact hh q
          · exact hI v v0 (by omega) q)⟩
        refine ⟨fun g => h (-1) N hO hF (Or.inl ⟨rfl, fun v a b => hI v a (by omega)⟩), fun g => ⟨by omega, fun g1 => nxt (fun q => absurd g1 q) ⟨by omega, by omega⟩, fun g1 => ⟨by omega, fun g2 => nxt (fun _ => g2) ⟨by omega, by omega⟩, fun g2 => h x N hO hF (Or.inr ⟨x0, by omega, by omega, g1⟩)⟩⟩⟩
    exact ⟨11, key 11 0 (by omega) (by omega) (by omega) (fun v _ _ => by omega)⟩
  have key : ∀ (f : Nat) (hd tl : Int) (N : Mem) (pos : Int → Int), 0 ≤ hd → hd ≤ 20 → 20 - hd < f → OffC M0 N → RcI n most M0 tl N pos → (∀ x : Int, Sn n N x → pos x < hd → Nr n most M0 x n N) → lpX9_reach_95 post f most hd tl N := by
    intro f
    induction f with
    | zero => intro hd tl N pos _ _ g; omega
    | succ f ih =>
      intro hd tl N pos hd0 hd1 hf hO H hC
      obtain ⟨⟨c1, c1'⟩, c2, c3, c4, c5, c6⟩ := id H
      have tl20 : tl ≤ 20 := by
        have := cn_le (n := 20) (by omega) (Sn n N)
        omega
      unfold lpX9_reach_95
      refine ⟨fun g => choose N hO ⟨tl, pos, H, tl20, fun x hx => hC x hx (by have := (c3 x hx).2.1; omega)⟩, fun g => ⟨by omega, fun k hk => ⟨by omega, ?_⟩⟩⟩
      have k1 := c2 hd hd0 (by omega)
      rw [← hk] at k1
      have k20 := nd_20 hn.2 k1.1
      have key2 : ∀ (f2 : Nat) (w tl' : Int) (N' : Mem) (pos' : Int → Int), 0 ≤ w → w ≤ n → n - w < f2 → OffC M0 N' → hd < tl' → N' 19 hd = k → Sn n N' k → RcI n most M0 tl' N' pos' → (∀ x : Int, Sn n N' x → pos' x < hd → Nr n most M0 x n N') → Nr n most M0 k w N' → lpX9_reach_114 post (fun y1 y2 y3 N => lpX9_reach_95 post f y1 y2 y3 N) f2 most (hd + 1) tl' k w N' := by
        intro f2
        induction f2 with
        | zero => intro w tl' N' pos' _ _ g; omega
        | succ f2 ih2 =>
          intro w tl' N' pos' w0 w1 hf2 hO' hlt hq hks H' hC' hB
          unfold lpX9_reach_114
          rw [hO' 0 (by omega) (by omega) (by omega), e0]
          refine ⟨fun g3 => ?_, fun g3 => ?_⟩
          · have e : w = n := by omega
            subst e
            refine ih (hd + 1) tl' N' pos' (by omega) (by omega) (by omega) hO' H' (fun x hx q => ?_)
            by_cases d : pos' x < hd
            · exact hC' x hx d
            · have := (H'.2.2.1 x hx).2.2
              rw [show pos' x = hd by omega, hq] at this
              rw [← this]
              exact hB
          · have wn : w < n := by omega
            have skip : (10 ≤ k → 0 < M0 11 (10 * w + (k - 10)) → N' 18 w ≠ 0) → (k < 10 → M0 10 (10 * k + w) ≤ most → N' 18 (10 + w) ≠ 0) → inR (w + 1) ∧ lpX9_reach_114 post (fun y1 y2 y3 N => lpX9_reach_95 post f y1 y2 y3 N) f2 most (hd + 1) tl' k (w + 1) N' := fun s1 s2 => ⟨by omega, ih2 (w + 1) tl' N' pos' (by omega) (by omega) (by omega) hO' hlt hq hks H' hC' (fun j j0 j1 j2 => by
              by_cases d : j = w
              · rw [d]; exact ⟨s1, s2⟩
              · exact hB j j0 j1 (by omega))⟩
            have add : ∀ (x c : Int) (N1 N2 N3 : Mem), nd n x → N' 18 x = 0 → (x < 10 → 10 ≤ k ∧ x = w ∧ c = k - 10 ∧ 0 < M0 11 (10 * x + (k - 10))) → (10 ≤ x → k < 10 ∧ x = 10 + w ∧ c = k ∧ M0 10 (10 * k + (x - 10)) ≤ most) → N1 = mset N' 18 x 1 → N2 = mset N1 16 x c → N3 = mset N2 19 tl' x → tl' < 20 ∧ lpX9_reach_114 post (fun y1 y2 y3 N => lpX9_reach_95 post f y1 y2 y3 N) f2 most (hd + 1) (tl' + 1) k (w + 1) N3 := fun x c N1 N2 N3 hx hxs hr hc f1 f3 f4 => by
              have d18 : N3 18 = up (N' 18) x 1 := by rw [f4, row_ne (by omega), f3, row_ne (by omega), f1, row_up]
              have d16 : N3 16 = up (N' 16) x c := by rw [f4, row_ne (by omega), f3, row_up, f1, row_ne (by omega)]
              have d19 : N3 19 = up (N' 19) tl' x := by rw [f4, row_up, f3, row_ne (by omega), f1, row_ne (by omega)]
              obtain ⟨lt, H3⟩ := rc_add hn H' hx hks hxs (fun q => ⟨(hr q).1, (hr q).2.2.1, (hr q).2.2.2⟩) (fun q => ⟨(hc q).1, (hc q).2.2.1, (hc q).2.2.2⟩) d18 d16 d19
              have mono : ∀ y : Int, N' 18 y ≠ 0 → N3 18 y ≠ 0 := fun y hy => by
                rw [d18]
                by_cases d : y = x
                · rw [d, up_s]; omega
                · rw [up_n d]; exact hy
              have monoB : ∀ (y z : Int), Nr n most M0 y z N' → Nr n most M0 y z N3 := fun y z hb j j0 j1 j2 => ⟨fun p r => mono _ ((hb j j0 j1 j2).1 p r), fun p r => mono _ ((hb j j0 j1 j2).2 p r)⟩
              refine ⟨lt, ih2 (w + 1) (tl' + 1) N3 _ (by omega) (by omega) (by omega) (fun k p1 p2 p3 => by rw [f4, row_ne p3, f3, row_ne p1, f1, row_ne p2]; exact hO' k p1 p2 p3) (by omega) (by rw [d19, up_n (by omega)]; exact hq) ⟨hks.1, mono k hks.2⟩ H3 (fun y hy q => ?_) (fun j j0 j1 j2 => ?_)⟩
              · by_cases d : y = x
                · rw [d, up_s] at q; omega
                · rw [up_n d] at q
                  have hy2 := hy.2
                  rw [d18, up_n d] at hy2
                  exact monoB y n (hC' y ⟨hy.1, hy2⟩ q)
              · by_cases d : j = w
                · subst d
                  refine ⟨fun p _ => ?_, fun p _ => ?_⟩
                  · have ex : x = j := by
                      by_cases q : x < 10
                      · exact (hr q).2.1
                      · have := (hc (by omega)).1; omega
                    rw [d18, ex, up_s]; omega
                  · have ex : x = 10 + j := by
                      by_cases q : x < 10
                      · have := (hr q).1; omega
                      · exact (hc (by omega)).2.1
                    rw [d18, ex, up_s]; omega
                · exact monoB k w hB j j0 j1 (by omega)
            have r10 : N' 10 = M0 10 := hO' 10 (by omega) (by omega) (by omega)
            have r11 : N' 11 = M0 11 := hO' 11 (by omega) (by omega) (by omega)
            refine ⟨fun g4 => ?_, fun g4 => ⟨by omega, ?_⟩⟩
            · -- a column's rows
              have kc : 10 ≤ k ∧ k < 10 + n := by have := k1.1; unfold nd at this; omega
              have ec : 10 * w + k - 10 = 10 * w + (k - 10) := by omega
              unfold jbX9_reach_140
              rw [r11, ec]
              refine ⟨fun _ => ⟨by omega, fun g5 => ?_, fun g5 => ?_⟩, fun q => absurd g4 q⟩
              · unfold jbX9_reach_198 jbX9_reach_258
                exact ⟨fun _ => skip (fun _ q => by omega) (fun q => by omega), fun q => absurd rfl q⟩
              · unfold jbX9_reach_198 jbX9_reach_258
                refine ⟨fun q => by omega, fun _ => ⟨by omega, fun g6 => skip (fun _ _ => g6) (fun q => by omega), fun g6 => ⟨by omega, fun N1 f1 => ⟨fun _ => ⟨by omega, ?_⟩, fun q => absurd g4 q⟩⟩⟩⟩
                unfold jbX9_reach_246 jbX9_reach_258
                refine ⟨by omega, fun N2 f3 => ?_⟩
                obtain ⟨lt, _⟩ := add w (k - 10) N1 N2 _ (Or.inl ⟨w0, wn⟩) g6 (fun _ => ⟨g4, rfl, rfl, by omega⟩) (fun q => by omega) f1 f3 rfl
                exact ⟨by omega, fun N3 f4 => ⟨by omega, by omega, (add w (k - 10) N1 N2 N3 (Or.inl ⟨w0, wn⟩) g6 (fun _ => ⟨g4, rfl, rfl, by omega⟩) (fun q => by omega) f1 f3 f4).2⟩⟩
            · have kn : k < n := by have := k1.1; unfold nd at this; omega
              unfold jbX9_reach_140
              rw [r10]
              refine ⟨fun q => absurd q g4, fun _ => ⟨by omega, fun g5 => ?_, fun g5 => ?_⟩⟩
              · unfold jbX9_reach_198 jbX9_reach_258
                exact ⟨fun _ => skip (fun q => by omega) (fun _ q => by omega), fun q => absurd rfl q⟩
              · unfold jbX9_reach_198 jbX9_reach_258
                refine ⟨fun q => by omega, fun _ => ⟨by omega, fun g6 => skip (fun q => by omega) (fun _ _ => g6), fun g6 => ⟨by omega, fun N1 f1 => ⟨fun q => absurd q g4, fun _ => ?_⟩⟩⟩⟩
                unfold jbX9_reach_246 jbX9_reach_258
                refine ⟨by omega, fun N2 f3 => ?_⟩
                have hc : 10 ≤ 10 + w → k < 10 ∧ 10 + w = 10 + w ∧ k = k ∧ M0 10 (10 * k + (10 + w - 10)) ≤ most := fun _ => ⟨by omega, rfl, rfl, by rw [show 10 + w - 10 = w by omega]; omega⟩
                obtain ⟨lt, _⟩ := add (10 + w) k N1 N2 _ (Or.inr ⟨by omega, by omega⟩) g6 (fun q => by omega) hc f1 f3 rfl
                exact ⟨by omega, fun N3 f4 => ⟨by omega, by omega, (add (10 + w) k N1 N2 N3 (Or.inr ⟨by omega, by omega⟩) g6 (fun q => by omega) hc f1 f3 f4).2⟩⟩
      exact ⟨11, key2 11 0 tl N pos (by omega) (by omega) (by omega) hO (by omega) hk.symm k1 H hC (fun j _ _ q => by omega)⟩
  -- the start
  have init : ∀ (f : Nat) (x tl : Int) (N : Mem) (pos : Int → Int), 0 ≤ x → x ≤ n → n - x < f → OffC M0 N → (0 ≤ tl ∧ tl ≤ x) → (∀ j : Int, 0 ≤ j → j < tl → 0 ≤ N 19 j ∧ N 19 j < x ∧ N 18 (N 19 j) ≠ 0) → (∀ u : Int, 0 ≤ u → u < x → (N 18 u ≠ 0 ↔ 0 < M0 12 u) ∧ N 18 (10 + u) = 0 ∧ N 16 u = -1 ∧ (0 < M0 12 u → 0 ≤ pos u ∧ pos u < tl ∧ N 19 (pos u) = u)) → tl ≤ cn 20 (Sn x N) → lpX9_reach_7 post f most 0 tl x N := by
    intro f
    induction f with
    | zero => intro x tl N pos _ _ g; omega
    | succ f ih =>
      intro x tl N pos x0 x1 hf hO ht hQ hI hcn
      unfold lpX9_reach_7
      rw [hO 0 (by omega) (by omega) (by omega), e0, hO 12 (by omega) (by omega) (by omega)]
      refine ⟨fun g => ?_, fun g => ?_⟩
      · have e : x = n := by omega
        subst e
        refine ⟨21, key 21 0 tl N pos (by omega) (by omega) (by omega) hO ⟨⟨ht.1, hcn⟩, fun j j0 j1 => ?_, fun y hy => ?_, fun y y0 y1 hy => Or.inl ⟨(hI y y0 y1).2.2.1, (hI y y0 y1).1.mp hy⟩, fun y y0 y1 hy => absurd (hI y y0 y1).2.1 hy, fun y y0 y1 hy => (hI y y0 y1).1.mpr hy⟩ (fun y _ q => ?_)⟩
        · obtain ⟨t1, t2, t3⟩ := hQ j j0 j1
          exact ⟨Or.inl ⟨t1, t2⟩, t3⟩
        · rcases hy.1 with q | q
          · exact (hI y q.1 q.2).2.2.2 ((hI y q.1 q.2).1.mp hy.2)
          · have := (hI (y - 10) (by omega) (by omega)).2.1
            rw [show 10 + (y - 10) = y by omega] at this
            exact absurd this hy.2
        · rename_i hy
          rcases hy.1 with r | r
          · have := (hI y r.1 r.2).2.2.2 ((hI y r.1 r.2).1.mp hy.2)
            omega
          · have := (hI (y - 10) (by omega) (by omega)).2.1
            rw [show 10 + (y - 10) = y by omega] at this
            exact absurd this hy.2
      · have xn : x < n := by omega
        have step : ∀ t : Int, (t = 0 ∨ t = 1) → (t ≠ 0 ↔ 0 < M0 12 x) → jbX9_reach_37 post (fun y1 y2 y3 y4 N => lpX9_reach_7 post f y1 y2 y3 y4 N) most 0 tl x t x N := fun t ht01 htt => by
          unfold jbX9_reach_37
          refine ⟨by omega, ht01, fun N1 f1 => ⟨by omega, fun N2 f2 => ⟨by omega, fun N3 f3 => ⟨by omega, fun N4 f4 => ⟨by omega, ?_⟩⟩⟩⟩⟩
          have d18 : N4 18 = up (up (N 18) x t) (10 + x) 0 := by rw [f4, row_ne (by omega), f3, row_ne (by omega), f2, row_up, f1, row_up]
          have d16 : N4 16 = up (up (N 16) x (-1)) (10 + x) (-1) := by rw [f4, row_up, f3, row_up, f2, row_ne (by omega), f1, row_ne (by omega)]
          have d19 : N4 19 = N 19 := by rw [f4, row_ne (by omega), f3, row_ne (by omega), f2, row_ne (by omega), f1, row_ne (by omega)]
          have o4 : OffC M0 N4 := fun k p1 p2 p3 => by rw [f4, row_ne p1, f3, row_ne p1, f2, row_ne p2, f1, row_ne p2]; exact hO k p1 p2 p3
          have s18 : N4 18 x = t := by rw [d18, up_n (by omega), up_s]
          have lo18 : ∀ y : Int, 0 ≤ y → y < x → N4 18 y = N 18 y := fun y y0 y1 => by rw [d18, up_n (by omega), up_n (by omega)]
          have lo18' : ∀ y : Int, 0 ≤ y → y < x → N4 18 (10 + y) = N 18 (10 + y) := fun y y0 y1 => by rw [d18, up_n (by omega), up_n (by omega)]
          have sub : ∀ (y : Int), Sn x N y → Sn (x + 1) N4 y := fun y hy => by
            rcases hy.1 with r | r
            · exact ⟨Or.inl ⟨r.1, by omega⟩, by rw [lo18 y r.1 r.2]; exact hy.2⟩
            · refine ⟨Or.inr ⟨r.1, by omega⟩, ?_⟩
              have := lo18' (y - 10) (by omega) (by omega)
              rw [show 10 + (y - 10) = y by omega] at this
              rw [this]; exact hy.2
          unfold jbX9_reach_89
          refine ⟨fun q => ⟨by omega, ?_⟩, fun q => ⟨by omega, fun N5 f5 => ⟨by omega, by omega, ?_⟩⟩⟩
          · rw [s18] at q
            refine ih (x + 1) tl N4 pos (by omega) (by omega) (by omega) o4 (by omega) (fun j j0 j1 => ?_) (fun u u0 u1 => ?_) ?_
            · obtain ⟨t1, t2, t3⟩ := hQ j j0 j1
              rw [d19, lo18 _ t1 t2]
              exact ⟨t1, by omega, t3⟩
            · by_cases c : u = x
              · subst c
                rw [s18, d16, d18, up_s, up_n (by omega), up_s]
                refine ⟨htt, rfl, rfl, fun r => ?_⟩
                have := htt.mpr r
                exact absurd q this
              · rw [lo18 u u0 (by omega), lo18' u u0 (by omega), d16, up_n (by omega), up_n c, d19]
                exact hI u u0 (by omega)
            · exact Int.le_trans hcn (cn_mono (fun y _ _ hy => sub y hy))
          · rw [s18] at q
            have e19 : N5 19 = up (N 19) tl x := by rw [f5, row_up, d19]
            have e18 : N5 18 = N4 18 := by rw [f5, row_ne (by omega)]
            have e16 : N5 16 = N4 16 := by rw [f5, row_ne (by omega)]
            refine ih (x + 1) (tl + 1) N5 (up pos x tl) (by omega) (by omega) (by omega) (fun k p1 p2 p3 => by rw [f5, row_ne p3]; exact o4 k p1 p2 p3) (by omega) (fun j j0 j1 => ?_) (fun u u0 u1 => ?_) ?_
            · rw [e19, e18]
              by_cases c : j = tl
              · rw [c, up_s, s18]; exact ⟨x0, by omega, q⟩
              · rw [up_n c]
                obtain ⟨t1, t2, t3⟩ := hQ j j0 (by omega)
                rw [lo18 _ t1 t2]
                exact ⟨t1, by omega, t3⟩
            · rw [e18, e16, e19]
              by_cases c : u = x
              · subst c
                rw [s18, d16, d18, up_s, up_n (by omega), up_s, up_s, up_s]
                exact ⟨htt, rfl, rfl, fun _ => ⟨by omega, by omega, rfl⟩⟩
              · obtain ⟨z1, z2, z3, z4⟩ := hI u u0 (by omega)
                rw [lo18 u u0 (by omega), lo18' u u0 (by omega), d16, up_n (by omega), up_n c, up_n c]
                refine ⟨z1, z2, z3, fun r => ?_⟩
                obtain ⟨y1, y2, y3⟩ := z4 r
                rw [up_n (by omega)]
                exact ⟨y1, by omega, y3⟩
            · have : cn 20 (Sn x N) < cn 20 (Sn (x + 1) N5) := cn_lt (j := x) (fun y _ _ hy => by have := sub y hy; exact ⟨this.1, by rw [e18]; exact this.2⟩) x0 (by omega) (fun r => by rcases r.1 with s | s <;> omega) ⟨Or.inl ⟨x0, by omega⟩, by rw [e18, s18]; exact q⟩
              omega
        refine ⟨by omega, fun g1 => step 0 (Or.inl rfl) ⟨fun q => absurd rfl q, fun q => by omega⟩, fun g1 => step 1 (Or.inr rfl) ⟨fun _ => by omega, fun _ => by omega⟩⟩
  exact ⟨11, init 11 0 0 M0 (fun _ => 0) (by omega) (by omega) (by omega) (fun _ _ _ _ => rfl) (by omega) (fun j _ _ => by omega) (fun u _ _ => by omega) (cn_nonneg _ _)⟩
