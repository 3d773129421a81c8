/-! the reference's search for a ring: rows 16 (whence), 18 (seen), 19 (queue) -/
def gC (M : Mem) : Int → Int → Int := fun a b => if (0 ≤ a ∧ a < 10) ∧ 0 ≤ b ∧ b < 10 then M 11 (10 * a + b) else 0
theorem gC_in {M : Mem} {a b : Int} (h : (0 ≤ a ∧ a < 10) ∧ 0 ≤ b ∧ b < 10) : gC M a b = M 11 (10 * a + b) := if_pos h
def usR (M : Mem) (u v x y : Int) : Prop := M 17 (10 * x + y) = 0 ∧ ¬ (x = u ∧ y = v)
def nd (n x : Int) : Prop := (0 ≤ x ∧ x < n) ∨ (10 ≤ x ∧ x < 10 + n)
/-- from node k its neighbours below w are seen -/
def Nb (n u v : Int) (M0 : Mem) (k w : Int) (N : Mem) : Prop := ∀ j : Int, 0 ≤ j → j < n → j < w → (10 ≤ k → usR M0 u v j (k - 10) → 0 < M0 11 (10 * j + (k - 10)) → N 18 j ≠ 0) ∧ (k < 10 → usR M0 u v k j → M0 14 k - M0 14 j = M0 10 (10 * k + j) → N 18 (10 + j) ≠ 0)
def CtI (n u v : Int) (M0 : Mem) (tl : Int) (N : Mem) (pos : Int → Int) : Prop :=
  (1 ≤ tl ∧ tl ≤ 20 ∧ tl ≤ cn 20 (fun x => N 18 x ≠ 0)) ∧ (∀ j : Int, 0 ≤ j → j < tl → nd n (N 19 j) ∧ N 18 (N 19 j) ≠ 0) ∧ (∀ x : Int, 0 ≤ x → x < 20 → (N 18 x = 0 ∨ N 18 x = 1) ∧ (N 18 x ≠ 0 → nd n x ∧ 0 ≤ pos x ∧ pos x < tl ∧ N 19 (pos x) = x))
  ∧ (∀ x : Int, 0 ≤ x → x < n → N 18 x ≠ 0 → 10 ≤ N 16 x ∧ N 16 x < 10 + n ∧ N 18 (N 16 x) ≠ 0 ∧ usR M0 u v x (N 16 x - 10) ∧ 0 < M0 11 (10 * x + (N 16 x - 10)) ∧ pos (N 16 x) < pos x)
  ∧ (∀ y : Int, 0 ≤ y → y < n → N 18 (10 + y) ≠ 0 → y ≠ v → 0 ≤ N 16 (10 + y) ∧ N 16 (10 + y) < n ∧ N 18 (N 16 (10 + y)) ≠ 0 ∧ usR M0 u v (N 16 (10 + y)) y ∧ M0 14 (N 16 (10 + y)) - M0 14 y = M0 10 (10 * N 16 (10 + y) + y) ∧ pos (N 16 (10 + y)) < pos (10 + y)) ∧ N 18 (10 + v) ≠ 0
def OffC (M M' : Mem) : Prop := ∀ k : Int, k ≠ 16 → k ≠ 18 → k ≠ 19 → M' k = M k
/-- a node is seen for the first time, from node k -/
theorem ct_add {n u v tl k x : Int} {M0 N N' : Mem} {pos : Int → Int} (hn : 0 ≤ n ∧ n ≤ 10) (H : CtI n u v M0 tl N pos) (hx : nd n x) (hk : nd n k) (hks : N 18 k ≠ 0) (hxs : N 18 x = 0) (hrow : x < 10 → 10 ≤ k ∧ usR M0 u v x (k - 10) ∧ 0 < M0 11 (10 * x + (k - 10))) (hcol : 10 ≤ x → k < 10 ∧ usR M0 u v k (x - 10) ∧ M0 14 k - M0 14 (x - 10) = M0 10 (10 * k + (x - 10))) (d18 : N' 18 = up (N 18) x 1) (d16 : N' 16 = up (N 16) x k) (d19 : N' 19 = up (N 19) tl x) : tl < 20 ∧ CtI n u v M0 (tl + 1) N' (up pos x tl) := by
  obtain ⟨⟨c1, c1', c1''⟩, c2, c3, c4, c5, c6⟩ := H
  have x20 : 0 ≤ x ∧ x < 20 := by unfold nd at hx; omega
  have k20 : 0 ≤ k ∧ k < 20 := by unfold nd at hk; omega
  have lt : tl < 20 := by
    have := cn_ltn (n := 20) (p := fun x => N 18 x ≠ 0) x20.1 x20.2 (fun q => q hxs)
    omega
  have keep : ∀ y : Int, N 18 y ≠ 0 → y ≠ x := fun y hy e => by rw [e] at hy; exact hy hxs
  have cnt : cn 20 (fun x => N 18 x ≠ 0) < cn 20 (fun y => N' 18 y ≠ 0) := cn_lt (fun y _ _ hy => by show N' 18 y ≠ 0; rw [d18, up_n (keep y hy)]; exact hy) x20.1 x20.2 (fun q => q hxs) (by show N' 18 x ≠ 0; rw [d18, up_s]; omega)
  have pk := ((c3 k k20.1 k20.2).2 hks).2.2.1
  refine ⟨lt, ⟨by omega, by omega, by omega⟩, fun j j0 j1 => ?_, fun y y0 y1 => ?_, fun y y0 y1 hy => ?_, fun y y0 y1 hy hv => ?_, ?_⟩
  · rw [d19, d18]
    by_cases e : j = tl
    · rw [e, up_s, up_s]; exact ⟨hx, by omega⟩
    · rw [up_n e]
      obtain ⟨t1, t2⟩ := c2 j j0 (by omega)
      rw [up_n (keep _ t2)]
      exact ⟨t1, t2⟩
  · rw [d18, d19]
    by_cases e : y = x
    · rw [e, up_s, up_s, up_s]; exact ⟨Or.inr rfl, fun _ => ⟨hx, by omega, by omega, rfl⟩⟩
    · rw [up_n e, up_n e]
      obtain ⟨t1, t2⟩ := c3 y y0 y1
      refine ⟨t1, fun hy => ?_⟩
      obtain ⟨t3, t4, t5, t6⟩ := t2 hy
      rw [up_n (by omega)]
      exact ⟨t3, t4, by omega, t6⟩
  · by_cases e : y = x
    · subst e
      obtain ⟨z1, z2, z3⟩ := hrow (by omega)
      rw [d16, d18, up_s, up_s, up_n (keep k hks), up_n (keep k hks)]
      exact ⟨z1, by unfold nd at hk; omega, hks, z2, z3, by omega⟩
    · rw [d18, up_n e] at hy
      obtain ⟨t1, t2, t3, t4, t5, t6⟩ := c4 y y0 y1 hy
      rw [d16, d18, up_n e, up_n (keep _ t3), up_n (keep _ t3), up_n e]
      exact ⟨t1, t2, t3, t4, t5, t6⟩
  · by_cases e : 10 + y = x
    · subst e
      obtain ⟨z1, z2, z3⟩ := hcol (by omega)
      rw [show 10 + y - 10 = y by omega] at z2 z3
      rw [d16, d18, up_s, up_s, up_n (keep k hks), up_n (keep k hks)]
      exact ⟨by unfold nd at hk; omega, by unfold nd at hk; omega, hks, z2, z3, by omega⟩
    · rw [d18, up_n e] at hy
      obtain ⟨t1, t2, t3, t4, t5, t6⟩ := c5 y y0 y1 hy hv
      rw [d16, d18, up_n e, up_n (keep _ t3), up_n (keep _ t3), up_n e]
      exact ⟨t1, t2, t3, t4, t5, t6⟩
  · rw [d18, up_n (keep _ c6)]; exact c6
theorem X9_canTurn {n u v : Int} {M0 : Mem} {post : Int → Mem → Prop} (hn : 0 ≤ n ∧ n ≤ 10) (hu : 0 ≤ u ∧ u < n) (hv : 0 ≤ v ∧ v < n) (e0 : M0 0 0 = n) (hH : ∀ x : Int, 0 ≤ x → x < n → -100000 ≤ M0 14 x ∧ M0 14 x ≤ 100000)
    (h0 : ∀ M' : Mem, OffC M0 M' → M' 18 u = 0 → M' 18 (10 + v) ≠ 0 → (∀ x y : Int, 0 ≤ x → x < n → 0 ≤ y → y < n → M' 18 (10 + y) ≠ 0 → usR M0 u v x y → 0 < M0 11 (10 * x + y) → M' 18 x ≠ 0) → (∀ x y : Int, 0 ≤ x → x < n → 0 ≤ y → y < n → M' 18 x ≠ 0 → usR M0 u v x y → M0 14 x - M0 14 y = M0 10 (10 * x + y) → M' 18 (10 + y) ≠ 0) → post 0 M')
    (h1 : ∀ (M' : Mem) (ps : Int → Int), OffC M0 M' → M' 18 u ≠ 0 → (∀ y : Int, 0 ≤ y → y < n → M' 18 (10 + y) ≠ 0 → ps y < 20) → RgS n u v (usR M0 u v) (fun a b => M0 14 a - M0 14 b = M0 10 (10 * a + b)) (fun a b => M0 11 (10 * a + b)) (fun x => M' 16 x - 10) (fun y => M' 16 (10 + y)) ps (fun x => 0 ≤ x ∧ x < n ∧ M' 18 x ≠ 0) (fun y => 0 ≤ y ∧ y < n ∧ M' 18 (10 + y) ≠ 0) → post 1 M') : wpX9_canTurn u v M0 post := by
  have found : ∀ (tl : Int) (N : Mem) (pos : Int → Int), OffC M0 N → N 18 u ≠ 0 → CtI n u v M0 tl N pos → post 1 N := fun tl N pos hO hN H => by
    obtain ⟨⟨c1, c1', c1''⟩, c2, c3, c4, c5, c6⟩ := H
    refine h1 N (fun y => pos (10 + y)) hO hN (fun y y0 y1 hy => by have := ((c3 (10 + y) (by omega) (by omega)).2 hy).2.2.1; show pos (10 + y) < 20; omega) ⟨fun x hx => ?_, fun y hy => ?_⟩
    · obtain ⟨t1, t2, t3, t4, t5, t6⟩ := c4 x hx.1 hx.2.1 hx.2.2
      refine ⟨hx.1, hx.2.1, by show 0 ≤ N 16 x - 10; omega, by show N 16 x - 10 < n; omega, ⟨by show 0 ≤ N 16 x - 10; omega, by show N 16 x - 10 < n; omega, ?_⟩, t4, t5⟩
      show N 18 (10 + (N 16 x - 10)) ≠ 0
      rw [show 10 + (N 16 x - 10) = N 16 x by omega]
      exact t3
    · refine ⟨hy.1, hy.2.1, ((c3 (10 + y) (by omega) (by omega)).2 hy.2.2).2.1, fun q => ?_⟩
      obtain ⟨t1, t2, t3, t4, t5, t6⟩ := c5 y hy.1 hy.2.1 hy.2.2 q
      obtain ⟨s1, s2, s3, s4, s5, s6⟩ := c4 _ t1 t2 t3
      refine ⟨t1, t2, ⟨t1, t2, t3⟩, t4, t5, ?_⟩
      show pos (10 + (N 16 (N 16 (10 + y)) - 10)) < pos (10 + y)
      rw [show 10 + (N 16 (N 16 (10 + y)) - 10) = N 16 (N 16 (10 + y)) by omega]
      omega
  have key : ∀ (f : Nat) (hd tl : Int) (N : Mem) (pos : Int → Int), 0 ≤ hd → hd ≤ 20 → 20 - hd < f → OffC M0 N → CtI n u v M0 tl N pos → (∀ x : Int, 0 ≤ x → x < 20 → N 18 x ≠ 0 → pos x < hd → Nb n u v M0 x n N) → lpX9_canTurn_53 post f u v hd tl N := by
    intro f
    induction f with
    | zero => intro hd tl N pos _ _ g; omega
    | succ f ih =>
      intro hd tl N pos hd0 hd1 hf hO H hC
      obtain ⟨⟨c1, c1', c1''⟩, c2, c3, c4, c5, c6⟩ := id H
      have b01 := (c3 u (by omega) (by omega)).1
      have done : (tl ≤ hd ∨ N 18 u ≠ 0) → jbX9_canTurn_253 post u N := fun q => by
        unfold jbX9_canTurn_253
        refine ⟨by omega, b01, ?_⟩
        by_cases e : N 18 u = 0
        · rw [e]
          have q : tl ≤ hd := by
            rcases q with q | q
            · exact q
            · exact absurd e q
          refine h0 N hO e c6 (fun x y x0 x1 y0 y1 p r s => ?_) (fun x y x0 x1 y0 y1 p r s => ?_)
          · have := (hC (10 + y) (by omega) (by omega) p (by have := ((c3 (10 + y) (by omega) (by omega)).2 p).2.2.1; omega) x x0 x1 x1).1 (by omega)
            rw [show 10 + y - 10 = y by omega] at this
            exact this r s
          · exact (hC x x0 (by omega) p (by have := ((c3 x x0 (by omega)).2 p).2.2.1; omega) y y0 y1 y1).2 (by omega) r s
        · rw [show N 18 u = 1 by omega]
          exact found tl N pos hO e H
      unfold lpX9_canTurn_53
      refine ⟨fun g => done (Or.inl g), fun g => ⟨by omega, fun g1 => done (Or.inr g1), fun g1 => ⟨by omega, fun k hk => ⟨by omega, ?_⟩⟩⟩⟩
      obtain ⟨k1, k2⟩ := c2 hd hd0 (by omega)
      rw [← hk] at k1 k2
      have k20 : 0 ≤ k ∧ k < 20 := by unfold nd at k1; omega
      have key2 : ∀ (f2 : Nat) (w tl' : Int) (N' : Mem) (pos' : Int → Int), 0 ≤ w → w ≤ n → n - w < f2 → OffC M0 N' → hd < tl' → N' 19 hd = k → N' 18 k ≠ 0 → CtI n u v M0 tl' N' pos' → (∀ x : Int, 0 ≤ x → x < 20 → N' 18 x ≠ 0 → pos' x < hd → Nb n u v M0 x n N') → Nb n u v M0 k w N' → lpX9_canTurn_82 post (fun y1 y2 y3 y4 N => lpX9_canTurn_53 post f y1 y2 y3 y4 N) f2 u v (hd + 1) tl' k w N' := by
        intro f2
        induction f2 with
        | zero => intro w tl' N' pos' _ _ g; omega
        | succ f2 ih2 =>
          intro w tl' N' pos' w0 w1 hf2 hO' hlt hq hks H' hC' hB
          obtain ⟨⟨e1, e1', e1''⟩, e2, e3, e4, e5, e6⟩ := id H'
          unfold lpX9_canTurn_82
          rw [hO' 0 (by omega) (by omega) (by omega), e0]
          refine ⟨fun g3 => ?_, fun g3 => ?_⟩
          · have e : w = n := by omega
            subst e
            refine ih (hd + 1) tl' N' pos' (by omega) (by omega) (by omega) hO' H' (fun x x0 x1 p q => ?_)
            by_cases d : pos' x < hd
            · exact hC' x x0 x1 p d
            · have := ((e3 x x0 x1).2 p).2.2.2
              rw [show pos' x = hd by omega, hq] at this
              rw [← this]
              exact hB
          · have wn : w < n := by omega
            -- nothing new from here
            have skip : (10 ≤ k → usR M0 u v w (k - 10) → 0 < M0 11 (10 * w + (k - 10)) → N' 18 w ≠ 0) → (k < 10 → usR M0 u v k w → M0 14 k - M0 14 w = M0 10 (10 * k + w) → N' 18 (10 + w) ≠ 0) → inR (w + 1) ∧ lpX9_canTurn_82 post (fun y1 y2 y3 y4 N => lpX9_canTurn_53 post f y1 y2 y3 y4 N) f2 u v (hd + 1) tl' k (w + 1) N' := fun s1 s2 => ⟨by omega, ih2 (w + 1) tl' N' pos' (by omega) (by omega) (by omega) hO' hlt hq hks H' hC' (fun j j0 j1 j2 => by
              by_cases d : j = w
              · rw [d]; exact ⟨s1, s2⟩
              · exact hB j j0 j1 (by omega))⟩
            -- a new node
            have add : ∀ (x : Int) (N1 N2 N3 : Mem), nd n x → N' 18 x = 0 → (x < 10 → 10 ≤ k ∧ x = w ∧ usR M0 u v x (k - 10) ∧ 0 < M0 11 (10 * x + (k - 10))) → (10 ≤ x → k < 10 ∧ x = 10 + w ∧ usR M0 u v k (x - 10) ∧ M0 14 k - M0 14 (x - 10) = M0 10 (10 * k + (x - 10))) → N1 = mset N' 18 x 1 → N2 = mset N1 16 x k → N3 = mset N2 19 tl' x → tl' < 20 ∧ lpX9_canTurn_82 post (fun y1 y2 y3 y4 N => lpX9_canTurn_53 post f y1 y2 y3 y4 N) f2 u v (hd + 1) (tl' + 1) k (w + 1) N3 := fun x N1 N2 N3 hx hxs hr hc f1 f3 f4 => by
              have d18 : N3 18 = up (N' 18) x 1 := by rw [f4, row_ne (by omega), f3, row_ne (by omega), f1, row_up]
              have d16 : N3 16 = up (N' 16) x k := by rw [f4, row_ne (by omega), f3, row_up, f1, row_ne (by omega)]
              have d19 : N3 19 = up (N' 19) tl' x := by rw [f4, row_up, f3, row_ne (by omega), f1, row_ne (by omega)]
              obtain ⟨lt, H3⟩ := ct_add hn H' hx k1 hks hxs (fun q => ⟨(hr q).1, (hr q).2.2.1, (hr q).2.2.2⟩) (fun q => ⟨(hc q).1, (hc q).2.2.1, (hc q).2.2.2⟩) d18 d16 d19
              have mono : ∀ y : Int, N' 18 y ≠ 0 → N3 18 y ≠ 0 := fun y hy => by
                rw [d18]
                by_cases d : y = x
                · rw [d, up_s]; omega
                · rw [up_n d]; exact hy
              have monoB : ∀ (y z : Int), Nb n u v M0 y z N' → Nb n u v M0 y z N3 := fun y z hb j j0 j1 j2 => ⟨fun p q r => mono _ ((hb j j0 j1 j2).1 p q r), fun p q r => mono _ ((hb j j0 j1 j2).2 p q r)⟩
              refine ⟨lt, ih2 (w + 1) (tl' + 1) N3 _ (by omega) (by omega) (by omega) (fun k p1 p2 p3 => by rw [f4, row_ne p3, f3, row_ne p1, f1, row_ne p2]; exact hO' k p1 p2 p3) (by omega) (by rw [d19, up_n (by omega)]; exact hq) (mono k hks) H3 (fun y y0 y1 p q => ?_) (fun j j0 j1 j2 => ?_)⟩
              · by_cases d : y = x
                · rw [d, up_s] at q; omega
                · rw [up_n d] at q
                  rw [d18, up_n d] at p
                  exact monoB y n (hC' y y0 y1 p q)
              · by_cases d : j = w
                · subst d
                  refine ⟨fun p _ _ => ?_, fun p _ _ => ?_⟩
                  · have ex : x = j := by
                      by_cases q : x < 10
                      · exact (hr q).2.1
                      · have := (hc (by omega)).1; omega
                    rw [d18, ex, up_s]; omega
                  · have ex : x = 10 + j := by
                      by_cases q : x < 10
                      · have := (hr q).1; omega
                      · exact (hc (by omega)).2.1
                    rw [d18, ex, up_s]; omega
                · exact monoB k w hB j j0 j1 (by omega)
            have fin : ∀ x : Int, nd n x → (N' 18 x ≠ 0 → inR (w + 1) ∧ lpX9_canTurn_82 post (fun y1 y2 y3 y4 N => lpX9_canTurn_53 post f y1 y2 y3 y4 N) f2 u v (hd + 1) tl' k (w + 1) N') → (N' 18 x = 0 → (x < 10 → 10 ≤ k ∧ x = w ∧ usR M0 u v x (k - 10) ∧ 0 < M0 11 (10 * x + (k - 10))) ∧ (10 ≤ x → k < 10 ∧ x = 10 + w ∧ usR M0 u v k (x - 10) ∧ M0 14 k - M0 14 (x - 10) = M0 10 (10 * k + (x - 10)))) → jbX9_canTurn_193 post (fun y1 y2 y3 y4 N => lpX9_canTurn_53 post f y1 y2 y3 y4 N) (fun y1 y2 y3 y4 y5 y6 N => lpX9_canTurn_82 post (fun y1 y2 y3 y4 N => lpX9_canTurn_53 post f y1 y2 y3 y4 N) f2 y1 y2 y3 y4 y5 y6 N) u v (hd + 1) tl' k w x N' := fun x hx hs hz => by
              have x20 : 0 ≤ x ∧ x < 20 := by unfold nd at hx; omega
              unfold jbX9_canTurn_193 jbX9_canTurn_198 jbX9_canTurn_244
              refine ⟨fun q => by omega, fun _ => ⟨by omega, fun q => hs q, fun q => ⟨by omega, fun N1 f1 => ⟨by omega, fun N2 f3 => ?_⟩⟩⟩⟩
              obtain ⟨z1, z2⟩ := hz q
              obtain ⟨lt, _⟩ := add x N1 N2 _ hx q z1 z2 f1 f3 rfl
              refine ⟨by omega, fun N3 f4 => ⟨by omega, by omega, (add x N1 N2 N3 hx q z1 z2 f1 f3 f4).2⟩⟩
            have no : ∀ x : Int, (inR (w + 1) ∧ lpX9_canTurn_82 post (fun y1 y2 y3 y4 N => lpX9_canTurn_53 post f y1 y2 y3 y4 N) f2 u v (hd + 1) tl' k (w + 1) N') → jbX9_canTurn_197 post (fun y1 y2 y3 y4 N => lpX9_canTurn_53 post f y1 y2 y3 y4 N) (fun y1 y2 y3 y4 y5 y6 N => lpX9_canTurn_82 post (fun y1 y2 y3 y4 N => lpX9_canTurn_53 post f y1 y2 y3 y4 N) f2 y1 y2 y3 y4 y5 y6 N) u v (hd + 1) tl' k w x N' := fun x hs => by
              unfold jbX9_canTurn_197 jbX9_canTurn_198 jbX9_canTurn_244
              exact ⟨fun _ => hs, fun q => absurd rfl q⟩
            have r17 : N' 17 = M0 17 := hO' 17 (by omega) (by omega) (by omega)
            have r11 : N' 11 = M0 11 := hO' 11 (by omega) (by omega) (by omega)
            have r14 : N' 14 = M0 14 := hO' 14 (by omega) (by omega) (by omega)
            have r10 : N' 10 = M0 10 := hO' 10 (by omega) (by omega) (by omega)
            refine ⟨fun g4 => ⟨by omega, ?_⟩, fun g4 => ⟨by omega, ?_⟩⟩
            · -- a row's columns
              have kn : k < n := by unfold nd at k1; omega
              have hk1 := hH k k20.1 kn
              have hw1 := hH w w0 wn
              unfold jbX9_canTurn_120
              refine ⟨fun _ => ⟨by omega, ?_⟩, fun q => absurd g4 q⟩
              unfold jbX9_canTurn_139
              rw [r17]
              refine ⟨by omega, fun g5 => no _ (skip (fun q => by omega) (fun _ q => absurd q.1 g5)), fun g5 => ⟨by omega, fun g6 => no _ (skip (fun q => by omega) (fun _ q => absurd ⟨by omega, by omega⟩ q.2)), fun g6 => ⟨fun _ => ?_, fun q => absurd g4 q⟩⟩⟩
              unfold wpX9_isTight jbX9_isTight_32
              rw [r14, r10]
              refine ⟨by omega, by omega, by omega, by omega, fun g7 => ⟨Or.inl rfl, fun _ => no _ (skip (fun q => by omega) (fun _ _ q => absurd q g7)), fun q => absurd rfl q⟩, fun g7 => ⟨Or.inr rfl, fun q => by omega, fun _ => fin (10 + w) (Or.inr ⟨by omega, by omega⟩) (fun q => skip (fun q => by omega) (fun _ _ _ => q)) (fun _ => ⟨fun q => by omega, fun _ => ⟨g4, rfl, ?_, ?_⟩⟩)⟩⟩
              · rw [show 10 + w - 10 = w by omega]
                exact ⟨g5, fun q => g6 (by rw [q.1, q.2])⟩
              · rw [show 10 + w - 10 = w by omega]; exact g7
            · -- a column's rows
              have kc : 10 ≤ k ∧ k < 10 + n := by unfold nd at k1; omega
              have ec : 10 * w + k - 10 = 10 * w + (k - 10) := by omega
              unfold jbX9_canTurn_120
              refine ⟨fun q => absurd q g4, fun _ => ?_⟩
              unfold jbX9_canTurn_139
              rw [r17, r11, ec]
              refine ⟨by omega, fun g5 => no _ (skip (fun _ q => absurd q.1 g5) (fun q => by omega)), fun g5 => ⟨by omega, fun g6 => no _ (skip (fun _ q => absurd ⟨by omega, by omega⟩ q.2) (fun q => by omega)), fun g6 => ⟨fun q => absurd q g4, fun _ => ⟨by omega, fun g7 => no _ (skip (fun _ _ q => by omega) (fun q => by omega)), fun g7 => fin w (Or.inl ⟨w0, wn⟩) (fun q => skip (fun _ _ _ => q) (fun q => by omega)) (fun _ => ⟨fun _ => ⟨kc.1, rfl, ⟨g5, fun q => g6 (by rw [q.1, ← q.2])⟩, by omega⟩, fun q => by omega⟩)⟩⟩⟩⟩
      exact ⟨11, key2 11 0 tl N pos (by omega) (by omega) (by omega) hO (by omega) hk.symm k2 H hC (fun j _ _ q => by omega)⟩
  have init : ∀ (f : Nat) (x : Int) (N : Mem), 0 ≤ x → x ≤ 20 → 20 - x < f → OffC M0 N → (∀ y : Int, 0 ≤ y → y < x → N 18 y = 0) → lpX9_canTurn_2 post f u v x N := by
    intro f
    induction f with
    | zero => intro x N _ _ g; omega
    | succ f ih =>
      intro x N x0 x1 hf hO hI
      unfold lpX9_canTurn_2
      refine ⟨fun g => ⟨by omega, fun N1 e1 => ⟨by omega, fun N2 e2 => ?_⟩⟩, fun g => ⟨by omega, fun N1 e1 => ⟨by omega, fun N2 e2 => ⟨by omega, ?_⟩⟩⟩⟩
      · have d18 : ∀ y : Int, 0 ≤ y → y < 20 → N2 18 y = if y = 10 + v then 1 else 0 := fun y y0 y1 => by
          rw [e2]
          by_cases c : y = 10 + v
          · rw [c, mset_s, if_pos rfl]
          · rw [mset_i c, e1, mset_r (by omega), if_neg c]; exact hI y y0 (by omega)
        have d19 : N2 19 0 = 10 + v := by rw [e2, mset_r (by omega), e1, mset_s]
        have hvs : N2 18 (10 + v) = 1 := by rw [d18 (10 + v) (by omega) (by omega), if_pos rfl]
        refine ⟨21, key 21 0 1 N2 (fun _ => 0) (by omega) (by omega) (by omega) (fun k p1 p2 p3 => by rw [e2, row_ne p2, e1, row_ne p3]; exact hO k p1 p2 p3) ⟨⟨by omega, by omega, ?_⟩, fun j j0 j1 => ?_, fun y y0 y1 => ?_, fun y y0 y1 hy => ?_, fun y y0 y1 hy hyv => ?_, by rw [hvs]; omega⟩ (fun y _ _ _ q => by have : (0 : Int) < 0 := q; omega)⟩
        · have := cn_pos (n := 20) (p := fun y => N2 18 y ≠ 0) (j := 10 + v) (by omega) (by omega) (by show N2 18 (10 + v) ≠ 0; rw [hvs]; omega)
          omega
        · rw [show j = 0 by omega, d19, hvs]; exact ⟨Or.inr ⟨by omega, by omega⟩, by omega⟩
        · rw [d18 y y0 y1]
          by_cases c : y = 10 + v
          · rw [if_pos c]; exact ⟨Or.inr rfl, fun _ => ⟨Or.inr ⟨by omega, by omega⟩, Int.le_refl _, by show (0 : Int) < 1; omega, by rw [d19, c]⟩⟩
          · rw [if_neg c]; exact ⟨Or.inl rfl, fun q => absurd rfl q⟩
        · rw [d18 y y0 (by omega), if_neg (by omega)] at hy; exact absurd rfl hy
        · rw [d18 (10 + y) (by omega) (by omega), if_neg (by omega)] at hy; exact absurd rfl hy
      · refine ih (x + 1) N2 (by omega) (by omega) (by omega) (fun k p1 p2 p3 => by rw [e2, row_ne p1, e1, row_ne p2]; exact hO k p1 p2 p3) (fun y y0 y1 => ?_)
        rw [e2, mset_r (by omega), e1]
        by_cases c : y = x
        · rw [c, mset_s]
        · rw [mset_i c]; exact hI y y0 (by omega)
  exact ⟨21, init 21 0 M0 (by omega) (by omega) (by omega) (fun _ _ _ _ => rfl) (fun y _ _ => by omega)⟩
