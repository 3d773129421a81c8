/-! the reference's heights -/
def Off14 (M M' : Mem) : Prop := ∀ k : Int, k ≠ 14 → M' k = M k
abbrev dR (M : Mem) : Int → Int → Int := fun u v => M 10 (10 * u + v)
abbrev gR (M : Mem) : Int → Int → Int := fun u v => M 11 (10 * u + v)
theorem rh_round {n k t : Int} {M0 M : Mem} {π la s q : Int → Int} {post : Mem → Prop} {K34 : Int → Mem → Prop} (hn : 0 < n ∧ n ≤ 10) (e0 : M0 0 0 = n) (hδ : Mtr n (dR M0)) (hπ : Hfe n (dR M0) (gR M0) π) (hk : 1 ≤ k) (hO : Off14 M0 M) (H : BfH n 1000000000 (dR M0) (gR M0) π k 0 (M 14) la s q t) (hq : ∀ x : Int, 0 ≤ x → x < n → q x < k)
    (h : ∀ (c : Int) (M' : Mem) (la s q : Int → Int) (t : Int), Off14 M0 M' → BfH n 1000000000 (dR M0) (gR M0) π k 200 (M' 14) la s q t → (c = 0 ∨ c = 1) → (c = 0 → ∀ x : Int, 0 ≤ x → x < n → q x < k) → (c = 1 → ∃ x : Int, 0 ≤ x ∧ x < n ∧ M' 14 x < 1000000000 ∧ q x = k) → K34 c M') : ∃ j, lpX9_findHeights_42 post K34 j 0 0 M := by
  have hA := h_arcs hn.1 hδ
  have hp := h_pot hπ
  have low : ∀ (j : Int) (N : Mem) (la s q : Int → Int) (t : Int), BfH n 1000000000 (dR M0) (gR M0) π k j (N 14) la s q t → ∀ x : Int, 0 ≤ x → x < n → N 14 x < 1000000000 → -9000 ≤ N 14 x ∧ N 14 x ≤ 90000 := fun j N la s q t H x x0 x1 hl => by
    have h1 := (H.1 x x0 x1).2.1 hl
    have h2 := hfe_low hn.1 hδ hπ x x0 x1
    have h3 := cn_le (n := n) (by omega) (fun y => N 14 y < 1000000000)
    omega
  have key : ∀ (f : Nat) (c u : Int) (N : Mem) (la s q : Int → Int) (t : Int), 0 ≤ u → u ≤ n → n - u < f → Off14 M0 N → BfH n 1000000000 (dR M0) (gR M0) π k (20 * u) (N 14) la s q t → (c = 0 ∨ c = 1) → (c = 0 → ∀ x : Int, 0 ≤ x → x < n → q x < k) → (c = 1 → ∃ x : Int, 0 ≤ x ∧ x < n ∧ N 14 x < 1000000000 ∧ q x = k) → lpX9_findHeights_42 post K34 f c u N := by
    intro f
    induction f with
    | zero => intro c u N la s q t _ _ g; omega
    | succ f ih =>
      intro c u N la s q t u0 u1 hf hO H hc hc0 hc1
      unfold lpX9_findHeights_42
      rw [hO 0 (by omega), e0]
      refine ⟨fun g => ?_, fun g => ?_⟩
      · have := bf_skips H (200 - 20 * u).toNat (fun e' a b => h_out (by omega))
        rw [show 20 * u + ((200 - 20 * u).toNat : Int) = 200 by omega] at this
        exact h c N la s q t hO this hc hc0 hc1
      · have key2 : ∀ (f2 : Nat) (c v : Int) (N : Mem) (la s q : Int → Int) (t : Int), 0 ≤ v → v ≤ n → n - v < f2 → Off14 M0 N → BfH n 1000000000 (dR M0) (gR M0) π k (2 * (10 * u + v)) (N 14) la s q t → (c = 0 ∨ c = 1) → (c = 0 → ∀ x : Int, 0 ≤ x → x < n → q x < k) → (c = 1 → ∃ x : Int, 0 ≤ x ∧ x < n ∧ N 14 x < 1000000000 ∧ q x = k) → lpX9_findHeights_52 post K34 (fun y2 y3 N => lpX9_findHeights_42 post K34 f y2 y3 N) f2 c u v N := by
          intro f2
          induction f2 with
          | zero => intro c v N la s q t _ _ g; omega
          | succ f2 ih2 =>
            intro c v N la s q t v0 v1 hf2 hO H hc hc0 hc1
            unfold lpX9_findHeights_52
            rw [hO 0 (by omega), e0, hO 10 (by omega)]
            refine ⟨fun g2 => ⟨by omega, ?_⟩, fun g2 => ?_⟩
            · have := bf_skips H (20 * (u + 1) - 2 * (10 * u + v)).toNat (fun e' a b => h_out (by omega))
              rw [show 2 * (10 * u + v) + ((20 * (u + 1) - 2 * (10 * u + v)).toNat : Int) = 20 * (u + 1) by omega] at this
              exact ih c (u + 1) N la s q t (by omega) (by omega) (by omega) hO this hc hc0 hc1
            · have hun : u < n := by omega
              have hvn : v < n := by omega
              have dd : 0 ≤ M0 10 (10 * u + v) ∧ M0 10 (10 * u + v) ≤ 9000 := hδ.2.1 u v u0 hun v0 hvn
              obtain ⟨p1, p2, p3, p4⟩ := h_even (u := u) v0 hun hvn hn.2
              obtain ⟨r1, r2, r3, r4⟩ := h_odd (u := u) v0 hun hvn hn.2
              have second : ∀ (c : Int) (N : Mem) (la s q : Int → Int) (t : Int), Off14 M0 N → BfH n 1000000000 (dR M0) (gR M0) π k (2 * (10 * u + v) + 1) (N 14) la s q t → (c = 0 ∨ c = 1) → (c = 0 → ∀ x : Int, 0 ≤ x → x < n → q x < k) → (c = 1 → ∃ x : Int, 0 ≤ x ∧ x < n ∧ N 14 x < 1000000000 ∧ q x = k) → jbX9_findHeights_119 post K34 (fun y2 y3 N => lpX9_findHeights_42 post K34 f y2 y3 N) (fun y2 y3 y4 N => lpX9_findHeights_52 post K34 (fun y2 y3 N => lpX9_findHeights_42 post K34 f y2 y3 N) f2 y2 y3 y4 N) c u v (M0 10 (10 * u + v)) N := by
                intro c N la s q t hO H hc hc0 hc1
                have skip : (0 < M0 11 (10 * u + v) → N 14 u < 1000000000 → N 14 v ≤ N 14 u - M0 10 (10 * u + v)) → inR (v + 1) ∧ lpX9_findHeights_52 post K34 (fun y2 y3 N => lpX9_findHeights_42 post K34 f y2 y3 N) f2 c u (v + 1) N := fun hh => by
                  have := bf_skip H (by
                    rw [r1, r2, r3, r4]
                    intro a b
                    have := hh a b
                    show N 14 v ≤ N 14 u + - M0 10 (10 * u + v)
                    omega)
                  rw [show 2 * (10 * u + v) + 1 + 1 = 2 * (10 * u + (v + 1)) by omega] at this
                  exact ⟨by omega, ih2 c (v + 1) N la s q t (by omega) (by omega) (by omega) hO this hc hc0 hc1⟩
                unfold jbX9_findHeights_119 jbX9_findHeights_179
                rw [hO 11 (by omega)]
                refine ⟨by omega, fun g3 => skip (fun a => by omega), fun g3 => ⟨by omega, fun g4 => skip (fun _ b => by omega), fun g4 => ?_⟩⟩
                have lo1 := low _ N la s q t H u u0 hun (by omega)
                refine ⟨by omega, by omega, by omega, fun g5 => skip (fun _ _ => g5), fun g5 => ⟨by omega, by omega, fun N1 e1 => ⟨by omega, ?_⟩⟩⟩
                obtain ⟨H2, H3⟩ := bf_lower (by omega) (by omega) (by omega) hA hp hk (by omega) (by omega) H (by rw [r4]; show 0 < M0 11 (10 * u + v); omega) (by rw [r1]; omega) (by rw [r1, r2, r3]; show N 14 u + - M0 10 (10 * u + v) < N 14 v; omega)
                rw [r1, r2, r3] at H2
                rw [r1, r3] at H3
                have d2 : N1 14 = up (N 14) v (N 14 u + - dR M0 u v) := by rw [e1, row_up]; rfl
                rw [← d2, show 2 * (10 * u + v) + 1 + 1 = 2 * (10 * u + (v + 1)) by omega] at H2
                refine ih2 1 (v + 1) N1 _ _ _ _ (by omega) (by omega) (by omega) (fun k p1 => by rw [e1, row_ne p1]; exact hO k p1) H2 (Or.inr rfl) (fun q => by omega) (fun _ => ⟨v, v0, hvn, by rw [d2, up_s]; exact H3, up_s _ _ _⟩)
              refine ⟨by omega, fun w hw => ?_⟩
              subst hw
              refine ⟨by omega, fun g3 => second c N la s q t hO (bf_skip H (by rw [p1]; intro _ b; omega)) hc hc0 hc1, fun g3 => ?_⟩
              have lo2 := low _ N la s q t H v v0 hvn (by omega)
              refine ⟨by omega, by omega, by omega, fun g4 => second c N la s q t hO (bf_skip H (by rw [p1, p2, p3]; exact fun _ _ => g4)) hc hc0 hc1, fun g4 => ⟨by omega, by omega, fun N1 e1 => ?_⟩⟩
              obtain ⟨H2, H3⟩ := bf_lower (by omega) (by omega) (by omega) hA hp hk (by omega) (by omega) H (by rw [p4]; omega) (by rw [p1]; omega) (by rw [p1, p2, p3]; show N 14 v + M0 10 (10 * u + v) < N 14 u; omega)
              rw [p1, p2, p3] at H2
              rw [p1, p3] at H3
              have d2 : N1 14 = up (N 14) u (N 14 v + dR M0 u v) := by rw [e1, row_up]
              rw [← d2] at H2
              exact second 1 N1 _ _ _ _ (fun k p1 => by rw [e1, row_ne p1]; exact hO k p1) H2 (Or.inr rfl) (fun q => by omega) (fun _ => ⟨u, u0, hun, by rw [d2, up_s]; exact H3, up_s _ _ _⟩)
        exact ⟨11, key2 11 c 0 N la s q t (by omega) (by omega) (by omega) hO (by rw [show 2 * (10 * u + 0) = 20 * u by omega]; exact H) hc hc0 hc1⟩
  exact ⟨11, key 11 0 0 M la s q t (by omega) (by omega) (by omega) hO H (Or.inl rfl) (fun _ => hq) (fun q => by omega)⟩
theorem X9_findHeights {n : Int} {M : Mem} {π : Int → Int} {post : Mem → Prop} (hn : 0 ≤ n ∧ n ≤ 10) (e0 : M 0 0 = n) (hδ : Mtr n (dR M)) (hπ : Hfe n (dR M) (gR M) π)
    (h : ∀ M' : Mem, Off14 M M' → Hgr n (dR M) (gR M) (M' 14) → post M') : wpX9_findHeights M post := by
  by_cases hn0 : 0 < n
  · have hn' : 0 < n ∧ n ≤ 10 := ⟨hn0, hn.2⟩
    have hA := h_arcs hn0 hδ
    have hp := h_pot hπ
    have rounds : ∀ (f : Nat) (k : Int) (N : Mem) (la s q : Int → Int) (t : Int), 1 ≤ k → 12 - k < f → Off14 M N → BfH n 1000000000 (dR M) (gR M) π k 0 (N 14) la s q t → (∀ x : Int, 0 ≤ x → x < n → q x < k) → (2 ≤ k → ∃ x : Int, 0 ≤ x ∧ x < n ∧ N 14 x < 1000000000 ∧ q x = k - 1) → lpX9_findHeights_34 post f 1 N := by
      intro f
      induction f with
      | zero =>
        intro k N la s q t k1 hf hO H hq hx
        obtain ⟨x, x0, x1, x2, x3⟩ := hx (by omega)
        have := bf_q2 hA hp H x0 x1 x2
        omega
      | succ f ih =>
        intro k N la s q t k1 hf hO H hq hx
        have hk : k ≤ 10 := by
          by_cases c : 2 ≤ k
          · obtain ⟨x, x0, x1, x2, x3⟩ := hx c
            have := bf_q2 hA hp H x0 x1 x2
            omega
          · omega
        unfold lpX9_findHeights_34
        refine ⟨fun q => by omega, fun _ => ?_⟩
        refine rh_round hn' e0 hδ hπ k1 hO H hq (fun c N2 la2 s2 q2 t2 hO2 H2 hc hc0 hc1 => ?_)
        rcases hc with c1 | c1
        · subst c1
          obtain ⟨ra, F⟩ := bf_end (by omega) (by omega) (by omega) hA hp H2 (fun y y0 y1 _ => hc0 rfl y y0 y1)
          cases f with
          | zero => omega
          | succ f =>
            show lpX9_findHeights_34 post (f + 1) 0 N2
            unfold lpX9_findHeights_34
            exact ⟨fun _ => h N2 hO2 (h_fin hn' (by omega) hδ hπ F), fun q => absurd rfl q⟩
        · subst c1
          refine ih (k + 1) N2 la2 s2 q2 t2 (by omega) (by omega) hO2 (bf_round H2) (fun y y0 y1 => ?_) (fun _ => ?_)
          · have := (H2.1 y y0 y1).2.2.2.2.1
            omega
          · obtain ⟨x, x0, x1, x2, x3⟩ := hc1 rfl
            exact ⟨x, x0, x1, x2, by omega⟩
    have key : ∀ (f : Nat) (x : Int) (N : Mem), 0 ≤ x → x ≤ n → n - x < f → Off14 M N → (∀ u : Int, 0 ≤ u → u < x → N 14 u = if u = 0 then 0 else 1000000000) → lpX9_findHeights_2 post f x N := by
      intro f
      induction f with
      | zero => intro x N _ _ g; omega
      | succ f ih =>
        intro x N x0 x1 hf hO hI
        unfold lpX9_findHeights_2 jbX9_findHeights_25
        rw [hO 0 (by omega), e0]
        have nxt : ∀ (t : Int) (N1 : Mem), x < n → t = (if x = 0 then 0 else 1000000000) → N1 = mset N 14 x t → lpX9_findHeights_2 post f (x + 1) N1 := fun t N1 hx ht e1 => by
          refine ih (x + 1) N1 (by omega) (by omega) (by omega) (fun k hk => by rw [e1, row_ne hk]; exact hO k hk) (fun u u0 u1 => ?_)
          by_cases c : u = x
          · rw [e1, c, mset_s, ht]
          · rw [e1, mset_i c]; exact hI u u0 (by omega)
        refine ⟨fun g => ?_, fun g => ⟨fun g1 => ⟨by omega, fun N1 e1 => ⟨by omega, nxt _ N1 (by omega) (by rw [if_neg g1]) e1⟩⟩, fun g1 => ⟨by omega, fun N1 e1 => ⟨by omega, nxt _ N1 (by omega) (by rw [if_pos g1]) e1⟩⟩⟩⟩
        have e : x = n := by omega
        subst e
        refine ⟨13, rounds 13 1 N (fun _ => -1) (fun _ => 0) (fun _ => 0) 1 (by omega) (by omega) hO (bf_start (by omega) (by omega) (fun y y0 y1 => ⟨fun r => ⟨by rw [hI y y0 y1, if_pos r], by rw [r, hπ.2 hn0]; exact Int.le_refl _⟩, fun r => by rw [hI y y0 y1, if_neg r], fun _ => rfl⟩)) (fun _ _ _ => by show (0 : Int) < 1; omega) (fun q => by omega)⟩
    exact ⟨11, key 11 0 M (by omega) (by omega) (by omega) (fun _ _ => rfl) (fun u _ _ => by omega)⟩
  · refine ⟨1, ?_⟩
    unfold lpX9_findHeights_2
    rw [e0]
    refine ⟨fun _ => ⟨2, ?_⟩, fun g => by omega⟩
    unfold lpX9_findHeights_34
    refine ⟨fun q => by omega, fun _ => ⟨1, ?_⟩⟩
    unfold lpX9_findHeights_42
    rw [e0]
    refine ⟨fun _ => ?_, fun g => by omega⟩
    show lpX9_findHeights_34 post (0 + 1) 0 M
    unfold lpX9_findHeights_34
    exact ⟨fun _ => h M (fun _ _ => rfl) ⟨⟨fun u v a b => by omega, fun q => by omega⟩, fun I _ x a b => by omega⟩, fun q => absurd rfl q⟩
