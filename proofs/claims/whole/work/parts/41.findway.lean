/-! the reference's search for a way -/
def rd (n K : Int) (row : Int → Int) : Int → Int := fun x => if x < n ∨ (10 ≤ x ∧ x < 10 + n) then row x else K
theorem rd_up {n K : Int} {row : Int → Int} {x v : Int} (h : x < n ∨ (10 ≤ x ∧ x < 10 + n)) : rd n K (up row x v) = up (rd n K row) x v := by
  funext y
  by_cases c : y = x
  · subst c; rw [up_s]; unfold rd; rw [if_pos h, up_s]
  · rw [up_n c]; unfold rd; rw [up_n c]
theorem rd_in {n K : Int} {row : Int → Int} {x : Int} (h : x < n ∨ (10 ≤ x ∧ x < 10 + n)) : rd n K row x = row x := if_pos h
theorem rl_f {c : Int → Int} {u v : Int} (hu : 0 ≤ u) (hv : 0 ≤ v) : rl (up c (10 + v) u) = up (rl c) (10 + v) (2 * (10 * u + v)) := by
  funext y
  by_cases q : y = 10 + v
  · subst q; rw [up_s]; unfold rl; rw [up_s, if_neg (by omega), if_neg (by omega)]; omega
  · rw [up_n q]; unfold rl; rw [up_n q]
theorem rl_b {c : Int → Int} {u v : Int} (hu : u < 10) (hv : 0 ≤ v) : rl (up c u v) = up (rl c) u (2 * (10 * u + v) + 1) := by
  funext y
  by_cases q : y = u
  · subst q; rw [up_s]; unfold rl; rw [up_s, if_neg (by omega), if_pos hu]
  · rw [up_n q]; unfold rl; rw [up_n q]
theorem bf_skips {J N B K : Int} {T Q P R π : Int → Int} {root : Int → Prop} {k j : Int} {d la s q : Int → Int} {t : Int} (H : BfI J N B K T Q P R π root k j d la s q t) : ∀ m : Nat, (∀ e : Int, j ≤ e → e < j + m → R e ≤ 0) → BfI J N B K T Q P R π root k (j + m) d la s q t := by
  intro m
  induction m with
  | zero => intro _; rw [show j + ((0 : Nat) : Int) = j by omega]; exact H
  | succ m ih =>
    intro h
    have h1 := ih (fun e a b => h e a (by omega))
    have := bf_skip h1 (fun q => by have := h (j + m) (by omega) (by omega); omega)
    rw [show j + ((m + 1 : Nat) : Int) = j + m + 1 by omega]
    exact this
abbrev CM : Int → Int := fun _ => 1000000
def OffW (M M' : Mem) : Prop := ∀ k : Int, k ≠ 15 → k ≠ 16 → M' k = M k
abbrev BfR (n : Int) (M0 : Mem) (π : Int → Int) (k j : Int) (M : Mem) (s q : Int → Int) (t : Int) : Prop := BfI 20 200 9000 1000000000 rT rQ (rP n (M0 10)) (rR n CM (M0 11)) π (fun x => 0 ≤ x ∧ x < n ∧ 0 < M0 12 x) k j (rd n 1000000000 (M 15)) (rl (M 16)) s q t
abbrev FinR (n : Int) (M0 : Mem) (π : Int → Int) (M : Mem) (ra : Int → Int) : Prop := BfF 20 200 9000 1000000000 rT rQ (rP n (M0 10)) (rR n CM (M0 11)) π (fun x => 0 ≤ x ∧ x < n ∧ 0 < M0 12 x) (rd n 1000000000 (M 15)) (rl (M 16)) ra
/-- the flags of a round -/
def Chg (n k c : Int) (M : Mem) (q : Int → Int) : Prop := (c = 0 ∨ c = 1) ∧ (c = 0 → ∀ x : Int, 0 ≤ x → x < 20 → q x < k) ∧ (c = 1 → ∃ x : Int, 0 ≤ x ∧ x < 20 ∧ rd n 1000000000 (M 15) x < 1000000000 ∧ q x = k)
def C16 (n : Int) (M : Mem) : Prop := ∀ x : Int, (0 ≤ x ∧ x < n) ∨ (10 ≤ x ∧ x < 10 + n) → -1 ≤ M 16 x
theorem fw_round {n k t : Int} {M0 M : Mem} {π s q : Int → Int} {post : Int → Mem → Prop} {K67 : Int → Mem → Prop} (hn : 0 ≤ n ∧ n ≤ 10) (e0 : M0 0 0 = n) (hD : ∀ u v : Int, 0 ≤ u → u < n → 0 ≤ v → v < n → 0 ≤ M0 10 (10 * u + v) ∧ M0 10 (10 * u + v) ≤ 9000) (hF : ∀ u v : Int, 0 ≤ u → u < n → 0 ≤ v → v < n → 0 ≤ M0 11 (10 * u + v) ∧ M0 11 (10 * u + v) ≤ 1000) (hπ : PotOk 200 rT rQ (rP n (M0 10)) (rR n CM (M0 11)) π) (hπ0 : ∀ x : Int, 0 ≤ x → x < 20 → 0 ≤ π x) (hk : 1 ≤ k) (hO : OffW M0 M) (h16 : C16 n M) (H : BfR n M0 π k 0 M s q t) (hq : ∀ x : Int, 0 ≤ x → x < 20 → q x < k)
    (h : ∀ (c : Int) (M' : Mem) (s q : Int → Int) (t : Int), OffW M0 M' → C16 n M' → BfR n M0 π k 200 M' s q t → Chg n k c M' q → K67 c M') : ∃ j, lpX9_findWay_75 post K67 j 0 0 M := by
  have hA := r_arcs hD
  have low : ∀ (j : Int) (N : Mem) (s q : Int → Int) (t : Int), BfR n M0 π k j N s q t → ∀ x : Int, 0 ≤ x → x < 20 → (x < n ∨ (10 ≤ x ∧ x < 10 + n)) → N 15 x < 1000000000 → 0 ≤ N 15 x ∧ N 15 x ≤ 180000 := fun j N s q t H x x0 x1 hx hl => by
    have h1 := (H.1 x x0 x1).2.1 (by rw [rd_in hx]; exact hl)
    rw [rd_in hx] at h1
    have h2 := hπ0 x x0 x1
    have h3 := cn_le (n := 20) (by omega) (fun y => rd n 1000000000 (N 15) y < 1000000000)
    omega
  have key : ∀ (f : Nat) (c u : Int) (N : Mem) (s q : Int → Int) (t : Int), 0 ≤ u → u ≤ n → n - u < f → OffW M0 N → C16 n N → BfR n M0 π k (20 * u) N s q t → Chg n k c N q → lpX9_findWay_75 post K67 f c u N := by
    intro f
    induction f with
    | zero => intro c u N s q t _ _ g; omega
    | succ f ih =>
      intro c u N s q t u0 u1 hf hO h16 H hc
      unfold lpX9_findWay_75
      have r0 : N 0 0 = n := by rw [hO 0 (by omega) (by omega), e0]
      rw [r0]
      refine ⟨fun g => ?_, fun g => ?_⟩
      · have e : u = n := by omega
        have := bf_skips H (200 - 20 * u).toNat (fun e' a b => by unfold rR; rw [if_neg (by omega)]; exact Int.le_refl _)
        rw [show 20 * u + ((200 - 20 * u).toNat : Int) = 200 by omega] at this
        exact h c N s q t hO h16 this hc
      · have key2 : ∀ (f2 : Nat) (c v : Int) (N : Mem) (s q : Int → Int) (t : Int), 0 ≤ v → v ≤ n → n - v < f2 → OffW M0 N → C16 n N → BfR n M0 π k (2 * (10 * u + v)) N s q t → Chg n k c N q → lpX9_findWay_85 post K67 (fun y1 y2 N => lpX9_findWay_75 post K67 f y1 y2 N) f2 c u v N := by
          intro f2
          induction f2 with
          | zero => intro c v N s q t _ _ g; omega
          | succ f2 ih2 =>
            intro c v N s q t v0 v1 hf2 hO h16 H hc
            unfold lpX9_findWay_85
            have r0 : N 0 0 = n := by rw [hO 0 (by omega) (by omega), e0]
            have r10 : N 10 = M0 10 := hO 10 (by omega) (by omega)
            have r11 : N 11 = M0 11 := hO 11 (by omega) (by omega)
            rw [r0, r10]
            refine ⟨fun g2 => ⟨by omega, ?_⟩, fun g2 => ?_⟩
            · have e : v = n := by omega
              have := bf_skips H (20 * (u + 1) - 2 * (10 * u + v)).toNat (fun e' a b => by unfold rR; rw [if_neg (by omega)]; exact Int.le_refl _)
              rw [show 2 * (10 * u + v) + ((20 * (u + 1) - 2 * (10 * u + v)).toNat : Int) = 20 * (u + 1) by omega] at this
              exact ih c (u + 1) N s q t (by omega) (by omega) (by omega) hO h16 this hc
            · have dd := hD u v u0 (by omega) v0 (by omega)
              have ff := hF u v u0 (by omega) v0 (by omega)
              have hun : u < n := by omega
              have hvn : v < n := by omega
              have eT := (rT_f (u := u) v0 (by omega)).1
              have eQ := (rT_f (u := u) v0 (by omega)).2
              have bT := (rT_b (u := u) v0 (by omega)).1
              have bQ := (rT_b (u := u) v0 (by omega)).2
              have eR : rR n CM (M0 11) (2 * (10 * u + v)) = 1000000 - M0 11 (10 * u + v) := rR_f v0 (by omega) hun hvn
              have eP := rP_f (D := M0 10) v0 (by omega) hun hvn
              have bR := rR_b (C := CM) (F := M0 11) v0 (by omega) hun hvn
              have bP := rP_b (D := M0 10) v0 (by omega) hun hvn
              -- the second arc
              have second : ∀ (c : Int) (N : Mem) (s q : Int → Int) (t : Int), OffW M0 N → C16 n N → BfR n M0 π k (2 * (10 * u + v) + 1) N s q t → Chg n k c N q → jbX9_findWay_168 post K67 (fun y1 y2 N => lpX9_findWay_75 post K67 f y1 y2 N) (fun y1 y2 y3 N => lpX9_findWay_85 post K67 (fun y1 y2 N => lpX9_findWay_75 post K67 f y1 y2 N) f2 y1 y2 y3 N) c u v (M0 10 (10 * u + v)) N := by
                intro c N s q t hO h16 H hc
                unfold jbX9_findWay_168 jbX9_findWay_244
                rw [hO 11 (by omega) (by omega)]
                have skip : (0 < M0 11 (10 * u + v) → N 15 (10 + v) < 1000000000 → N 15 u ≤ N 15 (10 + v) - M0 10 (10 * u + v)) → inR (v + 1) ∧ lpX9_findWay_85 post K67 (fun y1 y2 N => lpX9_findWay_75 post K67 f y1 y2 N) f2 c u (v + 1) N := fun hh => by
                  have := bf_skip H (by
                    rw [bR, bT, bQ, bP, rd_in (by omega), rd_in (by omega)]
                    intro a b
                    have := hh a b
                    omega)
                  rw [show 2 * (10 * u + v) + 1 + 1 = 2 * (10 * u + (v + 1)) by omega] at this
                  exact ⟨by omega, ih2 c (v + 1) N s q t (by omega) (by omega) (by omega) hO h16 this hc⟩
                refine ⟨by omega, fun g3 => skip (fun a => by omega), fun g3 => ⟨by omega, fun g4 => skip (fun _ b => by omega), fun g4 => ?_⟩⟩
                have lo := low _ N s q t H (10 + v) (by omega) (by omega) (by omega) (by omega)
                refine ⟨by omega, by omega, by omega, fun g5 => skip (fun _ _ => g5), fun g5 => ⟨by omega, by omega, fun N1 e1 => ⟨by omega, fun N2 e2 => ⟨by omega, ?_⟩⟩⟩⟩
                obtain ⟨H2, H3⟩ := bf_lower (by omega) (by omega) (by omega) hA hπ hk (by omega) (by omega) H (by rw [bR]; omega) (by rw [bT, rd_in (by omega)]; omega) (by rw [bT, bQ, bP, rd_in (by omega), rd_in (by omega)]; omega)
                rw [bT, bQ, bP, rd_in (show 10 + v < n ∨ (10 ≤ 10 + v ∧ 10 + v < 10 + n) by omega)] at H2
                rw [bT, bP, rd_in (show 10 + v < n ∨ (10 ≤ 10 + v ∧ 10 + v < 10 + n) by omega)] at H3
                have d2 : N2 15 = up (N 15) u (N 15 (10 + v) + -M0 10 (10 * u + v)) := by rw [e2, row_ne (by omega), e1, row_up]; rfl
                have l2 : N2 16 = up (N 16) u v := by rw [e2, row_up, e1, row_ne (by omega)]
                rw [← rd_up (by omega), ← rl_b (by omega) v0, ← d2, ← l2, show 2 * (10 * u + v) + 1 + 1 = 2 * (10 * u + (v + 1)) by omega] at H2
                refine ih2 1 (v + 1) N2 _ _ _ (by omega) (by omega) (by omega) (fun k p1 p2 => by rw [e2, row_ne p2, e1, row_ne p1]; exact hO k p1 p2) (fun x hx => by
                  rw [l2]
                  by_cases c1 : x = u
                  · rw [c1, up_s]; omega
                  · rw [up_n c1]; exact h16 x hx) H2 ⟨Or.inr rfl, fun q => by omega, fun _ => ⟨u, u0, by omega, by rw [rd_in (by omega), d2, up_s]; exact H3, up_s _ _ _⟩⟩
              have skip1 : (N 15 u < 1000000000 → N 15 (10 + v) ≤ N 15 u + M0 10 (10 * u + v)) → BfR n M0 π k (2 * (10 * u + v) + 1) N s q t := fun hh => bf_skip H (by
                rw [eT, eQ, eP, rd_in (by omega), rd_in (by omega)]
                exact fun _ => hh)
              refine ⟨by omega, fun w hw => ?_⟩
              subst hw
              refine ⟨by omega, fun g3 => second c N s q t hO h16 (skip1 (fun a => by omega)) hc, fun g3 => ?_⟩
              have lo := low _ N s q t H u (by omega) (by omega) (by omega) (by omega)
              refine ⟨by omega, by omega, by omega, fun g4 => second c N s q t hO h16 (skip1 (fun _ => g4)) hc, fun g4 => ⟨by omega, by omega, fun N1 e1 => ⟨by omega, fun N2 e2 => ?_⟩⟩⟩
              obtain ⟨H2, H3⟩ := bf_lower (by omega) (by omega) (by omega) hA hπ hk (by omega) (by omega) H (by rw [eR]; omega) (by rw [eT, rd_in (by omega)]; omega) (by rw [eT, eQ, eP, rd_in (by omega), rd_in (by omega)]; omega)
              rw [eT, eQ, eP, rd_in (show u < n ∨ (10 ≤ u ∧ u < 10 + n) by omega)] at H2
              rw [eT, eP, rd_in (show u < n ∨ (10 ≤ u ∧ u < 10 + n) by omega)] at H3
              have d2 : N2 15 = up (N 15) (10 + v) (N 15 u + M0 10 (10 * u + v)) := by rw [e2, row_ne (by omega), e1, row_up]
              have l2 : N2 16 = up (N 16) (10 + v) u := by rw [e2, row_up, e1, row_ne (by omega)]
              rw [← rd_up (by omega), ← rl_f u0 v0, ← d2, ← l2] at H2
              exact second 1 N2 _ _ _ (fun k p1 p2 => by rw [e2, row_ne p2, e1, row_ne p1]; exact hO k p1 p2) (fun x hx => by
                rw [l2]
                by_cases c1 : x = 10 + v
                · rw [c1, up_s]; omega
                · rw [up_n c1]; exact h16 x hx) H2 ⟨Or.inr rfl, fun q => by omega, fun _ => ⟨10 + v, by omega, by omega, by rw [rd_in (by omega), d2, up_s]; exact H3, up_s _ _ _⟩⟩
        refine ⟨11, key2 11 c 0 N s q t (by omega) (by omega) (by omega) hO h16 (by rw [show 2 * (10 * u + 0) = 20 * u by omega]; exact H) hc⟩
  exact ⟨11, key 11 0 0 M s q t (by omega) (by omega) (by omega) hO h16 H ⟨Or.inl rfl, fun _ => hq, fun q => by omega⟩⟩
/-- the search, and the best column that wants goods -/
theorem X9_findWay {n : Int} {M : Mem} {π : Int → Int} {post : Int → Mem → Prop} (hn : 0 ≤ n ∧ n ≤ 10) (e0 : M 0 0 = n) (hD : ∀ u v : Int, 0 ≤ u → u < n → 0 ≤ v → v < n → 0 ≤ M 10 (10 * u + v) ∧ M 10 (10 * u + v) ≤ 9000) (hF : ∀ u v : Int, 0 ≤ u → u < n → 0 ≤ v → v < n → 0 ≤ M 11 (10 * u + v) ∧ M 11 (10 * u + v) ≤ 1000) (hπ : PotOk 200 rT rQ (rP n (M 10)) (rR n CM (M 11)) π) (hπ0 : ∀ x : Int, 0 ≤ x → x < 20 → 0 ≤ π x) (hr : ∀ u : Int, 0 ≤ u → u < n → 0 < M 12 u → π u ≤ 0)
    (h : ∀ (to : Int) (M' : Mem) (ra : Int → Int), OffW M M' → C16 n M' → FinR n M π M' ra → (to = -1 ∧ (∀ v : Int, 0 ≤ v → v < n → 0 < M 13 v → 1000000000 ≤ M' 15 (10 + v))) ∨ (0 ≤ to ∧ to < n ∧ 0 < M 13 to ∧ M' 15 (10 + to) < 1000000000 ∧ ∀ v : Int, 0 ≤ v → v < n → 0 < M 13 v → M' 15 (10 + to) ≤ M' 15 (10 + v)) → post to M') : wpX9_findWay M post := by
  have hA := r_arcs hD
  -- the choice
  have choose : ∀ (N : Mem) (ra : Int → Int), OffW M N → C16 n N → FinR n M π N ra → ∃ j, lpX9_findWay_263 post j (-1) 0 N := by
    intro N ra hO h16 F
    have r0 : N 0 0 = n := by rw [hO 0 (by omega) (by omega), e0]
    have r13 : N 13 = M 13 := hO 13 (by omega) (by omega)
    have key : ∀ (f : Nat) (b x : Int), 0 ≤ x → x ≤ n → n - x < f → ((b = -1 ∧ ∀ v : Int, 0 ≤ v → v < x → 0 < M 13 v → 1000000000 ≤ N 15 (10 + v)) ∨ (0 ≤ b ∧ b < n ∧ 0 < M 13 b ∧ N 15 (10 + b) < 1000000000 ∧ ∀ v : Int, 0 ≤ v → v < x → 0 < M 13 v → N 15 (10 + b) ≤ N 15 (10 + v))) → lpX9_findWay_263 post f b x N := by
      intro f
      induction f with
      | zero => intro b x _ _ g; omega
      | succ f ih =>
        intro b x x0 x1 hf hb
        unfold lpX9_findWay_263
        rw [r0, r13]
        refine ⟨fun g => ?_, fun g => ?_⟩
        · have e : x = n := by omega
          subst e
          exact h b N ra hO h16 F hb
        · have old : (0 < M 13 x → 1000000000 ≤ N 15 (10 + x) ∨ (b ≠ -1 ∧ N 15 (10 + b) ≤ N 15 (10 + x))) → lpX9_findWay_263 post f b (x + 1) N := fun hh => ih b (x + 1) (by omega) (by omega) (by omega) (by
            rcases hb with ⟨b1, b2⟩ | ⟨b1, b2, b3, b4, b5⟩
            · refine Or.inl ⟨b1, fun v v0 v1 v2 => ?_⟩
              by_cases c : v = x
              · subst c
                rcases hh v2 with q | q
                · exact q
                · exact absurd b1 q.1
              · exact b2 v v0 (by omega) v2
            · refine Or.inr ⟨b1, b2, b3, b4, fun v v0 v1 v2 => ?_⟩
              by_cases c : v = x
              · subst c
                rcases hh v2 with q | q <;> omega
              · exact b5 v v0 (by omega) v2)
          have new : 0 < M 13 x → N 15 (10 + x) < 1000000000 → (b = -1 ∨ N 15 (10 + x) < N 15 (10 + b)) → lpX9_findWay_263 post f x (x + 1) N := fun a1 a2 a3 => ih x (x + 1) (by omega) (by omega) (by omega) (Or.inr ⟨x0, by omega, a1, a2, fun v v0 v1 v2 => by
            by_cases c : v = x
            · subst c; exact Int.le_refl _
            · rcases hb with ⟨b1, b2⟩ | ⟨b1, b2, b3, b4, b5⟩
              · have := b2 v v0 (by omega) v2; omega
              · have := b5 v v0 (by omega) v2; omega⟩)
          unfold jbX9_findWay_298 jbX9_findWay_299 jbX9_findWay_336 jbX9_findWay_332 jbX9_findWay_337
          refine ⟨by omega, fun g1 => ⟨fun _ => ⟨by omega, old (fun q => by omega)⟩, fun q => absurd rfl q⟩, fun g1 => ⟨by omega, fun g2 => ⟨fun _ => ⟨by omega, old (fun _ => Or.inl g2)⟩, fun q => absurd rfl q⟩, fun g2 => ⟨fun q => by omega, fun _ => ⟨fun g3 => ⟨by omega, new (by omega) (by omega) (Or.inl g3)⟩, fun g3 => ?_⟩⟩⟩⟩
          have hb1 : 0 ≤ b ∧ b < n := by
            rcases hb with ⟨b1, b2⟩ | ⟨b1, b2, b3, b4, b5⟩
            · exact absurd b1 g3
            · exact ⟨b1, b2⟩
          exact ⟨by omega, by omega, fun g4 => ⟨by omega, old (fun _ => Or.inr ⟨g3, g4⟩)⟩, fun g4 => ⟨by omega, new (by omega) (by omega) (Or.inr (by omega))⟩⟩
    exact ⟨11, key 11 (-1) 0 (by omega) (by omega) (by omega) (Or.inl ⟨rfl, fun v _ _ => by omega⟩)⟩
  -- the rounds
  have rounds : ∀ (f : Nat) (k : Int) (N : Mem) (s q : Int → Int) (t : Int), 1 ≤ k → 22 - k < f → OffW M N → C16 n N → BfR n M π k 0 N s q t → (∀ x : Int, 0 ≤ x → x < 20 → q x < k) → (2 ≤ k → ∃ x : Int, 0 ≤ x ∧ x < 20 ∧ rd n 1000000000 (N 15) x < 1000000000 ∧ q x = k - 1) → lpX9_findWay_67 post f 1 N := by
    intro f
    induction f with
    | zero =>
      intro k N s q t k1 hf hO h16 H hq hx
      obtain ⟨x, x0, x1, x2, x3⟩ := hx (by omega)
      have := bf_q2 hA hπ H x0 x1 x2
      omega
    | succ f ih =>
      intro k N s q t k1 hf hO h16 H hq hx
      have hk20 : k ≤ 20 := by
        by_cases c : 2 ≤ k
        · obtain ⟨x, x0, x1, x2, x3⟩ := hx c
          have := bf_q2 hA hπ H x0 x1 x2
          omega
        · omega
      unfold lpX9_findWay_67
      refine ⟨fun q => by omega, fun _ => ?_⟩
      refine fw_round hn e0 hD hF hπ hπ0 k1 hO h16 H hq (fun c N2 s2 q2 t2 hO2 h162 H2 hc => ?_)
      obtain ⟨c1, c2, c3⟩ := hc
      rcases c1 with c1 | c1
      · subst c1
        obtain ⟨ra, F⟩ := bf_end (by omega) (by omega) (by omega) hA hπ H2 (fun y y0 y1 _ => c2 rfl y y0 y1)
        cases f with
        | zero => omega
        | succ f =>
          show lpX9_findWay_67 post (f + 1) 0 N2
          unfold lpX9_findWay_67
          exact ⟨fun _ => choose N2 ra hO2 h162 F, fun q => absurd rfl q⟩
      · subst c1
        refine ih (k + 1) N2 s2 q2 t2 (by omega) (by omega) hO2 h162 (bf_round H2) (fun y y0 y1 => ?_) (fun _ => ?_)
        · have := (H2.1 y y0 y1).2.2.2.2.1
          omega
        · obtain ⟨x, x0, x1, x2, x3⟩ := c3 rfl
          exact ⟨x, x0, x1, x2, by omega⟩
  -- the start
  have key : ∀ (f : Nat) (x : Int) (N : Mem), 0 ≤ x → x ≤ n → n - x < f → OffW M N → (∀ u : Int, 0 ≤ u → u < x → N 15 u = (if 0 < M 12 u then 0 else 1000000000) ∧ N 15 (10 + u) = 1000000000 ∧ N 16 u = -1 ∧ N 16 (10 + u) = -1) → lpX9_findWay_2 post f x N := by
    intro f
    induction f with
    | zero => intro x N _ _ g; omega
    | succ f ih =>
      intro x N x0 x1 hf hO hI
      have r0 : N 0 0 = n := by rw [hO 0 (by omega) (by omega), e0]
      have r12 : N 12 = M 12 := hO 12 (by omega) (by omega)
      unfold lpX9_findWay_2 jbX9_findWay_30
      rw [r0, r12]
      have nxt : ∀ (t : Int) (N1 N2 N3 N4 : Mem), x < n → t = (if 0 < M 12 x then 0 else 1000000000) → N1 = mset N 15 x t → N2 = mset N1 15 (10 + x) 1000000000 → N3 = mset N2 16 x (-1) → N4 = mset N3 16 (10 + x) (-1) → lpX9_findWay_2 post f (x + 1) N4 := fun t N1 N2 N3 N4 hx ht a1 a2 a3 a4 => by
        have d4 : N4 15 = up (up (N 15) x t) (10 + x) 1000000000 := by rw [a4, row_ne (by omega), a3, row_ne (by omega), a2, row_up, a1, row_up]
        have c4 : N4 16 = up (up (N 16) x (-1)) (10 + x) (-1) := by rw [a4, row_up, a3, row_up, a2, row_ne (by omega), a1, row_ne (by omega)]
        refine ih (x + 1) N4 (by omega) (by omega) (by omega) (fun k p1 p2 => by rw [a4, row_ne p2, a3, row_ne p2, a2, row_ne p1, a1, row_ne p1]; exact hO k p1 p2) (fun u u0 u1 => ?_)
        rw [d4, c4]
        by_cases c : u = x
        · subst c
          rw [up_n (by omega), up_s, up_s, up_n (by omega), up_s, up_s]
          exact ⟨ht, rfl, rfl, rfl⟩
        · have := hI u u0 (by omega)
          rw [up_n (by omega), up_n c, up_n (by omega), up_n (by omega), up_n (by omega), up_n c, up_n (by omega), up_n (by omega)]
          exact this
      refine ⟨fun g => ?_, fun g => ⟨by omega, fun g1 => ⟨by omega, fun N1 a1 => ⟨by omega, fun N2 a2 => ⟨by omega, fun N3 a3 => ⟨by omega, fun N4 a4 => ⟨by omega, nxt _ N1 N2 N3 N4 (by omega) (by rw [if_neg (by omega)]) a1 a2 a3 a4⟩⟩⟩⟩⟩, fun g1 => ⟨by omega, fun N1 a1 => ⟨by omega, fun N2 a2 => ⟨by omega, fun N3 a3 => ⟨by omega, fun N4 a4 => ⟨by omega, nxt _ N1 N2 N3 N4 (by omega) (by rw [if_pos (by omega)]) a1 a2 a3 a4⟩⟩⟩⟩⟩⟩⟩
      have e : x = n := by omega
      subst e
      refine ⟨23, rounds 23 1 N (fun _ => 0) (fun _ => 0) 1 (by omega) (by omega) hO (fun y hy => ?_) (bf_start (by omega) (by omega) (fun y y0 y1 => ?_)) (fun _ _ _ => by show (0 : Int) < 1; omega) (fun q => by omega)⟩
      · rcases hy with hy | hy
        · rw [(hI y hy.1 hy.2).2.2.1]; omega
        · have := (hI (y - 10) (by omega) (by omega)).2.2.2
          rw [show 10 + (y - 10) = y by omega] at this
          omega
      · by_cases c1 : y < x
        · obtain ⟨g1, g2, g3, g4⟩ := hI y y0 c1
          rw [rd_in (Or.inl c1), g1]
          refine ⟨fun q => ⟨if_pos q.2.2, hr y y0 c1 q.2.2⟩, fun q => ?_, fun _ => rl_n g3⟩
          rw [if_neg (fun q2 => q ⟨y0, c1, q2⟩)]
        · by_cases c2 : 10 ≤ y ∧ y < 10 + x
          · obtain ⟨g1, g2, g3, g4⟩ := hI (y - 10) (by omega) (by omega)
            rw [show 10 + (y - 10) = y by omega] at g2 g4
            rw [rd_in (Or.inr c2), g2]
            exact ⟨fun q => by omega, fun _ => rfl, fun _ => rl_n g4⟩
          · exact ⟨fun q => absurd q.2.1 c1, fun _ => if_neg (fun q => by omega), fun q => absurd q.2.1 c1⟩
  exact ⟨11, key 11 0 M (by omega) (by omega) (by omega) (fun _ _ _ => rfl) (fun u _ _ => by omega)⟩
