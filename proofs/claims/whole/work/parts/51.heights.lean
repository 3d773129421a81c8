/-! heights: cell c = 10 u + v has the arcs 2 c (from v to u, at the distance) and 2 c + 1 (from u to v, at minus it, where goods go) -/
def hT (n e : Int) : Int := if e / 20 < n ∧ (e / 2) % 10 < n then (if e % 2 = 0 then (e / 2) % 10 else e / 20) else 0
def hQ (n e : Int) : Int := if e / 20 < n ∧ (e / 2) % 10 < n then (if e % 2 = 0 then e / 20 else (e / 2) % 10) else 0
def hP (n : Int) (δ : Int → Int → Int) (e : Int) : Int := if e / 20 < n ∧ (e / 2) % 10 < n then (if e % 2 = 0 then δ (e / 20) ((e / 2) % 10) else - δ (e / 20) ((e / 2) % 10)) else 0
def hR (n : Int) (G : Int → Int → Int) (e : Int) : Int := if e / 20 < n ∧ (e / 2) % 10 < n then (if e % 2 = 0 then 1 else G (e / 20) ((e / 2) % 10)) else 0
/-- heights that keep to all bounds -/
def Hfe (n : Int) (δ G : Int → Int → Int) (H : Int → Int) : Prop := (∀ u v : Int, 0 ≤ u → u < n → 0 ≤ v → v < n → H u ≤ H v + δ u v ∧ (0 < G u v → H v ≤ H u - δ u v)) ∧ (0 < n → H 0 = 0)
theorem h_even {n u v : Int} (v0 : 0 ≤ v) (u1 : u < n) (v1 : v < n) (hn : n ≤ 10) : hT n (2 * (10 * u + v)) = v ∧ hQ n (2 * (10 * u + v)) = u ∧ (∀ δ : Int → Int → Int, hP n δ (2 * (10 * u + v)) = δ u v) ∧ ∀ G : Int → Int → Int, hR n G (2 * (10 * u + v)) = 1 := by
  have c : 2 * (10 * u + v) / 20 < n ∧ (2 * (10 * u + v) / 2) % 10 < n := by omega
  have e : 2 * (10 * u + v) % 2 = 0 := by omega
  have e1 : 2 * (10 * u + v) / 20 = u := by omega
  have e2 : (2 * (10 * u + v) / 2) % 10 = v := by omega
  unfold hT hQ hP hR
  refine ⟨?_, ?_, fun δ => ?_, fun G => ?_⟩
  · rw [if_pos c, if_pos e, e2]
  · rw [if_pos c, if_pos e, e1]
  · rw [if_pos c, if_pos e, e1, e2]
  · rw [if_pos c, if_pos e]
theorem h_odd {n u v : Int} (v0 : 0 ≤ v) (u1 : u < n) (v1 : v < n) (hn : n ≤ 10) : hT n (2 * (10 * u + v) + 1) = u ∧ hQ n (2 * (10 * u + v) + 1) = v ∧ (∀ δ : Int → Int → Int, hP n δ (2 * (10 * u + v) + 1) = - δ u v) ∧ ∀ G : Int → Int → Int, hR n G (2 * (10 * u + v) + 1) = G u v := by
  have c : (2 * (10 * u + v) + 1) / 20 < n ∧ ((2 * (10 * u + v) + 1) / 2) % 10 < n := by omega
  have e : ¬ (2 * (10 * u + v) + 1) % 2 = 0 := by omega
  have e1 : (2 * (10 * u + v) + 1) / 20 = u := by omega
  have e2 : ((2 * (10 * u + v) + 1) / 2) % 10 = v := by omega
  unfold hT hQ hP hR
  refine ⟨?_, ?_, fun δ => ?_, fun G => ?_⟩
  · rw [if_pos c, if_neg e, e1]
  · rw [if_pos c, if_neg e, e2]
  · rw [if_pos c, if_neg e, e1, e2]
  · rw [if_pos c, if_neg e, e1, e2]
theorem h_arcs {n : Int} {δ : Int → Int → Int} (hn : 0 < n) (hδ : Mtr n δ) : ArcOk n 200 9000 (hT n) (hQ n) (hP n δ) := by
  intro e e0 e1
  unfold hT hQ hP
  by_cases c : e / 20 < n ∧ (e / 2) % 10 < n
  · have := hδ.2.1 (e / 20) ((e / 2) % 10) (by omega) c.1 (by omega) c.2
    rw [if_pos c, if_pos c, if_pos c]
    by_cases q : e % 2 = 0
    · rw [if_pos q, if_pos q, if_pos q]; omega
    · rw [if_neg q, if_neg q, if_neg q]; omega
  · rw [if_neg c, if_neg c, if_neg c]; omega
theorem h_pot {n : Int} {δ G : Int → Int → Int} {H : Int → Int} (h : Hfe n δ G H) : PotOk 200 (hT n) (hQ n) (hP n δ) (hR n G) H := by
  intro e e0 e1 e2
  unfold hR at e2
  unfold hT hQ hP
  by_cases c : e / 20 < n ∧ (e / 2) % 10 < n
  · rw [if_pos c] at e2
    rw [if_pos c, if_pos c, if_pos c]
    have t := h.1 (e / 20) ((e / 2) % 10) (by omega) c.1 (by omega) c.2
    by_cases q : e % 2 = 0
    · rw [if_pos q, if_pos q, if_pos q]; exact t.1
    · rw [if_neg q] at e2
      rw [if_neg q, if_neg q, if_neg q]
      have := t.2 e2
      omega
  · rw [if_neg c] at e2; omega
theorem h_out {n : Int} {G : Int → Int → Int} {e : Int} (h : ¬ (e / 20 < n ∧ (e / 2) % 10 < n)) : hR n G e ≤ 0 := by
  unfold hR; rw [if_neg h]; exact Int.le_refl _
/-- any heights that keep to the bounds are no higher than what a search leaves -/
theorem bff_great {J N B K : Int} {T Q P R π σ : Int → Int} {root : Int → Prop} {d la ra : Int → Int} (hA : ArcOk J N B T Q P) (F : BfF J N B K T Q P R π root d la ra) (hσ : PotOk N T Q P R σ) (hr : ∀ x : Int, root x → σ x ≤ 0) : ∀ (m : Nat) (x : Int), 0 ≤ x → x < J → d x < K → ra x < m → σ x ≤ d x := by
  intro m
  induction m with
  | zero => intro x x0 x1 _ h; have := (F.1 x x0 x1).2.2.2; omega
  | succ m ih =>
    intro x x0 x1 hx hm
    rcases F.2.1 x x0 x1 hx with g | ⟨g1, g2, g3, g4, g5, g6, g7⟩
    · have := hr x g.2.1; omega
    · obtain ⟨a1, a2, _⟩ := hA (la x) g1 g2
      have h1 := ih (T (la x)) a1 a2 g5 (by omega)
      have h2 := hσ (la x) g1 g2 g4
      rw [g3] at h2
      omega
abbrev BfH (n K : Int) (δ G : Int → Int → Int) (π : Int → Int) (k j : Int) (d la s q : Int → Int) (t : Int) : Prop := BfI n 200 9000 K (hT n) (hQ n) (hP n δ) (hR n G) π (fun x => x = 0) k j d la s q t
/-- the greatest heights that keep to the bounds -/
def Hgr (n : Int) (δ G : Int → Int → Int) (H : Int → Int) : Prop := Hfe n δ G H ∧ ∀ I : Int → Int, Hfe n δ G I → ∀ x : Int, 0 ≤ x → x < n → I x ≤ H x
theorem h_fin {n K : Int} {δ G : Int → Int → Int} {π d la ra : Int → Int} (hn : 0 < n ∧ n ≤ 10) (hK : 0 < K) (hδ : Mtr n δ) (hπ : Hfe n δ G π) (F : BfF n 200 9000 K (hT n) (hQ n) (hP n δ) (hR n G) π (fun x => x = 0) d la ra) : Hgr n δ G d := by
  have d0 : d 0 ≤ 0 := (F.1 0 (by omega) hn.1).2.2.1 rfl
  have reach : ∀ u : Int, 0 ≤ u → u < n → d u < K := fun u a b => by
    have h := F.2.2 (2 * (10 * u + 0)) (by omega) (by omega) (by rw [(h_even (by omega) b hn.1 hn.2).2.2.2]; omega) (by rw [(h_even (by omega) b hn.1 hn.2).1]; omega)
    rw [(h_even (by omega) b hn.1 hn.2).2.1] at h
    exact h.1
  refine ⟨⟨fun u v a b c e => ⟨?_, fun q => ?_⟩, fun _ => ?_⟩, fun I hI x x0 x1 => ?_⟩
  · have h := (F.2.2 (2 * (10 * u + v)) (by omega) (by omega) (by rw [(h_even c b e hn.2).2.2.2]; omega) (by rw [(h_even c b e hn.2).1]; exact reach v c e)).2
    rw [(h_even c b e hn.2).1, (h_even c b e hn.2).2.1, (h_even c b e hn.2).2.2.1] at h
    exact h
  · have h := (F.2.2 (2 * (10 * u + v) + 1) (by omega) (by omega) (by rw [(h_odd c b e hn.2).2.2.2]; exact q) (by rw [(h_odd c b e hn.2).1]; exact reach u a b)).2
    rw [(h_odd c b e hn.2).1, (h_odd c b e hn.2).2.1, (h_odd c b e hn.2).2.2.1] at h
    omega
  · have h1 := ((F.1 0 (by omega) hn.1).2.1 (reach 0 (by omega) hn.1)).1
    have h2 := hπ.2 hn.1
    omega
  · have hr := (F.1 x x0 x1).2.2.2
    exact bff_great (h_arcs hn.1 hδ) F (h_pot hI) (fun y hy => by rw [hy, hI.2 hn.1]; exact Int.le_refl _) ((ra x).toNat + 1) x x0 x1 (reach x x0 x1) (by omega)
/-- heights that keep to the bounds are near 0 -/
theorem hfe_low {n : Int} {δ G : Int → Int → Int} {π : Int → Int} (hn : 0 < n) (hδ : Mtr n δ) (h : Hfe n δ G π) : ∀ x : Int, 0 ≤ x → x < n → -9000 ≤ π x := fun x x0 x1 => by
  have h1 := (h.1 0 x (by omega) hn x0 x1).1
  have h2 := hδ.2.1 0 x (by omega) hn x0 x1
  have h3 := h.2 hn
  omega
def Off23 (M M' : Mem) : Prop := ∀ k : Int, k ≠ 23 → M' k = M k
theorem X6_lower {n k t : Int} {δ G : Int → Int → Int} {M0 M : Mem} {π la s q : Int → Int} {post : Int → Mem → Prop} (hn : 0 < n ∧ n ≤ 10) (e0 : M0 1 0 = n) (hδ : Mtr n δ) (eδ : ∀ u v : Int, 0 ≤ u → u < n → 0 ≤ v → v < n → M0 (50 + u) v = δ u v) (eG : ∀ u v : Int, 0 ≤ u → u < n → 0 ≤ v → v < n → M0 (70 + u) v = G u v) (hπ : Hfe n δ G π) (hk : 1 ≤ k) (hO : Off23 M0 M) (hlt : ∀ x : Int, 0 ≤ x → x < n → M 23 x < 1000000) (H : BfH n 1000000 δ G π k 0 (M 23) la s q t) (hq : ∀ x : Int, 0 ≤ x → x < n → q x < k)
    (h : ∀ (c : Int) (M' : Mem) (la s q : Int → Int) (t : Int), Off23 M0 M' → (∀ x : Int, 0 ≤ x → x < n → M' 23 x < 1000000) → BfH n 1000000 δ G π k 200 (M' 23) la s q t → (c = 0 ∨ c = 1) → (c = 0 → ∀ x : Int, 0 ≤ x → x < n → q x < k) → (c = 1 → ∃ x : Int, 0 ≤ x ∧ x < n ∧ q x = k) → post c M') : wpX6_lowerHeights M post := by
  have hA := h_arcs hn.1 hδ
  have hp := h_pot hπ
  have low : ∀ (j : Int) (N : Mem) (la s q : Int → Int) (t : Int), (∀ x : Int, 0 ≤ x → x < n → N 23 x < 1000000) → BfH n 1000000 δ G π k j (N 23) la s q t → ∀ x : Int, 0 ≤ x → x < n → -9000 ≤ N 23 x ∧ N 23 x ≤ 90000 := fun j N la s q t hl H x x0 x1 => by
    have h1 := (H.1 x x0 x1).2.1 (hl x x0 x1)
    have h2 := hfe_low hn.1 hδ hπ x x0 x1
    have h3 := cn_le (n := n) (by omega) (fun y => N 23 y < 1000000)
    omega
  have key : ∀ (f : Nat) (c u : Int) (N : Mem) (la s q : Int → Int) (t : Int), 0 ≤ u → u ≤ n → n - u < f → Off23 M0 N → (∀ x : Int, 0 ≤ x → x < n → N 23 x < 1000000) → BfH n 1000000 δ G π k (20 * u) (N 23) la s q t → (c = 0 ∨ c = 1) → (c = 0 → ∀ x : Int, 0 ≤ x → x < n → q x < k) → (c = 1 → ∃ x : Int, 0 ≤ x ∧ x < n ∧ q x = k) → lpX6_lowerHeights_4 post f c u N := by
    intro f
    induction f with
    | zero => intro c u N la s q t _ _ g; omega
    | succ f ih =>
      intro c u N la s q t u0 u1 hf hO hlt H hc hc0 hc1
      unfold lpX6_lowerHeights_4
      rw [hO 1 (by omega), e0]
      refine ⟨fun g => ?_, fun g => ?_⟩
      · have := bf_skips H (200 - 20 * u).toNat (fun e' a b => h_out (by omega))
        rw [show 20 * u + ((200 - 20 * u).toNat : Int) = 200 by omega] at this
        exact ⟨hc, h c N la s q t hO hlt this hc hc0 hc1⟩
      · have key2 : ∀ (f2 : Nat) (c v : Int) (N : Mem) (la s q : Int → Int) (t : Int), 0 ≤ v → v ≤ n → n - v < f2 → Off23 M0 N → (∀ x : Int, 0 ≤ x → x < n → N 23 x < 1000000) → BfH n 1000000 δ G π k (2 * (10 * u + v)) (N 23) la s q t → (c = 0 ∨ c = 1) → (c = 0 → ∀ x : Int, 0 ≤ x → x < n → q x < k) → (c = 1 → ∃ x : Int, 0 ≤ x ∧ x < n ∧ q x = k) → lpX6_lowerHeights_15 post (fun y2 y3 N => lpX6_lowerHeights_4 post f y2 y3 N) f2 c u v N := by
          intro f2
          induction f2 with
          | zero => intro c v N la s q t _ _ g; omega
          | succ f2 ih2 =>
            intro c v N la s q t v0 v1 hf2 hO hlt H hc hc0 hc1
            unfold lpX6_lowerHeights_15
            rw [hO 1 (by omega), e0, hO (50 + u) (by omega)]
            refine ⟨fun g2 => ⟨by omega, ?_⟩, fun g2 => ?_⟩
            · have := bf_skips H (20 * (u + 1) - 2 * (10 * u + v)).toNat (fun e' a b => h_out (by omega))
              rw [show 2 * (10 * u + v) + ((20 * (u + 1) - 2 * (10 * u + v)).toNat : Int) = 20 * (u + 1) by omega] at this
              exact ih c (u + 1) N la s q t (by omega) (by omega) (by omega) hO hlt this hc hc0 hc1
            · have hun : u < n := by omega
              have hvn : v < n := by omega
              have dd := hδ.2.1 u v u0 hun v0 hvn
              obtain ⟨p1, p2, p3, p4⟩ := h_even (u := u) v0 hun hvn hn.2
              obtain ⟨r1, r2, r3, r4⟩ := h_odd (u := u) v0 hun hvn hn.2
              have second : ∀ (c : Int) (N : Mem) (la s q : Int → Int) (t : Int), Off23 M0 N → (∀ x : Int, 0 ≤ x → x < n → N 23 x < 1000000) → BfH n 1000000 δ G π k (2 * (10 * u + v) + 1) (N 23) la s q t → (c = 0 ∨ c = 1) → (c = 0 → ∀ x : Int, 0 ≤ x → x < n → q x < k) → (c = 1 → ∃ x : Int, 0 ≤ x ∧ x < n ∧ q x = k) → jbX6_lowerHeights_72 post (fun y2 y3 N => lpX6_lowerHeights_4 post f y2 y3 N) (fun y2 y3 y4 N => lpX6_lowerHeights_15 post (fun y2 y3 N => lpX6_lowerHeights_4 post f y2 y3 N) f2 y2 y3 y4 N) c u v (δ u v) N := by
                intro c N la s q t hO hlt H hc hc0 hc1
                have lo1 := low _ N la s q t hlt H u u0 hun
                have skip : (0 < G u v → N 23 v ≤ N 23 u - δ u v) → inR (v + 1) ∧ lpX6_lowerHeights_15 post (fun y2 y3 N => lpX6_lowerHeights_4 post f y2 y3 N) f2 c u (v + 1) N := fun hh => by
                  have := bf_skip H (by
                    rw [r1, r2, r3, r4]
                    intro a b
                    have := hh a
                    omega)
                  rw [show 2 * (10 * u + v) + 1 + 1 = 2 * (10 * u + (v + 1)) by omega] at this
                  exact ⟨by omega, ih2 c (v + 1) N la s q t (by omega) (by omega) (by omega) hO hlt this hc hc0 hc1⟩
                unfold jbX6_lowerHeights_72 jbX6_lowerHeights_121
                rw [hO (70 + u) (by omega), eG u v u0 hun v0 hvn]
                refine ⟨by omega, by omega, fun g3 => skip (fun a => by omega), fun g3 => ⟨by omega, by omega, by omega, fun g4 => skip (fun _ => g4), fun g4 => ⟨by omega, by omega, fun N1 e1 => ⟨by omega, ?_⟩⟩⟩⟩
                obtain ⟨H2, H3⟩ := bf_lower (by omega) (by omega) (by omega) hA hp hk (by omega) (by omega) H (by rw [r4]; omega) (by rw [r1]; exact hlt u u0 hun) (by rw [r1, r2, r3]; omega)
                rw [r1, r2, r3] at H2
                have d2 : N1 23 = up (N 23) v (N 23 u + -δ u v) := by rw [e1, row_up]; rfl
                rw [← d2, show 2 * (10 * u + v) + 1 + 1 = 2 * (10 * u + (v + 1)) by omega] at H2
                refine ih2 1 (v + 1) N1 _ _ _ _ (by omega) (by omega) (by omega) (fun k p1 => by rw [e1, row_ne p1]; exact hO k p1) (fun x x0 x1 => by
                  rw [d2]
                  by_cases c1 : x = v
                  · rw [c1, up_s]; omega
                  · rw [up_n c1]; exact hlt x x0 x1) H2 (Or.inr rfl) (fun q => by omega) (fun _ => ⟨v, v0, hvn, up_s _ _ _⟩)
              refine ⟨by omega, by omega, fun w hw => ?_⟩
              rw [eδ u v u0 hun v0 hvn] at hw
              subst hw
              have lo2 := low _ N la s q t hlt H v v0 hvn
              refine ⟨by omega, by omega, by omega, fun g3 => second c N la s q t hO hlt (bf_skip H (by rw [p1, p2, p3]; exact fun _ _ => g3)) hc hc0 hc1, fun g3 => ⟨by omega, by omega, fun N1 e1 => ?_⟩⟩
              obtain ⟨H2, H3⟩ := bf_lower (by omega) (by omega) (by omega) hA hp hk (by omega) (by omega) H (by rw [p4]; omega) (by rw [p1]; exact hlt v v0 hvn) (by rw [p1, p2, p3]; omega)
              rw [p1, p2, p3] at H2
              have d2 : N1 23 = up (N 23) u (N 23 v + δ u v) := by rw [e1, row_up]
              rw [← d2] at H2
              exact second 1 N1 _ _ _ _ (fun k p1 => by rw [e1, row_ne p1]; exact hO k p1) (fun x x0 x1 => by
                rw [d2]
                by_cases c1 : x = u
                · rw [c1, up_s]; have := hlt u u0 hun; omega
                · rw [up_n c1]; exact hlt x x0 x1) H2 (Or.inr rfl) (fun q => by omega) (fun _ => ⟨u, u0, hun, up_s _ _ _⟩)
        exact ⟨11, key2 11 c 0 N la s q t (by omega) (by omega) (by omega) hO hlt (by rw [show 2 * (10 * u + 0) = 20 * u by omega]; exact H) hc hc0 hc1⟩
  exact ⟨11, key 11 0 0 M la s q t (by omega) (by omega) (by omega) hO hlt H (Or.inl rfl) (fun _ => hq) (fun q => by omega)⟩
theorem X6_raise {n : Int} {δ G : Int → Int → Int} {M : Mem} {π : Int → Int} {post : Mem → Prop} (hn : 0 ≤ n ∧ n ≤ 10) (e0 : M 1 0 = n) (hδ : Mtr n δ) (eδ : ∀ u v : Int, 0 ≤ u → u < n → 0 ≤ v → v < n → M (50 + u) v = δ u v) (eG : ∀ u v : Int, 0 ≤ u → u < n → 0 ≤ v → v < n → M (70 + u) v = G u v) (hπ : Hfe n δ G π)
    (h : ∀ M' : Mem, Off23 M M' → Hgr n δ G (M' 23) → post M') : wpX6_raiseHeights M post := by
  by_cases hn0 : 0 < n
  · have hn' : 0 < n ∧ n ≤ 10 := ⟨hn0, hn.2⟩
    have hA := h_arcs hn0 hδ
    have hp := h_pot hπ
    have key2 : ∀ (f : Nat) (x : Int) (N : Mem) (la s q : Int → Int) (t : Int), 0 ≤ x → x ≤ n → n - x < f → Off23 M N → (∀ x : Int, 0 ≤ x → x < n → N 23 x < 1000000) → BfH n 1000000 δ G π (x + 1) 0 (N 23) la s q t → (∀ y : Int, 0 ≤ y → y < n → q y < x + 1) → (1 ≤ x → ∃ y : Int, 0 ≤ y ∧ y < n ∧ q y = x) → lpX6_raiseHeights_32 post f x N := by
      intro f
      induction f with
      | zero => intro x N la s q t _ _ g; omega
      | succ f ih =>
        intro x N la s q t x0 x1 hf hO hlt H hq hx
        unfold lpX6_raiseHeights_32 jbX6_raiseHeights_57
        rw [hO 1 (by omega), e0]
        refine ⟨fun g => ?_, fun g => ?_⟩
        · obtain ⟨y, y0, y1, y2⟩ := hx (by omega)
          have := bf_q2 hA hp H y0 y1 (hlt y y0 y1)
          omega
        · refine X6_lower hn' e0 hδ eδ eG hπ (by omega) hO hlt H hq (fun c N2 la2 s2 q2 t2 hO2 hlt2 H2 hc hc0 hc1 => ⟨fun g2 => ⟨by omega, ?_⟩, fun g2 => ?_⟩)
          · have c1 : c = 1 := by
              rcases hc with r | r
              · exact absurd r g2
              · exact r
            refine ih (x + 1) N2 la2 s2 q2 t2 (by omega) (by omega) (by omega) hO2 hlt2 (bf_round H2) (fun y y0 y1 => ?_) (fun _ => hc1 c1)
            have := (H2.1 y y0 y1).2.2.2.2.1
            omega
          · obtain ⟨ra, F⟩ := bf_end (by omega) (by omega) (by omega) hA hp H2 (fun y y0 y1 _ => hc0 g2 y y0 y1)
            exact h N2 hO2 (h_fin hn' (by omega) hδ hπ F)
    have key : ∀ (f : Nat) (x : Int) (N : Mem), 0 ≤ x → x ≤ n → n - x < f → Off23 M N → (∀ u : Int, 0 ≤ u → u < x → N 23 u = δ u 0) → lpX6_raiseHeights_2 post f x N := by
      intro f
      induction f with
      | zero => intro x N _ _ g; omega
      | succ f ih =>
        intro x N x0 x1 hf hO hI
        unfold lpX6_raiseHeights_2
        rw [hO 1 (by omega), e0]
        refine ⟨fun g => ?_, fun g => ⟨by omega, by omega, fun N1 e1 => ⟨by omega, ?_⟩⟩⟩
        · have e : x = n := by omega
          subst e
          refine ⟨11, key2 11 0 N (fun v => if v = 0 then -1 else 2 * (10 * v + 0)) (fun v => if v = 0 then 0 else 1) (fun _ => 0) 2 (by omega) (by omega) (by omega) hO (fun y y0 y1 => by rw [hI y y0 y1]; have := hδ.2.1 y 0 y0 y1 (by omega) hn0; omega) ?_ (fun _ _ _ => by show (0 : Int) < 0 + 1; omega) (fun q => by omega)⟩
          have hall : cn x (fun y => N 23 y < 1000000) = x := by
            have h1 := cn_le hn.1 (fun y => N 23 y < 1000000)
            have h2 : cn x (fun _ => True) ≤ cn x (fun y => N 23 y < 1000000) := cn_mono (fun y y0 y1 _ => by show N 23 y < 1000000; rw [hI y y0 y1]; have := hδ.2.1 y 0 y0 y1 (by omega) hn0; omega)
            have h3 : ∀ m : Nat, cn m (fun _ => True) = m := by
              intro m
              induction m with
              | zero => rfl
              | succ m ihm =>
                have := cn_s (n := (m : Int)) (by omega) (fun _ => True)
                rw [if_pos trivial] at this
                have e : ((m + 1 : Nat) : Int) = (m : Int) + 1 := by omega
                rw [e, this, ihm]
            have h4 := h3 x.toNat
            rw [Int.toNat_of_nonneg hn.1] at h4
            omega
          refine ⟨fun y y0 y1 => ?_, fun y y0 y1 _ => ?_, fun e _ _ _ _ e4 => ?_⟩
          · have dy := hδ.2.1 y 0 y0 y1 (by omega) hn0
            rw [hI y y0 y1]
            refine ⟨by omega, fun _ => ⟨?_, by rw [hall]; omega⟩, by show (if y = 0 then (0 : Int) else 1) < 2; split <;> omega, Int.le_refl _, by show (0 : Int) ≤ 0 + 1; omega, fun r => by rw [r, hδ.1 0 (by omega) hn0]; exact Int.le_refl _⟩
            have := (hπ.1 y 0 y0 y1 (by omega) hn0).1
            have := hπ.2 hn0
            omega
          · by_cases c : y = 0
            · left
              subst c
              exact ⟨if_pos rfl, rfl, by rw [hI 0 (by omega) hn0]; exact hδ.1 0 (by omega) hn0, rfl⟩
            · right
              have eL : (fun v : Int => if v = 0 then (-1 : Int) else 2 * (10 * v + 0)) y = 2 * (10 * y + 0) := if_neg c
              rw [eL]
              obtain ⟨p1, p2, p3, p4⟩ := h_even (u := y) (v := 0) (by omega) y1 hn0 hn.2
              rw [p1, p2, p3, p4, hI 0 (by omega) hn0, hI y y0 y1, hδ.1 0 (by omega) hn0]
              exact ⟨by omega, by omega, rfl, by omega, by omega, by omega, by show (0 : Int) ≤ 0 + 1; omega, fun _ => by show (if (0 : Int) = 0 then (0 : Int) else 1) < (if y = 0 then (0 : Int) else 1); rw [if_pos rfl, if_neg c]; omega⟩
          · have e4 : (0 : Int) ≤ (if e < 0 then 0 + 1 - 1 else 0 + 1 - 2) := e4
            rw [if_neg (by omega)] at e4
            omega
        · refine ih (x + 1) N1 (by omega) (by omega) (by omega) (fun k hk => by rw [e1, row_ne hk]; exact hO k hk) (fun u u0 u1 => ?_)
          rw [hO (50 + x) (by omega), eδ x 0 x0 (by omega) (by omega) hn0] at e1
          by_cases c : u = x
          · rw [e1, c, mset_s]
          · rw [e1, mset_i c]; exact hI u u0 (by omega)
    exact ⟨11, key 11 0 M (by omega) (by omega) (by omega) (fun _ _ => rfl) (fun u _ _ => by omega)⟩
  · have hz : n = 0 := by omega
    refine ⟨1, ?_⟩
    unfold lpX6_raiseHeights_2
    rw [e0]
    refine ⟨fun _ => ⟨1, ?_⟩, fun g => by omega⟩
    unfold lpX6_raiseHeights_32 jbX6_raiseHeights_57
    rw [e0]
    refine ⟨fun _ => h M (fun _ _ => rfl) ⟨⟨fun u v a b => by omega, fun q => by omega⟩, fun I _ x a b => by omega⟩, fun g => by omega⟩
/-- the greatest heights are THE HEIGHTS -/
theorem hgr_hts {n : Int} {δ G : Int → Int → Int} {α β H : Int → Int} (ho : Opt n δ α β G) (h : Hgr n δ G H) : Hts n δ α β H := by
  refine ⟨⟨fun u v a b c d => ?_, h.1.2, G, ho.1, fun u v a b c d q => ?_⟩, fun I hI v a b => h.2 I ⟨fun u v a b c d => ⟨?_, fun q => ?_⟩, hI.2.1⟩ v a b⟩
  · have := (h.1.1 u v a b c d).1; omega
  · have h1 := (h.1.1 u v a b c d).1
    have h2 := (h.1.1 u v a b c d).2 q
    omega
  · have := hI.1 u v a b c d; omega
  · have := pv_tight hI ho u v a b c d q; omega
theorem pv_hfe {n : Int} {δ G : Int → Int → Int} {α β H : Int → Int} (ho : Opt n δ α β G) (h : Pv n δ α β H) : Hfe n δ G H := by
  refine ⟨fun u v a b c d => ⟨?_, fun q => ?_⟩, h.2.1⟩
  · have := h.1 u v a b c d; omega
  · have := pv_tight h ho u v a b c d q; omega
