/-! the reference's network of rows and columns: cell c = 10 u + v has the arcs 2 c (from u to 10 + v) and 2 c + 1 (back) -/
def rT (e : Int) : Int := if e % 2 = 0 then e / 20 else 10 + (e / 2) % 10
def rQ (e : Int) : Int := if e % 2 = 0 then 10 + (e / 2) % 10 else e / 20
def rP (n : Int) (D : Int → Int) (e : Int) : Int := if e / 20 < n ∧ (e / 2) % 10 < n then (if e % 2 = 0 then D (e / 2) else - D (e / 2)) else 0
def rR (n : Int) (C F : Int → Int) (e : Int) : Int := if e / 20 < n ∧ (e / 2) % 10 < n then (if e % 2 = 0 then C (e / 2) - F (e / 2) else F (e / 2)) else 0
/-- a row's or column's last arc, by the node that it was come to from -/
def rl (c : Int → Int) (x : Int) : Int := if c x = -1 then -1 else if x < 10 then 2 * (10 * x + c x) + 1 else 2 * (10 * c x + (x - 10))
theorem rl_n {c : Int → Int} {x : Int} (h : c x = -1) : rl c x = -1 := if_pos h
theorem r_prs (n : Int) (D : Int → Int) : PrsOk 200 rT rQ (rP n D) := by
  refine ⟨by decide, fun e e0 e1 => ?_⟩
  unfold rT rQ rP pr1
  by_cases c : e % 2 = 0
  · rw [if_pos c]
    have h2 : (e + 1) / 2 = e / 2 := by omega
    have h20 : (e + 1) / 20 = e / 20 := by omega
    have hm : ¬ (e + 1) % 2 = 0 := by omega
    rw [h2, h20]
    refine ⟨by rw [if_neg hm, if_pos c], by rw [if_neg hm, if_pos c], ?_⟩
    by_cases q : e / 20 < n ∧ (e / 2) % 10 < n
    · rw [if_pos q, if_pos q, if_neg hm, if_pos c]
    · rw [if_neg q, if_neg q]; rfl
  · rw [if_neg c]
    have h2 : (e - 1) / 2 = e / 2 := by omega
    have h20 : (e - 1) / 20 = e / 20 := by omega
    have hm : (e - 1) % 2 = 0 := by omega
    rw [h2, h20]
    refine ⟨by rw [if_pos hm, if_neg c], by rw [if_pos hm, if_neg c], ?_⟩
    by_cases q : e / 20 < n ∧ (e / 2) % 10 < n
    · rw [if_pos q, if_pos q, if_pos hm, if_neg c]; omega
    · rw [if_neg q, if_neg q]; rfl
theorem r_arcs {n : Int} {D : Int → Int} (hD : ∀ u v : Int, 0 ≤ u → u < n → 0 ≤ v → v < n → 0 ≤ D (10 * u + v) ∧ D (10 * u + v) ≤ 9000) : ArcOk 20 200 9000 rT rQ (rP n D) := by
  intro e e0 e1
  unfold rT rQ rP
  by_cases h : e / 20 < n ∧ (e / 2) % 10 < n
  · have h9 := hD (e / 20) ((e / 2) % 10) (by omega) h.1 (by omega) h.2
    rw [show 10 * (e / 20) + (e / 2) % 10 = e / 2 by omega] at h9
    rw [if_pos h]
    by_cases c : e % 2 = 0
    · rw [if_pos c, if_pos c, if_pos c]; omega
    · rw [if_neg c, if_neg c, if_neg c]; omega
  · rw [if_neg h]
    by_cases c : e % 2 = 0
    · rw [if_pos c, if_pos c]; omega
    · rw [if_neg c, if_neg c]; omega
theorem rT_f {u v : Int} (h0 : 0 ≤ v) (h1 : v < 10) : rT (2 * (10 * u + v)) = u ∧ rQ (2 * (10 * u + v)) = 10 + v := by
  unfold rT rQ
  rw [if_pos (by omega), if_pos (by omega)]
  omega
theorem rT_b {u v : Int} (h0 : 0 ≤ v) (h1 : v < 10) : rT (2 * (10 * u + v) + 1) = 10 + v ∧ rQ (2 * (10 * u + v) + 1) = u := by
  unfold rT rQ
  rw [if_neg (by omega), if_neg (by omega)]
  omega
theorem rR_f {n : Int} {C F : Int → Int} {u v : Int} (h0 : 0 ≤ v) (h1 : v < 10) (hu : u < n) (hv : v < n) : rR n C F (2 * (10 * u + v)) = C (10 * u + v) - F (10 * u + v) := by
  unfold rR
  rw [if_pos (by omega), if_pos (by omega), show 2 * (10 * u + v) / 2 = 10 * u + v by omega]
theorem rR_b {n : Int} {C F : Int → Int} {u v : Int} (h0 : 0 ≤ v) (h1 : v < 10) (hu : u < n) (hv : v < n) : rR n C F (2 * (10 * u + v) + 1) = F (10 * u + v) := by
  unfold rR
  rw [if_pos (by omega), if_neg (by omega), show (2 * (10 * u + v) + 1) / 2 = 10 * u + v by omega]
theorem rP_f {n : Int} {D : Int → Int} {u v : Int} (h0 : 0 ≤ v) (h1 : v < 10) (hu : u < n) (hv : v < n) : rP n D (2 * (10 * u + v)) = D (10 * u + v) := by
  unfold rP
  rw [if_pos (by omega), if_pos (by omega), show 2 * (10 * u + v) / 2 = 10 * u + v by omega]
theorem rP_b {n : Int} {D : Int → Int} {u v : Int} (h0 : 0 ≤ v) (h1 : v < 10) (hu : u < n) (hv : v < n) : rP n D (2 * (10 * u + v) + 1) = - D (10 * u + v) := by
  unfold rP
  rw [if_pos (by omega), if_neg (by omega), show (2 * (10 * u + v) + 1) / 2 = 10 * u + v by omega]
theorem rR_add {n : Int} {C F : Int → Int} {u v m : Int} (h0 : 0 ≤ v) (h1 : v < 10) (hu : u < n) (hv : v < n) : rR n C (up F (10 * u + v) (F (10 * u + v) + m)) = mv (rR n C F) (2 * (10 * u + v)) m := by
  funext e
  by_cases c1 : e = 2 * (10 * u + v)
  · subst c1
    rw [mv_e, rR_f h0 h1 hu hv, rR_f h0 h1 hu hv, up_s]; omega
  · by_cases c2 : e = 2 * (10 * u + v) + 1
    · subst c2
      rw [← pr1_e, mv_p, pr1_e, rR_b h0 h1 hu hv, rR_b h0 h1 hu hv, up_s]
    · rw [mv_n c1 (by rw [pr1_e]; exact c2)]
      unfold rR
      rw [up_n (by omega)]
theorem rR_sub {n : Int} {C F : Int → Int} {u v m : Int} (h0 : 0 ≤ v) (h1 : v < 10) (hu : u < n) (hv : v < n) : rR n C (up F (10 * u + v) (F (10 * u + v) - m)) = mv (rR n C F) (2 * (10 * u + v) + 1) m := by
  funext e
  by_cases c1 : e = 2 * (10 * u + v) + 1
  · subst c1
    rw [mv_e, rR_b h0 h1 hu hv, rR_b h0 h1 hu hv, up_s]
  · by_cases c2 : e = 2 * (10 * u + v)
    · subst c2
      have := mv_p (rR n C F) (2 * (10 * u + v) + 1) m
      rw [pr1_o] at this
      rw [this, rR_f h0 h1 hu hv, rR_f h0 h1 hu hv, up_s]; omega
    · rw [mv_n c1 (by rw [pr1_o]; exact c2)]
      unfold rR
      rw [up_n (by omega)]
/-- sums over the reference's arcs are sums over rows and columns -/
theorem su100 (f : Int → Int) : ∀ k : Nat, su (10 * (k : Int)) f = su k (fun u => su 10 (fun v => f (10 * u + v))) := by
  intro k
  induction k with
  | zero => rfl
  | succ k ih =>
    have e : su ((k + 1 : Nat) : Int) (fun u => su 10 (fun v => f (10 * u + v))) = su k (fun u => su 10 (fun v => f (10 * u + v))) + su 10 (fun v => f (10 * (k : Int) + v)) := su_s (n := (k : Int)) (by omega) _
    rw [e, ← ih]
    have t : ∀ j : Nat, su (10 * (k : Int) + j) f = su (10 * (k : Int)) f + su j (fun v => f (10 * (k : Int) + v)) := by
      intro j
      induction j with
      | zero => rw [show 10 * (k : Int) + ((0 : Nat) : Int) = 10 * k by omega, show ((0 : Nat) : Int) = 0 from rfl, su_0, Int.add_zero]
      | succ j ihj =>
        have e1 : su (10 * (k : Int) + ((j + 1 : Nat) : Int)) f = su (10 * (k : Int) + j) f + f (10 * (k : Int) + j) := by
          rw [show 10 * (k : Int) + ((j + 1 : Nat) : Int) = (10 * (k : Int) + j) + 1 by omega, su_s (by omega)]
        have e2 : su ((j + 1 : Nat) : Int) (fun v => f (10 * (k : Int) + v)) = su j (fun v => f (10 * (k : Int) + v)) + f (10 * (k : Int) + j) := su_s (n := (j : Int)) (by omega) _
        rw [e1, e2, ihj]; omega
    have := t 10
    rw [show 10 * ((k + 1 : Nat) : Int) = 10 * (k : Int) + ((10 : Nat) : Int) by omega]
    exact this
theorem r_fs {n : Int} {C F φ : Int → Int} (h0 : 0 ≤ n) (h1 : n ≤ 10) : fs 200 (rR n C F) φ = su n (fun u => su n (fun v => F (10 * u + v) * φ (2 * (10 * u + v)))) := by
  unfold fs
  have e := su100 (fun j => rR n C F (2 * j + 1) * φ (2 * j)) 10
  have e : su 100 (fun j => rR n C F (2 * j + 1) * φ (2 * j)) = su 10 (fun u => su 10 (fun v => rR n C F (2 * (10 * u + v) + 1) * φ (2 * (10 * u + v)))) := e
  rw [show (200 : Int) / 2 = 100 from rfl, e, su_ext (n := n) (m := 10) h1 h0 (fun u u0 u1 => su_all0 (fun v v0 v1 => by
    unfold rR; rw [if_neg (by omega), Int.zero_mul]))]
  refine su_congr (fun u u0 u1 => ?_)
  rw [su_ext (n := n) (m := 10) h1 h0 (fun v v0 v1 => by unfold rR; rw [if_neg (by omega), Int.zero_mul])]
  exact su_congr (fun v v0 v1 => by rw [rR_b v0 (by omega) u1 v1])
def OffG (M M' : Mem) : Prop := ∀ k : Int, k ≠ 11 → k ≠ 12 → k ≠ 13 → M' k = M k
/-- goods along the way that was found -/
theorem X9_go {n to most B K c : Int} {C P π d ra : Int → Int} {M : Mem} {post : Int → Mem → Prop} (hn : 0 ≤ n ∧ n ≤ 10) (ht : 0 ≤ to ∧ to < n) (hdem : 1 ≤ M 13 to ∧ M 13 to ≤ 1000) (hmost : 1 ≤ most) (hA : ArcOk 20 200 B rT rQ P) (hP : PrsOk 200 rT rQ P) (hπ : PotOk 200 rT rQ P (rR n C (M 11)) π)
    (hG : ∀ u v : Int, 0 ≤ u → u < n → 0 ≤ v → v < n → (0 ≤ M 11 (10 * u + v) ∧ M 11 (10 * u + v) ≤ 1000) ∧ C (10 * u + v) ≤ 1000000 ∧ M 11 (10 * u + v) ≤ C (10 * u + v) ∧ (M 11 (10 * u + v) < C (10 * u + v) → M 11 (10 * u + v) + 1000 ≤ C (10 * u + v))) (hs : ∀ u : Int, 0 ≤ u → u < n → 0 ≤ M 12 u ∧ M 12 u ≤ 1000)
    (F : BfF 20 200 B K rT rQ P (rR n C (M 11)) π (fun x => 0 ≤ x ∧ x < n ∧ 0 < M 12 x) d (rl (M 16)) ra) (h16 : ∀ x : Int, 0 ≤ x → x < 20 → d x < K → -1 ≤ M 16 x) (hd : d (10 + to) < K) (hc : d (10 + to) - π (10 + to) ≤ c)
    (h : ∀ (m : Int) (M' : Mem) (x : Int), 1 ≤ m → m ≤ most → m ≤ M 13 to → OffG M M' → (0 ≤ x ∧ x < n ∧ m ≤ M 12 x) → d x = 0 → M' 12 = up (M 12) x (M 12 x - m) → M' 13 = up (M 13) to (M 13 to - m) → (∀ j : Int, (∀ u v : Int, 0 ≤ u → u < n → 0 ≤ v → v < n → j ≠ 10 * u + v) → M' 11 j = M 11 j) → AugI 20 200 K rT rQ P (rR n C (M 11)) π d (rl (M 16)) ra (10 + to) c m x (rR n C (M' 11)) → post m M') : wpX9_go to most M post := by
  have nodes := pth_in hA F (t := 10 + to) (by omega) (by omega) hd
  -- a column's last arc
  have col : ∀ v : Int, 0 ≤ v → v < 10 → d (10 + v) < K → 0 ≤ M 16 (10 + v) ∧ M 16 (10 + v) < n ∧ v < n ∧ rl (M 16) (10 + v) = 2 * (10 * M 16 (10 + v) + v) ∧ 0 < rR n C (M 11) (2 * (10 * M 16 (10 + v) + v)) := fun v v0 v1 hv => by
    rcases F.2.1 (10 + v) (by omega) (by omega) hv with g | ⟨g1, g2, g3, g4, g5, g6, g7⟩
    · omega
    · have e1 : rl (M 16) (10 + v) = 2 * (10 * M 16 (10 + v) + v) := by
        unfold rl at g1 ⊢
        by_cases q : M 16 (10 + v) = -1
        · rw [if_pos q] at g1; omega
        · rw [if_neg q, if_neg (by omega)]; omega
      rw [e1] at g1 g2 g4
      have g4' := g4
      unfold rR at g4
      by_cases q : 2 * (10 * M 16 (10 + v) + v) / 20 < n ∧ (2 * (10 * M 16 (10 + v) + v) / 2) % 10 < n
      · exact ⟨by omega, by omega, by omega, e1, g4'⟩
      · rw [if_neg q] at g4; omega
  -- a row's
  have row : ∀ u : Int, 0 ≤ u → u < 10 → d u < K → (M 16 u = -1 ∧ u < n ∧ 0 < M 12 u ∧ d u = 0 ∧ rl (M 16) u = -1) ∨ (M 16 u ≠ -1 ∧ u < n ∧ 0 ≤ M 16 u ∧ M 16 u < n ∧ rl (M 16) u = 2 * (10 * u + M 16 u) + 1 ∧ 0 < M 11 (10 * u + M 16 u) ∧ rR n C (M 11) (rl (M 16) u) = M 11 (10 * u + M 16 u)) := fun u u0 u1 hu => by
    rcases F.2.1 u u0 (by omega) hu with g | ⟨g1, g2, g3, g4, g5, g6, g7⟩
    · refine Or.inl ⟨?_, g.2.1.2.1, g.2.1.2.2, g.2.2, g.1⟩
      have g0 := g.1
      unfold rl at g0
      by_cases q : M 16 u = -1
      · exact q
      · rw [if_neg q, if_pos u1] at g0
        have := h16 u u0 (by omega) hu
        omega
    · right
      by_cases q : M 16 u = -1
      · unfold rl at g1; rw [if_pos q] at g1; omega
      · have e1 : rl (M 16) u = 2 * (10 * u + M 16 u) + 1 := by unfold rl; rw [if_neg q, if_pos u1]
        rw [e1] at g1 g2 g3 g4
        have e3 : (2 * (10 * u + M 16 u) + 1) / 20 = u := by unfold rQ at g3; rw [if_neg (by omega)] at g3; exact g3
        have g4' := g4
        unfold rR at g4
        by_cases q2 : (2 * (10 * u + M 16 u) + 1) / 20 < n ∧ ((2 * (10 * u + M 16 u) + 1) / 2) % 10 < n
        · have a1 : 0 ≤ M 16 u := by omega
          have a2 : M 16 u < n := by omega
          rw [rR_b a1 (by omega) (by omega) a2] at g4'
          refine ⟨q, by omega, a1, a2, e1, g4', ?_⟩
          rw [e1, rR_b a1 (by omega) (by omega) a2]
        · rw [if_neg q2] at g4; omega
  have p1 : ∀ i : Nat, pth rT (rl (M 16)) (10 + to) (i + 1) = rT (rl (M 16) (pth rT (rl (M 16)) (10 + to) i)) := fun _ => rfl
  -- the second time
  have key2 : ∀ (I : Nat) (m : Int), 1 ≤ m → m ≤ most → m ≤ M 13 to → (∀ k : Nat, k < 2 * I + 1 → rl (M 16) (pth rT (rl (M 16)) (10 + to) k) ≠ -1 ∧ m ≤ rR n C (M 11) (rl (M 16) (pth rT (rl (M 16)) (10 + to) k))) → (∀ i : Nat, i ≤ I → 0 ≤ pth rT (rl (M 16)) (10 + to) (2 * i + 1) ∧ pth rT (rl (M 16)) (10 + to) (2 * i + 1) < n) → M 16 (pth rT (rl (M 16)) (10 + to) (2 * I + 1)) = -1 → d (pth rT (rl (M 16)) (10 + to) (2 * I + 1)) = 0 → m ≤ M 12 (pth rT (rl (M 16)) (10 + to) (2 * I + 1)) →
      ∀ (f i : Nat) (N : Mem), i ≤ I → (I : Int) - i < f → OffG M N → N 12 = up (M 12) (pth rT (rl (M 16)) (10 + to) (2 * I + 1)) (M 12 (pth rT (rl (M 16)) (10 + to) (2 * I + 1)) - m) → N 13 = up (M 13) to (M 13 to - m) → (∀ j : Int, (∀ u v : Int, 0 ≤ u → u < n → 0 ≤ v → v < n → j ≠ 10 * u + v) → N 11 j = M 11 j) → AugI 20 200 K rT rQ P (rR n C (M 11)) π d (rl (M 16)) ra (10 + to) c m (pth rT (rl (M 16)) (10 + to) (2 * i + 1)) (rR n C (N 11)) → lpX9_go_182 post f m (pth rT (rl (M 16)) (10 + to) (2 * i + 1)) N := by
    intro I m m1 m2 m3 hk hrow hI0 hI1 hI2 f
    induction f with
    | zero => intro i N hi hf; omega
    | succ f ih =>
      intro i N hi hf hO h12 h13 h11 A
      obtain ⟨q0, q1⟩ := hrow i hi
      have s16 : N 16 = M 16 := hO 16 (by omega) (by omega) (by omega)
      unfold lpX9_go_182
      rw [s16]
      refine ⟨by omega, fun g => ?_, fun g => ?_⟩
      · have e : i = I := by
          by_cases c1 : i = I
          · exact c1
          · have h1 := (hk (2 * i + 1) (by omega)).1
            exact absurd (rl_n g) h1
        subst e
        exact h m N _ m1 m2 m3 hO ⟨q0, q1, hI2⟩ hI1 h12 h13 h11 A
      · have hiI : i < I := by
          by_cases c1 : i = I
          · subst c1; exact absurd hI0 g
          · omega
        obtain ⟨a1, a2⟩ := hk (2 * i + 1) (by omega)
        obtain ⟨b1, b2⟩ := hk (2 * i + 2) (by omega)
        have nd := nodes (2 * i + 1) (fun k hk2 => (hk k (by omega)).1)
        have nd2 := nodes (2 * i + 2) (fun k hk2 => (hk k (by omega)).1)
        rcases row _ q0 (by omega) nd.2.2.1 with g1 | ⟨g1, g2, g3, g4, g5, g6, g7⟩
        · exact absurd g1.1 g
        · obtain ⟨A1, c1, c2, c3, c4⟩ := aug_step hA hP hπ F (by omega) A a1 a2
          rw [g5] at c3 A1
          have eT : rT (2 * (10 * pth rT (rl (M 16)) (10 + to) (2 * i + 1) + M 16 (pth rT (rl (M 16)) (10 + to) (2 * i + 1))) + 1) = 10 + M 16 (pth rT (rl (M 16)) (10 + to) (2 * i + 1)) := (rT_b g3 (by omega)).1
          rw [eT] at A1
          have e2 : pth rT (rl (M 16)) (10 + to) (2 * i + 2) = 10 + M 16 (pth rT (rl (M 16)) (10 + to) (2 * i + 1)) := by
            rw [p1 (2 * i + 1), g5, eT]
          rw [e2] at nd2 b1 b2
          obtain ⟨k1, k2, k3, k4, k5⟩ := col _ g3 (by omega) nd2.2.2.1
          obtain ⟨A2, x1, x2, x3, x4⟩ := aug_step hA hP hπ F (by omega) A1 b1 b2
          rw [k4] at A2 x3
          have eT2 : rT (2 * (10 * M 16 (10 + M 16 (pth rT (rl (M 16)) (10 + to) (2 * i + 1))) + M 16 (pth rT (rl (M 16)) (10 + to) (2 * i + 1)))) = M 16 (10 + M 16 (pth rT (rl (M 16)) (10 + to) (2 * i + 1))) := (rT_f g3 (by omega)).1
          rw [eT2] at A2
          have e3 : pth rT (rl (M 16)) (10 + to) (2 * (i + 1) + 1) = M 16 (10 + M 16 (pth rT (rl (M 16)) (10 + to) (2 * i + 1))) := by
            rw [show 2 * (i + 1) + 1 = (2 * i + 2) + 1 by omega, p1 (2 * i + 2), e2, k4, eT2]
          rw [rR_b g3 (by omega) g2 g4] at c3
          have gb := hG _ _ q0 q1 g3 g4
          have up1 := (A.2.1 (2 * (10 * pth rT (rl (M 16)) (10 + to) (2 * i + 1) + M 16 (pth rT (rl (M 16)) (10 + to) (2 * i + 1))) + 1) (by omega) (by omega)).2.1
          rw [pr1_o, rR_b g3 (by omega) g2 g4, rR_f g3 (by omega) g2 g4, rR_b g3 (by omega) g2 g4, rR_f g3 (by omega) g2 g4] at up1
          have up0 := (A.2.1 (2 * (10 * pth rT (rl (M 16)) (10 + to) (2 * i + 1) + M 16 (pth rT (rl (M 16)) (10 + to) (2 * i + 1)))) (by omega) (by omega)).1
          rw [rR_f g3 (by omega) g2 g4] at up0
          refine ⟨by omega, fun v hv => ?_⟩
          subst hv
          refine ⟨by omega, by omega, by omega, fun N1 e1 => ⟨by omega, fun w hw => ?_⟩⟩
          have t16 : N1 16 = M 16 := by rw [e1, row_ne (by omega), s16]
          rw [t16] at hw
          subst hw
          have r1 : N1 11 = up (N 11) (10 * pth rT (rl (M 16)) (10 + to) (2 * i + 1) + M 16 (pth rT (rl (M 16)) (10 + to) (2 * i + 1))) (N 11 (10 * pth rT (rl (M 16)) (10 + to) (2 * i + 1) + M 16 (pth rT (rl (M 16)) (10 + to) (2 * i + 1))) - m) := by rw [e1, row_up]
          have R1 : rR n C (N1 11) = mv (rR n C (N 11)) (2 * (10 * pth rT (rl (M 16)) (10 + to) (2 * i + 1) + M 16 (pth rT (rl (M 16)) (10 + to) (2 * i + 1))) + 1) m := by rw [r1, rR_sub g3 (by omega) g2 g4]
          rw [← R1] at A1 A2 x3
          rw [rR_f g3 (by omega) k2 k3] at x3
          have gb2 := hG _ _ k1 k2 g3 g4
          have vp := (A1.2.1 (2 * (10 * M 16 (10 + M 16 (pth rT (rl (M 16)) (10 + to) (2 * i + 1))) + M 16 (pth rT (rl (M 16)) (10 + to) (2 * i + 1))) + 1) (by omega) (by omega)).1
          rw [rR_b g3 (by omega) k2 k3] at vp
          refine ⟨by omega, by omega, by omega, fun N2 e4 => ?_⟩
          have r2 : N2 11 = up (N1 11) (10 * M 16 (10 + M 16 (pth rT (rl (M 16)) (10 + to) (2 * i + 1))) + M 16 (pth rT (rl (M 16)) (10 + to) (2 * i + 1))) (N1 11 (10 * M 16 (10 + M 16 (pth rT (rl (M 16)) (10 + to) (2 * i + 1))) + M 16 (pth rT (rl (M 16)) (10 + to) (2 * i + 1))) + m) := by rw [e4, row_up]
          have R2 : rR n C (N2 11) = mv (rR n C (N1 11)) (2 * (10 * M 16 (10 + M 16 (pth rT (rl (M 16)) (10 + to) (2 * i + 1))) + M 16 (pth rT (rl (M 16)) (10 + to) (2 * i + 1)))) m := by rw [r2, rR_add g3 (by omega) k2 k3]
          rw [← R2, ← e3] at A2
          have := ih (i + 1) N2 (by omega) (by omega) (fun k z1 z2 z3 => by rw [e4, row_ne z1, e1, row_ne z1]; exact hO k z1 z2 z3) (by rw [e4, row_ne (by omega), e1, row_ne (by omega), h12]) (by rw [e4, row_ne (by omega), e1, row_ne (by omega), h13]) (fun j hj => by
            rw [r2, up_n (hj _ _ k1 k2 g3 g4), r1, up_n (hj _ _ q0 q1 g3 g4)]; exact h11 j hj) A2
          rw [e3] at this
          exact this
  -- the first time
  have key : ∀ (f i : Nat) (m : Int), 20 - (2 * (i : Int) + 1) < f → 1 ≤ m → m ≤ most → m ≤ M 13 to → (∀ k : Nat, k < 2 * i + 1 → rl (M 16) (pth rT (rl (M 16)) (10 + to) k) ≠ -1 ∧ m ≤ rR n C (M 11) (rl (M 16) (pth rT (rl (M 16)) (10 + to) k))) → (∀ j : Nat, j ≤ i → 0 ≤ pth rT (rl (M 16)) (10 + to) (2 * j + 1) ∧ pth rT (rl (M 16)) (10 + to) (2 * j + 1) < n) → lpX9_go_36 post f to m (pth rT (rl (M 16)) (10 + to) (2 * i + 1)) M := by
    intro f
    induction f with
    | zero =>
      intro i m hf m1 m2 m3 hk hrow
      have nd := nodes (2 * i + 1) (fun k hk2 => (hk k hk2).1)
      have r1 := (F.1 _ nd.1 nd.2.1).2.2.2.1
      have r2 := (F.1 (10 + to) (by omega) (by omega)).2.2.2.2
      omega
    | succ f ih =>
      intro i m hf m1 m2 m3 hk hrow
      have nd := nodes (2 * i + 1) (fun k hk2 => (hk k hk2).1)
      obtain ⟨q0, q1⟩ := hrow i (by omega)
      unfold lpX9_go_36
      have fin : ∀ m' : Int, 1 ≤ m' → m' ≤ m → m' ≤ M 12 (pth rT (rl (M 16)) (10 + to) (2 * i + 1)) → M 16 (pth rT (rl (M 16)) (10 + to) (2 * i + 1)) = -1 → jbX9_go_128 post to (pth rT (rl (M 16)) (10 + to) (2 * i + 1)) m' M := fun m' z1 z2 z3 g => by
        have d0 : d (pth rT (rl (M 16)) (10 + to) (2 * i + 1)) = 0 := by
          rcases row _ q0 (by omega) nd.2.2.1 with g1 | g1
          · exact g1.2.2.2.1
          · exact absurd g g1.1
        have hsu := hs _ q0 q1
        obtain ⟨k1, k2, k3, k4, k5⟩ := col to ht.1 (by omega) hd
        unfold jbX9_go_128
        refine ⟨by omega, by omega, by omega, fun N1 e1 => ⟨by omega, by omega, ?_⟩⟩
        have t13 : N1 13 = M 13 := by rw [e1, row_ne (by omega)]
        rw [t13]
        refine ⟨by omega, fun N2 e2 => ⟨by omega, fun v hv => ?_⟩⟩
        have t16 : N2 16 = M 16 := by rw [e2, row_ne (by omega), e1, row_ne (by omega)]
        have t11 : N2 11 = M 11 := by rw [e2, row_ne (by omega), e1, row_ne (by omega)]
        rw [t16] at hv
        subst hv
        have gb := hG _ _ k1 k2 ht.1 ht.2
        rw [t11]
        refine ⟨by omega, by omega, by omega, fun N3 e3 => ⟨i + 1, ?_⟩⟩
        have A0 := aug_start (m := m') hπ (fun e e0 e1 => by
          unfold rR
          by_cases q : e / 20 < n ∧ (e / 2) % 10 < n
          · rw [if_pos q]
            have w1 := hG (e / 20) ((e / 2) % 10) (by omega) q.1 (by omega) q.2
            rw [show 10 * (e / 20) + (e / 2) % 10 = e / 2 by omega] at w1
            split <;> omega
          · rw [if_neg q]; exact Int.le_refl _) F (by omega) (by omega) hd hc (by omega)
        have hk0 := hk 0 (by omega)
        have hk1 : m ≤ rR n C (M 11) (rl (M 16) (10 + to)) := hk0.2
        obtain ⟨A1, x1, x2, x3, x4⟩ := aug_step hA hP hπ F (by omega) A0 hk0.1 (by omega)
        rw [k4] at A1 hk1
        have eT : rT (2 * (10 * M 16 (10 + to) + to)) = M 16 (10 + to) := (rT_f ht.1 (by omega)).1
        rw [eT] at A1
        have e0 : pth rT (rl (M 16)) (10 + to) (2 * 0 + 1) = M 16 (10 + to) := by
          show rT (rl (M 16) (10 + to)) = _
          rw [k4, eT]
        have r3 : N3 11 = up (M 11) (10 * M 16 (10 + to) + to) (M 11 (10 * M 16 (10 + to) + to) + m') := by rw [e3, row_up, t11]
        have R3 : rR n C (N3 11) = mv (rR n C (M 11)) (2 * (10 * M 16 (10 + to) + to)) m' := by rw [r3, rR_add ht.1 (by omega) k2 ht.2]
        rw [← R3, ← e0] at A1
        have := key2 i m' z1 (by omega) (by omega) (fun k hk2 => ⟨(hk k hk2).1, by have := (hk k hk2).2; omega⟩) hrow g d0 z3 (i + 1) 0 N3 (by omega) (by omega) (fun k z1 z2 z3 => by rw [e3, row_ne z1, e2, row_ne z3, e1, row_ne z2]) (by rw [e3, row_ne (by omega), e2, row_ne (by omega), e1, row_up]) (by rw [e3, row_ne (by omega), e2, row_up, t13]) (fun j hj => by rw [r3, up_n (hj _ _ k1 k2 ht.1 ht.2)]) A1
        rw [e0] at this
        exact this
      refine ⟨by omega, fun g => ⟨by omega, fun g1 => fin m m1 (Int.le_refl _) g1 g, fun g1 => ⟨by omega, ?_⟩⟩, fun g => ?_⟩
      · rcases row _ q0 (by omega) nd.2.2.1 with g2 | g2
        · exact fin _ (by omega) (by omega) (Int.le_refl _) g
        · exact absurd g g2.1
      · rcases row _ q0 (by omega) nd.2.2.1 with g1 | ⟨g1, g2, g3, g4, g5, g6, g7⟩
        · exact absurd g1.1 g
        · have eT : rT (2 * (10 * pth rT (rl (M 16)) (10 + to) (2 * i + 1) + M 16 (pth rT (rl (M 16)) (10 + to) (2 * i + 1))) + 1) = 10 + M 16 (pth rT (rl (M 16)) (10 + to) (2 * i + 1)) := (rT_b g3 (by omega)).1
          have e2 : pth rT (rl (M 16)) (10 + to) (2 * i + 2) = 10 + M 16 (pth rT (rl (M 16)) (10 + to) (2 * i + 1)) := by
            rw [p1 (2 * i + 1), g5, eT]
          have nd2 := nodes (2 * i + 2) (fun k hk2 => by
            by_cases c1 : k = 2 * i + 1
            · rw [c1, g5]; omega
            · exact (hk k (by omega)).1)
          rw [e2] at nd2
          obtain ⟨k1, k2, k3, k4, k5⟩ := col _ g3 (by omega) nd2.2.2.1
          have eT2 : rT (2 * (10 * M 16 (10 + M 16 (pth rT (rl (M 16)) (10 + to) (2 * i + 1))) + M 16 (pth rT (rl (M 16)) (10 + to) (2 * i + 1)))) = M 16 (10 + M 16 (pth rT (rl (M 16)) (10 + to) (2 * i + 1))) := (rT_f g3 (by omega)).1
          have e3 : pth rT (rl (M 16)) (10 + to) (2 * (i + 1) + 1) = M 16 (10 + M 16 (pth rT (rl (M 16)) (10 + to) (2 * i + 1))) := by
            rw [show 2 * (i + 1) + 1 = (2 * i + 2) + 1 by omega, p1 (2 * i + 2), e2, k4, eT2]
          rw [rR_f g3 (by omega) k2 k3] at k5
          have gb2 := hG _ _ k1 k2 g3 g4
          have nxt : ∀ m' : Int, 1 ≤ m' → m' ≤ m → m' ≤ M 11 (10 * pth rT (rl (M 16)) (10 + to) (2 * i + 1) + M 16 (pth rT (rl (M 16)) (10 + to) (2 * i + 1))) → lpX9_go_36 post f to m' (M 16 (10 + M 16 (pth rT (rl (M 16)) (10 + to) (2 * i + 1)))) M := fun m' z1 z2 z3 => by
            have := ih (i + 1) m' (by omega) z1 (by omega) (by omega) (fun k hk2 => by
              by_cases c1 : k = 2 * i + 2
              · rw [c1, e2, k4, rR_f g3 (by omega) k2 k3]
                exact ⟨by omega, by omega⟩
              · by_cases c2 : k = 2 * i + 1
                · rw [c2, g7]
                  exact ⟨by rw [g5]; omega, z3⟩
                · have := hk k (by omega)
                  exact ⟨this.1, by omega⟩) (fun j hj => by
              by_cases c1 : j = i + 1
              · rw [c1, e3]; exact ⟨k1, k2⟩
              · exact hrow j (by omega))
            rw [e3] at this
            exact this
          refine ⟨by omega, fun v hv => ?_⟩
          subst hv
          unfold jbX9_go_90
          refine ⟨by omega, fun g8 => ⟨by omega, fun w hw => ?_⟩, fun g8 => ⟨by omega, by omega, fun w hw => ?_⟩⟩
          · rw [hw]; exact nxt m m1 (Int.le_refl _) g8
          · rw [hw]; exact nxt _ (by omega) (by omega) (Int.le_refl _)
  obtain ⟨k1, k2, k3, k4, k5⟩ := col to ht.1 (by omega) hd
  have eT : rT (2 * (10 * M 16 (10 + to) + to)) = M 16 (10 + to) := (rT_f ht.1 (by omega)).1
  have e0 : pth rT (rl (M 16)) (10 + to) (2 * 0 + 1) = M 16 (10 + to) := by
    show rT (rl (M 16) (10 + to)) = _
    rw [k4, eT]
  rw [rR_f ht.1 (by omega) k2 k3] at k5
  have gb := hG _ _ k1 k2 ht.1 ht.2
  have start : ∀ m : Int, 1 ≤ m → m ≤ most → m ≤ M 13 to → jbX9_go_20 post to m M := fun m m1 m2 m3 => by
    unfold jbX9_go_20
    refine ⟨by omega, fun v hv => ⟨20, ?_⟩⟩
    have := key 20 0 m (by omega) m1 m2 m3 (fun k hk => by
      rw [show k = 0 by omega]
      show rl (M 16) (10 + to) ≠ -1 ∧ m ≤ rR n C (M 11) (rl (M 16) (10 + to))
      rw [k4, rR_f ht.1 (by omega) k2 k3]
      exact ⟨by omega, by omega⟩) (fun j hj => by rw [show j = 0 by omega, e0]; exact ⟨k1, k2⟩)
    rw [e0, ← hv] at this
    exact this
  unfold wpX9_go
  exact ⟨by omega, fun g => ⟨by omega, start _ hdem.1 g (Int.le_refl _)⟩, fun g => start most hmost (Int.le_refl _) (by omega)⟩
