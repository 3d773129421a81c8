/-! the mover's flow is a cheapest one -/
/-- what a row and a column of the mover's goods sum to -/
theorem mov_sums {n : Int} {α β : Int → Int} {δ : Int → Int → Int} {M : Mem} {π js : Int → Int} {jm : Int → Int → Int} {jt : Int → Int} (hn : n ≤ 10) (H : MovF n α β δ M π js jm jt) : (∀ u : Int, 0 ≤ u → u < n → su n (mvG α β (M (32 + 0)) jm u) = (if β u < α u then M (32 + 0) (2 * js u + 1) else 0) + min (α u) (β u)) ∧ (∀ v : Int, 0 ≤ v → v < n → su n (fun u => mvG α β (M (32 + 0)) jm u v) = (if α v < β v then M (32 + 0) (2 * jt v + 1) else 0) + min (α v) (β v)) ∧ su n (fun u => su n (mvG α β (M (32 + 0)) jm u)) = M (8 + 0) 1 + su n (fun v => min (α v) (β v)) := by
  obtain ⟨b1, b2, b3, b4, b5⟩ := mov_bal hn H
  have r : ∀ u : Int, 0 ≤ u → u < n → su n (mvG α β (M (32 + 0)) jm u) = (if β u < α u then M (32 + 0) (2 * js u + 1) else 0) + min (α u) (β u) := fun u u0 u1 => by
    have e1 : su n (mvG α β (M (32 + 0)) jm u) = su n (fun v => if β u < α u ∧ α v < β v then M (32 + 0) (2 * jm u v + 1) else 0) + su n (fun v => if u = v then min (α u) (β u) else 0) := by
      rw [← su_add]; rfl
    rw [e1, su_diag (f := fun u => min (α u) (β u)) u0 u1]
    congr 1
    by_cases c : β u < α u
    · rw [if_pos c, ← b1 u u0 u1 c]
      refine su_congr (fun v v0 v1 => ?_)
      by_cases c2 : α v < β v
      · rw [if_pos ⟨c, c2⟩, if_pos c2]
      · rw [if_neg (fun q => c2 q.2), if_neg c2]
    · rw [if_neg c]
      exact su_all0 (fun v _ _ => if_neg (fun q => c q.1))
  refine ⟨r, fun v v0 v1 => ?_, ?_⟩
  · have e1 : su n (fun u => mvG α β (M (32 + 0)) jm u v) = su n (fun u => if β u < α u ∧ α v < β v then M (32 + 0) (2 * jm u v + 1) else 0) + su n (fun u => if u = v then min (α u) (β u) else 0) := by
      rw [← su_add]; rfl
    rw [e1, su_diag2 (f := fun u => min (α u) (β u)) v0 v1]
    congr 1
    by_cases c : α v < β v
    · rw [if_pos c, ← b2 v v0 v1 c]
      refine su_congr (fun u u0 u1 => ?_)
      by_cases c2 : β u < α u
      · rw [if_pos ⟨c2, c⟩, if_pos c2]
      · rw [if_neg (fun q => c2 q.1), if_neg c2]
    · rw [if_neg c]
      exact su_all0 (fun u _ _ => if_neg (fun q => c q.2))
  · rw [su_congr (fun u a b => r u a b), su_add, b3]
/-- rooms are not below 0 -/
theorem arc_room {M : Mem} {π : Int → Int} {j a1 a2 a3 a4 : Int} (hD : NetD 0 M π) (h : Arc 0 M j a1 a2 a3 a4) : 0 ≤ M (32 + 0) (2 * j) ∧ 0 ≤ M (32 + 0) (2 * j + 1) ∧ (0 < M (32 + 0) (2 * j) → π a2 ≤ π a1 + a4) ∧ (NetS 0 M → 0 < M (32 + 0) (2 * j + 1) → π a1 ≤ π a2 - a4) := by
  obtain ⟨g1, g2, g3, g4, g5, g6⟩ := h
  obtain ⟨d1, d2, _⟩ := hD
  refine ⟨(d1 (2 * j) (by omega) (by omega)).1, (d1 (2 * j + 1) (by omega) (by omega)).1, fun q => ?_, fun hS q => ?_⟩
  · have := d2 (2 * j) (by omega) (by omega) q
    rw [g3, g4, g6] at this
    exact this
  · have := d2 (2 * j + 1) (by omega) (by omega) q
    obtain ⟨p1, p2, p3⟩ := hS.2.2.2 (2 * j) (by omega) (by omega)
    rw [pr1_e] at p1 p2 p3
    rw [p1, p2, p3, g3, g4, g6] at this
    omega
theorem mov_flow {n : Int} {α β : Int → Int} {δ : Int → Int → Int} {M : Mem} {π js : Int → Int} {jm : Int → Int → Int} {jt : Int → Int} (hn : n ≤ 10) (hα : ∀ v : Int, 0 ≤ v → v < n → (0 ≤ α v ∧ α v ≤ 1000) ∧ 0 ≤ β v ∧ β v ≤ 1000) (H : MovF n α β δ M π js jm jt) : (∀ u v : Int, 0 ≤ u → u < n → 0 ≤ v → v < n → 0 ≤ mvG α β (M (32 + 0)) jm u v) ∧ (∀ u v : Int, 0 ≤ u → u < n → 0 ≤ v → v < n → β u < α u → α v < β v → 0 < M (32 + 0) (2 * jm u v) ∧ M (32 + 0) (2 * jm u v + 1) ≤ M (32 + 0) (2 * js u + 1) ∧ M (32 + 0) (2 * jm u v + 1) ≤ M (32 + 0) (2 * jt v + 1)) ∧ Sm n α β (M (8 + 0) 1 + su n (fun v => min (α v) (β v))) (mvG α β (M (32 + 0)) jm) := by
  obtain ⟨b1, b2, b3, b4, b5⟩ := mov_bal hn H
  obtain ⟨s1, s2, s3⟩ := mov_sums hn H
  obtain ⟨hS, hD, h1, h2, h3, hφ⟩ := H
  have g0 : ∀ u v : Int, 0 ≤ u → u < n → 0 ≤ v → v < n → 0 ≤ mvG α β (M (32 + 0)) jm u v := fun u v a b c d => by
    have q := hα u a b
    have e2 : 0 ≤ (if u = v then min (α u) (β u) else 0) := by split <;> omega
    have e1 : 0 ≤ (if β u < α u ∧ α v < β v then M (32 + 0) (2 * jm u v + 1) else 0) := by
      split
      · rename_i c1; exact (arc_room hD (h2 u v a b c d c1.1 c1.2)).2.1
      · exact Int.le_refl _
    show 0 ≤ (if β u < α u ∧ α v < β v then M (32 + 0) (2 * jm u v + 1) else 0) + (if u = v then min (α u) (β u) else 0)
    omega
  refine ⟨g0, fun u v a b c d e f => ?_, g0, fun u a b => ?_, fun v a b => ?_, s3⟩
  · have t1 := su_term (n := n) (f := fun v => if α v < β v then M (32 + 0) (2 * jm u v + 1) else 0) (fun k k0 k1 => by
      show 0 ≤ (if α k < β k then M (32 + 0) (2 * jm u k + 1) else 0)
      split
      · rename_i c1; exact (arc_room hD (h2 u k a b k0 k1 e c1)).2.1
      · exact Int.le_refl _) c d
    rw [b1 u a b e] at t1
    have t1 : (if α v < β v then M (32 + 0) (2 * jm u v + 1) else 0) ≤ M (32 + 0) (2 * js u + 1) := t1
    rw [if_pos f] at t1
    have t2 := su_term (n := n) (f := fun u => if β u < α u then M (32 + 0) (2 * jm u v + 1) else 0) (fun k k0 k1 => by
      show 0 ≤ (if β k < α k then M (32 + 0) (2 * jm k v + 1) else 0)
      split
      · rename_i c1; exact (arc_room hD (h2 k v k0 k1 c d c1 f)).2.1
      · exact Int.le_refl _) a b
    rw [b2 v c d f] at t2
    have t2 : (if β u < α u then M (32 + 0) (2 * jm u v + 1) else 0) ≤ M (32 + 0) (2 * jt v + 1) := t2
    rw [if_pos e] at t2
    have r1 := (h1 u a b e).2.2.2.2.1
    have r2 := arc_room hD (h1 u a b e)
    have r3 := (h2 u v a b c d e f).2.2.2.2.1
    have q := hα u a b
    exact ⟨by omega, t1, t2⟩
  · rw [s1 u a b]
    by_cases c : β u < α u
    · rw [if_pos c]
      have r1 := (h1 u a b c).2.2.2.2.1
      have r2 := arc_room hD (h1 u a b c)
      omega
    · rw [if_neg c]; omega
  · rw [s2 v a b]
    by_cases c : α v < β v
    · rw [if_pos c]
      have r1 := (h3 v a b c).2.2.2.2.1
      have r2 := arc_room hD (h3 v a b c)
      omega
    · rw [if_neg c]; omega
theorem mov_cost {n : Int} {α β : Int → Int} {δ : Int → Int → Int} {M : Mem} {π js : Int → Int} {jm : Int → Int → Int} {jt : Int → Int} (hn : n ≤ 10) (hδ : Mtr n δ) (H : MovF n α β δ M π js jm jt) : cst n δ (mvG α β (M (32 + 0)) jm) = M (8 + 0) 2 := by
  obtain ⟨b1, b2, b3, b4, b5⟩ := mov_bal hn H
  rw [← b5]
  refine su2_congr (fun u v a b c d => ?_)
  show ((if β u < α u ∧ α v < β v then M (32 + 0) (2 * jm u v + 1) else 0) + (if u = v then min (α u) (β u) else 0)) * δ u v = _
  by_cases e : u = v
  · subst e
    rw [hδ.1 u a b, Int.mul_zero, if_neg (fun q => by omega)]
  · rw [if_neg e, Int.add_zero]
    split
    · rfl
    · rw [Int.zero_mul]
/-- heights that show it -/
def mvH (n : Int) (α β : Int → Int) (δ : Int → Int → Int) (π : Int → Int) : Int → Int := fun x => mn n.toNat (π 21) (fun u => decide (β u < α u)) (fun u => π u + δ u x)
theorem mov_heights {n : Int} {α β : Int → Int} {δ : Int → Int → Int} {M : Mem} {π js : Int → Int} {jm : Int → Int → Int} {jt : Int → Int} (hn : n ≤ 10) (hδ : Mtr n δ) (hα : ∀ v : Int, 0 ≤ v → v < n → (0 ≤ α v ∧ α v ≤ 1000) ∧ 0 ≤ β v ∧ β v ≤ 1000) (H : MovF n α β δ M π js jm jt) :
    (∀ u v : Int, 0 ≤ u → u < n → 0 ≤ v → v < n → mvH n α β δ π v - mvH n α β δ π u ≤ δ u v) ∧ (∀ u v : Int, 0 ≤ u → u < n → 0 ≤ v → v < n → 0 < mvG α β (M (32 + 0)) jm u v → mvH n α β δ π v - mvH n α β δ π u = δ u v) ∧ (∀ u : Int, 0 ≤ u → u < n → 0 ≤ mvH n α β δ π u ∧ mvH n α β δ π u ≤ π 21) ∧ (∀ u : Int, 0 ≤ u → u < n → su n (mvG α β (M (32 + 0)) jm u) < α u → mvH n α β δ π u ≤ 0) ∧ (∀ v : Int, 0 ≤ v → v < n → su n (fun u => mvG α β (M (32 + 0)) jm u v) < β v → π 21 ≤ mvH n α β δ π v) := by
  obtain ⟨f1, f2, f3⟩ := mov_flow hn hα H
  obtain ⟨s1, s2, s3⟩ := mov_sums hn H
  obtain ⟨hS, hD, h1, h2, h3, hφ⟩ := H
  have dec : ∀ u : Int, decide (β u < α u) = true → β u < α u := fun u q => of_decide_eq_true q
  have lip : ∀ u v : Int, 0 ≤ u → u < n → 0 ≤ v → v < n → mvH n α β δ π v - mvH n α β δ π u ≤ δ u v := fun u v a b c d => by
    have hd := (hδ.2.1 u v a b c d).1
    have hv := mn_le n.toNat (π 21) (fun u => decide (β u < α u)) (fun u => π u + δ u v)
    rcases mn_at n.toNat (π 21) (fun u => decide (β u < α u)) (fun x => π x + δ x u) with e | ⟨k, k0, k1, k2, e⟩
    · unfold mvH; omega
    · have t := hδ.2.2 k u v k0 (by omega) a b c d
      have l := mn_le1 (n := n.toNat) (c := π 21) (p := fun u => decide (β u < α u)) (f := fun u => π u + δ u v) k0 k1 k2
      have l : mn n.toNat (π 21) (fun u => decide (β u < α u)) (fun u => π u + δ u v) ≤ π k + δ k v := l
      have e : mn n.toNat (π 21) (fun u => decide (β u < α u)) (fun x => π x + δ x u) = π k + δ k u := e
      unfold mvH
      omega
  have own : ∀ u : Int, 0 ≤ u → u < n → β u < α u → mvH n α β δ π u ≤ π u := fun u a b c => by
    have l := mn_le1 (n := n.toNat) (c := π 21) (p := fun u => decide (β u < α u)) (f := fun x => π x + δ x u) a (by omega) (decide_eq_true c)
    have l : mn n.toNat (π 21) (fun u => decide (β u < α u)) (fun x => π x + δ x u) ≤ π u + δ u u := l
    have := hδ.1 u a b
    unfold mvH
    omega
  have low : ∀ (v c : Int), 0 ≤ v → v < n → α v < β v → c ≤ π 21 → c ≤ π v → c ≤ mvH n α β δ π v := fun v c a b hv q1 q2 => by
    refine le_mn q1 (fun k k0 k1 k2 => ?_)
    have kk := dec k k2
    have r := (arc_room hD (h2 k v k0 (by omega) a b kk hv)).2.2.1 (f2 k v k0 (by omega) a b kk hv).1
    show c ≤ π k + δ k v
    omega
  refine ⟨lip, fun u v a b c d hg => ?_, fun u a b => ⟨le_mn (hD.2.2.1 21 (by omega) (by omega)) (fun k k0 k1 k2 => ?_), mn_le _ _ _ _⟩, fun u a b hl => ?_, fun v a b hl => ?_⟩
  · by_cases e : u = v
    · subst e
      rw [hδ.1 u a b]
      omega
    · have hg : 0 < (if β u < α u ∧ α v < β v then M (32 + 0) (2 * jm u v + 1) else 0) + (if u = v then min (α u) (β u) else 0) := hg
      rw [if_neg e, Int.add_zero] at hg
      by_cases c1 : β u < α u ∧ α v < β v
      · rw [if_pos c1] at hg
        obtain ⟨r0, r1, r2⟩ := f2 u v a b c d c1.1 c1.2
        have p1 := (arc_room hD (h2 u v a b c d c1.1 c1.2)).2.2.2 hS hg
        have p2 := (arc_room hD (h2 u v a b c d c1.1 c1.2)).2.2.1 r0
        have p3 := (arc_room hD (h3 v c d c1.2)).2.2.2 hS (by omega)
        have q1 := low v (π v) c d c1.2 (by omega) (Int.le_refl _)
        have q2 := own u a b c1.1
        have q3 := lip u v a b c d
        omega
      · rw [if_neg c1] at hg; omega
  · have := hD.2.2.1 k k0 (by omega)
    have := (hδ.2.1 k u k0 (by omega) a b).1
    show 0 ≤ π k + δ k u
    omega
  · rw [s1 u a b] at hl
    by_cases c : β u < α u
    · rw [if_pos c] at hl
      have r1 := (h1 u a b c).2.2.2.2.1
      have r2 := (arc_room hD (h1 u a b c)).2.2.1 (by omega)
      have := own u a b c
      have := hD.2.2.2.1
      omega
    · rw [if_neg c] at hl; omega
  · rw [s2 v a b] at hl
    by_cases c : α v < β v
    · rw [if_pos c] at hl
      have r1 := (h3 v a b c).2.2.2.2.1
      have r2 := (arc_room hD (h3 v a b c)).2.2.1 (by omega)
      exact low v (π 21) a b c (Int.le_refl _) (by omega)
    · rw [if_neg c] at hl; omega
theorem mov_som {n : Int} {α β : Int → Int} {δ : Int → Int → Int} {M : Mem} {π js : Int → Int} {jm : Int → Int → Int} {jt : Int → Int} (hn : n ≤ 10) (hδ : Mtr n δ) (hα : ∀ v : Int, 0 ≤ v → v < n → (0 ≤ α v ∧ α v ≤ 1000) ∧ 0 ≤ β v ∧ β v ≤ 1000) (H : MovF n α β δ M π js jm jt) : Som n δ α β (M (8 + 0) 1 + su n (fun v => min (α v) (β v))) (M (8 + 0) 2) := by
  obtain ⟨g1, g2, g3, g4, g5⟩ := mov_heights hn hδ hα H
  rw [← mov_cost hn hδ H]
  exact som_of (A := mvH n α β δ π) (B := mvH n α β δ π) (l := π 21) (mov_flow hn hα H).2.2 g1 g2 (fun u a b => ⟨g4 u a b, fun _ => (g3 u a b).1⟩) (fun v a b => ⟨g5 v a b, fun _ => (g3 v a b).2⟩)
/-- a part of a sum -/
theorem su_part (n : Nat) (f : Int → Int) (m : Int) (hf : ∀ k : Int, 0 ≤ k → k < n → 0 ≤ f k) (h0 : 0 ≤ m) (h1 : m ≤ su n f) : ∃ g : Int → Int, (∀ k : Int, 0 ≤ k → k < n → 0 ≤ g k ∧ g k ≤ f k) ∧ su n g = m := by
  induction n generalizing m with
  | zero => exact ⟨fun _ => 0, fun k _ _ => by omega, by rw [show ((0 : Nat) : Int) = 0 from rfl, su_0] at h1 ⊢; omega⟩
  | succ n ih =>
    have e : su ((n + 1 : Nat) : Int) f = su n f + f n := su_s (n := (n : Int)) (by omega) f
    rw [e] at h1
    have hn := hf n (by omega) (by omega)
    obtain ⟨g, g1, g2⟩ := ih (m - min m (f n)) (fun k a b => hf k a (by omega)) (by omega) (by
      by_cases c : m ≤ f n
      · have := su_nonneg (n := (n : Int)) (f := f) (fun k a b => hf k a (by omega))
        omega
      · omega)
    refine ⟨up g n (min m (f n)), fun k a b => ?_, ?_⟩
    · by_cases c : k = n
      · rw [c, up_s]; omega
      · rw [up_n c]; exact g1 k a (by omega)
    · have e2 : su ((n + 1 : Nat) : Int) (up g n (min m (f n))) = su n (up g n (min m (f n))) + up g n (min m (f n)) n := su_s (n := (n : Int)) (by omega) _
      rw [e2, up_s, su_congr (n := (n : Int)) (g := g) (fun k a b => up_n (by omega)), g2]
      omega
theorem som_stay {n : Int} {α β : Int → Int} {δ : Int → Int → Int} {m : Int} (hn : 0 ≤ n) (hδ : Mtr n δ) (hα : ∀ v : Int, 0 ≤ v → v < n → (0 ≤ α v ∧ α v ≤ 1000) ∧ 0 ≤ β v ∧ β v ≤ 1000) (h0 : 0 ≤ m) (h1 : m ≤ su n (fun v => min (α v) (β v))) : Som n δ α β m 0 := by
  obtain ⟨g, g1, g2⟩ := su_part n.toNat (fun v => min (α v) (β v)) m (fun k a b => by have := hα k a (by omega); show 0 ≤ min (α k) (β k); omega) h0 (by rw [Int.toNat_of_nonneg hn]; exact h1)
  rw [Int.toNat_of_nonneg hn] at g2
  have r : ∀ u : Int, 0 ≤ u → u < n → su n (fun v => if u = v then g u else 0) = g u := fun u a b => su_diag (f := g) a b
  refine ⟨⟨fun u v => if u = v then g u else 0, ⟨fun u v a b c d => ?_, fun u a b => ?_, fun v a b => ?_, ?_⟩, ?_⟩, fun G hG => ?_⟩
  · have := g1 u a (by omega)
    show 0 ≤ (if u = v then g u else 0)
    split <;> omega
  · rw [r u a b]
    have := (g1 u a (by omega)).2
    have : g u ≤ min (α u) (β u) := this
    omega
  · rw [su_diag2 (f := g) a b]
    have := (g1 v a (by omega)).2
    have : g v ≤ min (α v) (β v) := this
    omega
  · rw [su_congr (fun u a b => r u a b)]; exact g2
  · refine su_all0 (fun u a b => su_all0 (fun v c d => ?_))
    show (if u = v then g u else 0) * δ u v = 0
    by_cases e : u = v
    · subst e; rw [hδ.1 u a b, Int.mul_zero]
    · rw [if_neg e, Int.zero_mul]
  · exact su_nonneg (fun u a b => su_nonneg (fun v c d => Int.mul_nonneg (hG.1 u v a b c d) (hδ.2.1 u v a b c d).1))
/-- all that is wanted is pushed -/
theorem mov_all {n : Int} {α β : Int → Int} {δ : Int → Int → Int} {M : Mem} {π js : Int → Int} {jm : Int → Int → Int} {jt : Int → Int} {m : Int} (hn : n ≤ 10) (hα : ∀ v : Int, 0 ≤ v → v < n → (0 ≤ α v ∧ α v ≤ 1000) ∧ 0 ≤ β v ∧ β v ≤ 1000) (ma : m ≤ su n α) (mb : m ≤ su n β) (H : MovF n α β δ M π js jm jt) (h : m - su n (fun v => min (α v) (β v)) ≤ M (8 + 0) 1 ∨ ∃ ra : Int → Int, FinZ 0 M π M ra ∧ 1000000 ≤ M (36 + 0) 21) : m - su n (fun v => min (α v) (β v)) ≤ M (8 + 0) 1 := by
  rcases h with h | ⟨ra, F, hk⟩
  · exact h
  · apply Classical.byContradiction
    intro hc
    obtain ⟨f1, f2, f3⟩ := mov_flow hn hα H
    obtain ⟨s1, s2, s3⟩ := mov_sums hn H
    have s4 : su n (fun v => su n (fun u => mvG α β (M (32 + 0)) jm u v)) = M (8 + 0) 1 + su n (fun v => min (α v) (β v)) := by rw [su_swap n n (fun v u => mvG α β (M (32 + 0)) jm u v)]; exact s3
    obtain ⟨hS, hD, h1, h2, h3, hφ⟩ := H
    obtain ⟨u, u0, u1, u2⟩ := su_lt (n := n) (f := fun u => su n (mvG α β (M (32 + 0)) jm u)) (g := α) (fun u a b => f3.2.1 u a b) (by omega)
    obtain ⟨v, v0, v1, v2⟩ := su_lt (n := n) (f := fun v => su n (fun u => mvG α β (M (32 + 0)) jm u v)) (g := β) (fun v a b => f3.2.2.1 v a b) (by omega)
    have u2 : su n (mvG α β (M (32 + 0)) jm u) < α u := u2
    have v2 : su n (fun u => mvG α β (M (32 + 0)) jm u v) < β v := v2
    rw [s1 u u0 u1] at u2
    rw [s2 v v0 v1] at v2
    have cu : β u < α u := by
      by_cases c : β u < α u
      · exact c
      · rw [if_neg c] at u2; omega
    have cv : α v < β v := by
      by_cases c : α v < β v
      · exact c
      · rw [if_neg c] at v2; omega
    rw [if_pos cu] at u2
    rw [if_pos cv] at v2
    obtain ⟨x1, x2, x3, x4, x5, x6⟩ := h1 u u0 u1 cu
    obtain ⟨y1, y2, y3, y4, y5, y6⟩ := h2 u v u0 u1 v0 v1 cu cv
    obtain ⟨z1, z2, z3, z4, z5, z6⟩ := h3 v v0 v1 cv
    have d20 : M (36 + 0) 20 < 1000000 := by
      have := (F.1 20 (by omega) (by omega)).2.2.1 rfl
      omega
    have du := (F.2.2 (2 * js u) (by omega) (by omega) (by omega) (by rw [x3]; exact d20)).1
    rw [x4] at du
    have dv := (F.2.2 (2 * jm u v) (by omega) (by omega) (f2 u v u0 u1 v0 v1 cu cv).1 (by rw [y3]; exact du)).1
    rw [y4] at dv
    have dt := (F.2.2 (2 * jt v) (by omega) (by omega) (by omega) (by rw [z3]; exact dv)).1
    rw [z4] at dt
    omega
