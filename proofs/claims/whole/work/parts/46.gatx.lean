/-! the class's answer through gates is what is asked -/
def gX (dir : Int → Int → Int) (R : Int → Int) (jr : Int → Int → Int) : Int → Int → Int := fun u v => if dir u v < 1000000 then R (2 * jr u v + 1) else 0
theorem movg_bal {n : Int} {α β B : Int → Int} {dir : Int → Int → Int} {M : Mem} {π js jg : Int → Int} {jr : Int → Int → Int} {jt : Int → Int} (hn : n ≤ 10) (H : MovG n α β B dir M π js jg jr jt) :
    (∀ y : Int, 0 ≤ y → y < n → (if β y < α y then M (32 + 0) (2 * js y + 1) else 0) + su n (fun u => gX dir (M (32 + 0)) jr u y) - M (32 + 0) (2 * jg y + 1) = (if α y < β y then M (32 + 0) (2 * jt y + 1) else 0)) ∧ (∀ y : Int, 0 ≤ y → y < n → su n (gX dir (M (32 + 0)) jr y) = M (32 + 0) (2 * jg y + 1)) ∧ su n (fun u => if β u < α u then M (32 + 0) (2 * js u + 1) else 0) = M (8 + 0) 1 ∧ su n (fun v => if α v < β v then M (32 + 0) (2 * jt v + 1) else 0) = M (8 + 0) 1 ∧ cst n dir (gX dir (M (32 + 0)) jr) = M (8 + 0) 2 := by
  obtain ⟨hS, hD, h1, hg, h2, h3, hφ⟩ := H
  obtain ⟨d1, d2, d3, d4, d5, d6, d7⟩ := hD
  have flow : ∀ w : Int → Int, su n (fun u => (if β u < α u then M (32 + 0) (2 * js u + 1) else 0) * (w 20 - w u)) + (su n (fun u => M (32 + 0) (2 * jg u + 1) * (w u - w (10 + u))) + su n (fun u => su n (fun v => gX dir (M (32 + 0)) jr u v * (w (10 + u) - w v)))) + su n (fun v => (if α v < β v then M (32 + 0) (2 * jt v + 1) else 0) * (w v - w 21)) = M (8 + 0) 1 * (w 20 - w 21) := fun w => by
    rw [← d5 w]
    unfold fs
    rw [hφ, ← su_add]
    refine congr (congrArg _ (congr (congrArg _ (su_congr (fun u a b => ?_))) (su_congr (fun u a b => ?_)))) (su_congr (fun v a b => ?_))
    · by_cases q : β u < α u
      · rw [if_pos q, if_pos q]; obtain ⟨_, _, g3, g4, _⟩ := h1 u a b q; show _ = M (32 + 0) (2 * js u + 1) * (w (M (28 + 0) (2 * js u)) - w (M (30 + 0) (2 * js u))); rw [g3, g4]
      · rw [if_neg q, if_neg q, Int.zero_mul]
    · obtain ⟨_, _, g3, g4, _⟩ := hg u a b
      show _ = M (32 + 0) (2 * jg u + 1) * (w (M (28 + 0) (2 * jg u)) - w (M (30 + 0) (2 * jg u))) + _
      rw [g3, g4]
      congr 1
      refine su_congr (fun v c d => ?_)
      unfold gX
      by_cases q : dir u v < 1000000
      · rw [if_pos q, if_pos q]; obtain ⟨_, _, g3, g4, _⟩ := h2 u v a b c d q; show _ = M (32 + 0) (2 * jr u v + 1) * (w (M (28 + 0) (2 * jr u v)) - w (M (30 + 0) (2 * jr u v))); rw [g3, g4]
      · rw [if_neg q, if_neg q, Int.zero_mul]
    · by_cases q : α v < β v
      · rw [if_pos q, if_pos q]; obtain ⟨_, _, g3, g4, _⟩ := h3 v a b q; show _ = M (32 + 0) (2 * jt v + 1) * (w (M (28 + 0) (2 * jt v)) - w (M (30 + 0) (2 * jt v))); rw [g3, g4]
      · rw [if_neg q, if_neg q, Int.zero_mul]
  -- the sums at a node x: where a weight is 1 at x alone
  have pick : ∀ (f g : Int → Int) (y : Int), 0 ≤ y → y < n → (∀ k : Int, 0 ≤ k → k < n → k ≠ y → g k = 0) → su n (fun k => f k * g k) = f y * g y := fun f g y y0 y1 hk => su_one (f := fun k => f k * g k) y0 y1 (fun k k0 k1 k2 => by show f k * g k = 0; rw [hk k k0 k1 k2, Int.mul_zero])
  have none : ∀ (f g : Int → Int), (∀ k : Int, 0 ≤ k → k < n → g k = 0) → su n (fun k => f k * g k) = 0 := fun f g hk => su_all0 (fun k k0 k1 => by show f k * g k = 0; rw [hk k k0 k1, Int.mul_zero])
  refine ⟨fun y y0 y1 => ?_, fun y y0 y1 => ?_, ?_, ?_, ?_⟩
  · have f := flow (fun z => if z = y then 1 else 0)
    have e1 := pick (fun u => if β u < α u then M (32 + 0) (2 * js u + 1) else 0) (fun u => (if (20 : Int) = y then (1 : Int) else 0) - (if u = y then (1 : Int) else 0)) y y0 y1 (fun k k0 k1 hk => by show (if (20 : Int) = y then (1 : Int) else 0) - (if k = y then (1 : Int) else 0) = 0; rw [if_neg (by omega), if_neg hk]; rfl)
    have e2 := pick (fun u => M (32 + 0) (2 * jg u + 1)) (fun u => (if u = y then (1 : Int) else 0) - (if 10 + u = y then (1 : Int) else 0)) y y0 y1 (fun k k0 k1 hk => by show (if k = y then (1 : Int) else 0) - (if 10 + k = y then (1 : Int) else 0) = 0; rw [if_neg hk, if_neg (by omega)]; rfl)
    have e3 : su n (fun u => su n (fun v => gX dir (M (32 + 0)) jr u v * ((if 10 + u = y then (1 : Int) else 0) - (if v = y then (1 : Int) else 0)))) = su n (fun u => - gX dir (M (32 + 0)) jr u y) := su_congr (fun u u0 u1 => by
      rw [pick (gX dir (M (32 + 0)) jr u) (fun v => (if 10 + u = y then (1 : Int) else 0) - (if v = y then (1 : Int) else 0)) y y0 y1 (fun k k0 k1 hk => by show (if 10 + u = y then (1 : Int) else 0) - (if k = y then (1 : Int) else 0) = 0; rw [if_neg (by omega), if_neg hk]; rfl)]
      show gX dir (M (32 + 0)) jr u y * ((if 10 + u = y then (1 : Int) else 0) - (if y = y then (1 : Int) else 0)) = _
      rw [if_neg (by omega), if_pos rfl]; omega)
    have e4 := pick (fun v => if α v < β v then M (32 + 0) (2 * jt v + 1) else 0) (fun v => (if v = y then (1 : Int) else 0) - (if (21 : Int) = y then (1 : Int) else 0)) y y0 y1 (fun k k0 k1 hk => by show (if k = y then (1 : Int) else 0) - (if (21 : Int) = y then (1 : Int) else 0) = 0; rw [if_neg hk, if_neg (by omega)]; rfl)
    rw [su_neg] at e3
    rw [e1, e2, e3, e4, if_pos rfl, if_neg (show ¬ (20 : Int) = y by omega), if_neg (show ¬ 10 + y = y by omega), if_neg (show ¬ (21 : Int) = y by omega), Int.sub_self, Int.mul_zero] at f
    omega
  · have f := flow (fun z => if z = 10 + y then 1 else 0)
    have e1 := none (fun u => if β u < α u then M (32 + 0) (2 * js u + 1) else 0) (fun u => (if (20 : Int) = 10 + y then (1 : Int) else 0) - (if u = 10 + y then (1 : Int) else 0)) (fun k k0 k1 => by show (if (20 : Int) = 10 + y then (1 : Int) else 0) - (if k = 10 + y then (1 : Int) else 0) = 0; rw [if_neg (by omega), if_neg (by omega)]; rfl)
    have e2 := pick (fun u => M (32 + 0) (2 * jg u + 1)) (fun u => (if u = 10 + y then (1 : Int) else 0) - (if 10 + u = 10 + y then (1 : Int) else 0)) y y0 y1 (fun k k0 k1 hk => by show (if k = 10 + y then (1 : Int) else 0) - (if 10 + k = 10 + y then (1 : Int) else 0) = 0; rw [if_neg (by omega), if_neg (by omega)]; rfl)
    have e3 : su n (fun u => su n (fun v => gX dir (M (32 + 0)) jr u v * ((if 10 + u = 10 + y then (1 : Int) else 0) - (if v = 10 + y then (1 : Int) else 0)))) = su n (gX dir (M (32 + 0)) jr y) := by
      rw [su_one (j := y) y0 y1 (fun u u0 u1 hu => none (gX dir (M (32 + 0)) jr u) (fun v => (if 10 + u = 10 + y then (1 : Int) else 0) - (if v = 10 + y then (1 : Int) else 0)) (fun k k0 k1 => by show (if 10 + u = 10 + y then (1 : Int) else 0) - (if k = 10 + y then (1 : Int) else 0) = 0; rw [if_neg (by omega), if_neg (by omega)]; rfl))]
      refine su_congr (fun v v0 v1 => ?_)
      rw [if_pos rfl, if_neg (by omega), Int.sub_zero, Int.mul_one]
    have e4 := none (fun v => if α v < β v then M (32 + 0) (2 * jt v + 1) else 0) (fun v => (if v = 10 + y then (1 : Int) else 0) - (if (21 : Int) = 10 + y then (1 : Int) else 0)) (fun k k0 k1 => by show (if k = 10 + y then (1 : Int) else 0) - (if (21 : Int) = 10 + y then (1 : Int) else 0) = 0; rw [if_neg (by omega), if_neg (by omega)]; rfl)
    rw [e1, e2, e3, e4, if_pos rfl, if_neg (show ¬ (20 : Int) = 10 + y by omega), if_neg (show ¬ y = 10 + y by omega), if_neg (show ¬ (21 : Int) = 10 + y by omega), Int.sub_self, Int.mul_zero] at f
    omega
  · have f := flow (fun z => if z = 20 then 1 else 0)
    have e1 : su n (fun u => (if β u < α u then M (32 + 0) (2 * js u + 1) else 0) * ((if (20 : Int) = 20 then (1 : Int) else 0) - (if u = 20 then (1 : Int) else 0))) = su n (fun u => if β u < α u then M (32 + 0) (2 * js u + 1) else 0) := su_congr (fun u u0 u1 => by rw [if_pos rfl, if_neg (show ¬ u = 20 by omega), Int.sub_zero, Int.mul_one])
    have e2 := none (fun u => M (32 + 0) (2 * jg u + 1)) (fun u => (if u = 20 then (1 : Int) else 0) - (if 10 + u = 20 then (1 : Int) else 0)) (fun k k0 k1 => by show (if k = 20 then (1 : Int) else 0) - (if 10 + k = 20 then (1 : Int) else 0) = 0; rw [if_neg (by omega), if_neg (by omega)]; rfl)
    have e3 : su n (fun u => su n (fun v => gX dir (M (32 + 0)) jr u v * ((if 10 + u = 20 then (1 : Int) else 0) - (if v = 20 then (1 : Int) else 0)))) = 0 := su_all0 (fun u u0 u1 => none (gX dir (M (32 + 0)) jr u) (fun v => (if 10 + u = 20 then (1 : Int) else 0) - (if v = 20 then (1 : Int) else 0)) (fun k k0 k1 => by show (if 10 + u = 20 then (1 : Int) else 0) - (if k = 20 then (1 : Int) else 0) = 0; rw [if_neg (by omega), if_neg (by omega)]; rfl))
    have e4 := none (fun v => if α v < β v then M (32 + 0) (2 * jt v + 1) else 0) (fun v => (if v = 20 then (1 : Int) else 0) - (if (21 : Int) = 20 then (1 : Int) else 0)) (fun k k0 k1 => by show (if k = 20 then (1 : Int) else 0) - (if (21 : Int) = 20 then (1 : Int) else 0) = 0; rw [if_neg (by omega), if_neg (by omega)]; rfl)
    rw [e1, e2, e3, e4, if_pos rfl, if_neg (show ¬ (21 : Int) = 20 by omega), Int.sub_zero, Int.mul_one] at f
    omega
  · have f := flow (fun z => if z = 21 then 1 else 0)
    have e1 := none (fun u => if β u < α u then M (32 + 0) (2 * js u + 1) else 0) (fun u => (if (20 : Int) = 21 then (1 : Int) else 0) - (if u = 21 then (1 : Int) else 0)) (fun k k0 k1 => by show (if (20 : Int) = 21 then (1 : Int) else 0) - (if k = 21 then (1 : Int) else 0) = 0; rw [if_neg (by omega), if_neg (by omega)]; rfl)
    have e2 := none (fun u => M (32 + 0) (2 * jg u + 1)) (fun u => (if u = 21 then (1 : Int) else 0) - (if 10 + u = 21 then (1 : Int) else 0)) (fun k k0 k1 => by show (if k = 21 then (1 : Int) else 0) - (if 10 + k = 21 then (1 : Int) else 0) = 0; rw [if_neg (by omega), if_neg (by omega)]; rfl)
    have e3 : su n (fun u => su n (fun v => gX dir (M (32 + 0)) jr u v * ((if 10 + u = 21 then (1 : Int) else 0) - (if v = 21 then (1 : Int) else 0)))) = 0 := su_all0 (fun u u0 u1 => none (gX dir (M (32 + 0)) jr u) (fun v => (if 10 + u = 21 then (1 : Int) else 0) - (if v = 21 then (1 : Int) else 0)) (fun k k0 k1 => by show (if 10 + u = 21 then (1 : Int) else 0) - (if k = 21 then (1 : Int) else 0) = 0; rw [if_neg (by omega), if_neg (by omega)]; rfl))
    have e4 : su n (fun v => (if α v < β v then M (32 + 0) (2 * jt v + 1) else 0) * ((if v = 21 then (1 : Int) else 0) - (if (21 : Int) = 21 then (1 : Int) else 0))) = - su n (fun v => if α v < β v then M (32 + 0) (2 * jt v + 1) else 0) := by
      rw [← su_neg]
      refine su_congr (fun v v0 v1 => ?_)
      rw [if_pos (rfl : (21 : Int) = 21), if_neg (show ¬ v = 21 by omega)]; omega
    rw [e1, e2, e3, e4, if_pos rfl, if_neg (show ¬ (20 : Int) = 21 by omega)] at f
    omega
  · rw [← d6]
    unfold fs
    rw [hφ]
    have e1 : su n (fun u => if β u < α u then M (32 + 0) (2 * js u + 1) * M (34 + 0) (2 * js u) else 0) = 0 := su_all0 (fun u a b => by
      by_cases q : β u < α u
      · rw [if_pos q]; obtain ⟨_, _, _, _, _, g6⟩ := h1 u a b q; rw [g6, Int.mul_zero]
      · rw [if_neg q])
    have e2 : su n (fun v => if α v < β v then M (32 + 0) (2 * jt v + 1) * M (34 + 0) (2 * jt v) else 0) = 0 := su_all0 (fun v a b => by
      by_cases q : α v < β v
      · rw [if_pos q]; obtain ⟨_, _, _, _, _, g6⟩ := h3 v a b q; rw [g6, Int.mul_zero]
      · rw [if_neg q])
    have e3 : su n (fun u => M (32 + 0) (2 * jg u + 1) * M (34 + 0) (2 * jg u) + su n (fun v => if dir u v < 1000000 then M (32 + 0) (2 * jr u v + 1) * M (34 + 0) (2 * jr u v) else 0)) = cst n dir (gX dir (M (32 + 0)) jr) := su_congr (fun u a b => by
      rw [(hg u a b).2.2.2.2.2, Int.mul_zero, Int.zero_add]
      refine su_congr (fun v c d => ?_)
      unfold gX
      by_cases q : dir u v < 1000000
      · rw [if_pos q, if_pos q]; obtain ⟨_, _, _, _, _, g6⟩ := h2 u v a b c d q; rw [g6]
      · rw [if_neg q, if_neg q, Int.zero_mul])
    rw [e1, e2, e3]
    omega
theorem movg_gat {n : Int} {α β B : Int → Int} {dir : Int → Int → Int} {M : Mem} {π js jg : Int → Int} {jr : Int → Int → Int} {jt : Int → Int} (hn : 0 ≤ n ∧ n ≤ 10) (hα : ∀ v : Int, 0 ≤ v → v < n → (0 ≤ α v ∧ α v ≤ 1000) ∧ 0 ≤ β v ∧ β v ≤ 1000) (hB : ∀ v : Int, 0 ≤ v → v < n → -1 ≤ B v ∧ B v ≤ 100000) (hsum : su n α = su n β) (H : MovG n α β B dir M π js jg jr jt) (hle : M (8 + 0) 1 ≤ su n (fun u => if β u < α u then α u - β u else 0)) (hfin : su n (fun u => if β u < α u then α u - β u else 0) ≤ M (8 + 0) 1 ∨ ∃ ra : Int → Int, FinZ 0 M π M ra ∧ 1000000 ≤ M (36 + 0) 21) : Gat n 1000000 dir B α β (if M (8 + 0) 1 = su n (fun u => if β u < α u then α u - β u else 0) then M (8 + 0) 2 else -1) := by
  obtain ⟨b1, b2, b3, b4, b5⟩ := movg_bal hn.2 H
  obtain ⟨hS, hD, h1, hg, h2, h3, hφ⟩ := H
  have hmv : M (8 + 0) 1 ≤ 10000 := by
    have := su_bnd (n := n) (B := 1000) (f := fun u => if β u < α u then α u - β u else 0) hn.1 (fun k a b => by
      have := hα k a b
      show 0 ≤ (if β k < α k then α k - β k else 0) ∧ (if β k < α k then α k - β k else 0) ≤ 1000
      split <;> omega)
    omega
  have hdef : su n (fun v => if α v < β v then β v - α v else 0) = su n (fun u => if β u < α u then α u - β u else 0) := by
    have e : su n (fun u => (if β u < α u then α u - β u else 0) - (if α u < β u then β u - α u else 0)) = su n (fun u => α u - β u) := su_congr (fun u _ _ => by split <;> split <;> omega)
    rw [su_sub, su_sub] at e
    omega
  have x0 : ∀ u v : Int, 0 ≤ u → u < n → 0 ≤ v → v < n → 0 ≤ gX dir (M (32 + 0)) jr u v ∧ (0 < gX dir (M (32 + 0)) jr u v → dir u v < 1000000) := fun u v a b c d => by
    unfold gX
    by_cases q : dir u v < 1000000
    · rw [if_pos q]; exact ⟨(arc_room hD (h2 u v a b c d q)).2.1, fun _ => q⟩
    · rw [if_neg q]; exact ⟨Int.le_refl _, fun r => by omega⟩
  have gate : ∀ u : Int, 0 ≤ u → u < n → B u ≠ -1 → su n (gX dir (M (32 + 0)) jr u) ≤ B u := fun u a b q => by
    rw [b2 u a b]
    have r1 := (hg u a b).2.2.2.2.1
    have r2 := arc_room hD (hg u a b)
    unfold capG at r1
    rw [if_neg q] at r1
    omega
  have groom : ∀ u : Int, 0 ≤ u → u < n → (B u = -1 ∨ su n (gX dir (M (32 + 0)) jr u) < B u) → 0 < M (32 + 0) (2 * jg u) := fun u a b q => by
    rw [b2 u a b] at q
    have r1 := (hg u a b).2.2.2.2.1
    have r2 := (hg u a b)
    have r3 := hD.2.2.2.2.2.2.2 (2 * jg u + 1) (by have := r2.1; omega) (by have := r2.2.1; omega) (by omega)
    unfold capG at r1
    have := hB u a b
    rcases q with q | q
    · rw [if_pos q] at r1; omega
    · split at r1 <;> omega
  have rroom : ∀ u v : Int, 0 ≤ u → u < n → 0 ≤ v → v < n → dir u v < 1000000 → 0 < M (32 + 0) (2 * jr u v) := fun u v a b c d q => by
    have r2 := (h2 u v a b c d q)
    have r3 := hD.2.2.2.2.2.2.2 (2 * jr u v + 1) (by have := r2.1; omega) (by have := r2.2.1; omega) (by omega)
    have r1 := r2.2.2.2.2.1
    omega
  have sle : ∀ u : Int, 0 ≤ u → u < n → (if β u < α u then M (32 + 0) (2 * js u + 1) else 0) ≤ (if β u < α u then α u - β u else 0) := fun u a b => by
    by_cases q : β u < α u
    · rw [if_pos q, if_pos q]
      have r1 := (h1 u a b q).2.2.2.2.1
      have r2 := arc_room hD (h1 u a b q)
      omega
    · rw [if_neg q, if_neg q]; exact Int.le_refl _
  have tle : ∀ v : Int, 0 ≤ v → v < n → (if α v < β v then M (32 + 0) (2 * jt v + 1) else 0) ≤ (if α v < β v then β v - α v else 0) := fun v a b => by
    by_cases q : α v < β v
    · rw [if_pos q, if_pos q]
      have r1 := (h3 v a b q).2.2.2.2.1
      have r2 := arc_room hD (h3 v a b q)
      omega
    · rw [if_neg q, if_neg q]; exact Int.le_refl _
  by_cases hc : M (8 + 0) 1 = su n (fun u => if β u < α u then α u - β u else 0)
  · rw [if_pos hc]
    have sa := su_eq_all (n := n) (f := fun u => if β u < α u then M (32 + 0) (2 * js u + 1) else 0) (g := fun u => if β u < α u then α u - β u else 0) sle (by rw [b3, hc])
    have ta := su_eq_all (n := n) (f := fun v => if α v < β v then M (32 + 0) (2 * jt v + 1) else 0) (g := fun v => if α v < β v then β v - α v else 0) tle (by rw [b4, hc, hdef])
    have X : GFl n 1000000 dir B α β (gX dir (M (32 + 0)) jr) := ⟨x0, fun u a b => by
      have e1 := b1 u a b
      have e2 : (if β u < α u then M (32 + 0) (2 * js u + 1) else 0) = (if β u < α u then α u - β u else 0) := sa u a b
      have e3 : (if α u < β u then M (32 + 0) (2 * jt u + 1) else 0) = (if α u < β u then β u - α u else 0) := ta u a b
      rw [e2, e3] at e1
      rw [b2 u a b]
      have e1 : (if β u < α u then α u - β u else 0) + su n (fun v => gX dir (M (32 + 0)) jr v u) - M (32 + 0) (2 * jg u + 1) = (if α u < β u then β u - α u else 0) := e1
      split at e1 <;> split at e1 <;> omega, gate⟩
    right
    refine ⟨hD.2.2.2.2.2.2.1.2.1, ⟨_, X, b5⟩, ?_⟩
    rw [← b5]
    refine g_opt (I := π) (O := fun u => π (10 + u)) X (fun u v a b c d q => ?_) (fun u v a b c d q => ?_) (fun u a b q => ?_) (fun u a b q => ?_)
    · have := (arc_room hD (h2 u v a b c d q)).2.2.1 (rroom u v a b c d q)
      show π v - π (10 + u) ≤ dir u v
      omega
    · have q1 := (x0 u v a b c d).2 q
      have r1 := (arc_room hD (h2 u v a b c d q1)).2.2.1 (rroom u v a b c d q1)
      have r2 := (arc_room hD (h2 u v a b c d q1)).2.2.2 hS (by unfold gX at q; rw [if_pos q1] at q; exact q)
      show π v - π (10 + u) = dir u v
      omega
    · have := (arc_room hD (hg u a b)).2.2.1 (groom u a b q)
      show π (10 + u) ≤ π u
      omega
    · rw [b2 u a b] at q
      have := (arc_room hD (hg u a b)).2.2.2 hS q
      show π u ≤ π (10 + u)
      omega
  · rw [if_neg hc]
    left
    refine ⟨rfl, ?_⟩
    rcases hfin with hf | ⟨ra, F, hk⟩
    · omega
    · have d20 : M (36 + 0) 20 < 1000000 := by
        have := (F.1 20 (by omega) (by omega)).2.2.1 rfl
        omega
      have go : ∀ (j a1 a2 a3 a4 : Int), Arc 0 M j a1 a2 a3 a4 → 0 < M (32 + 0) (2 * j) → M (36 + 0) a1 < 1000000 → M (36 + 0) a2 < 1000000 := fun j a1 a2 a3 a4 hA hr hd => by
        obtain ⟨g1, g2, g3, g4, g5, g6⟩ := hA
        have := (F.2.2 (2 * j) (by omega) (by omega) hr (by rw [g3]; exact hd)).1
        rw [g4] at this
        exact this
      have back : ∀ (j a1 a2 a3 a4 : Int), Arc 0 M j a1 a2 a3 a4 → 0 < M (32 + 0) (2 * j + 1) → M (36 + 0) a2 < 1000000 → M (36 + 0) a1 < 1000000 := fun j a1 a2 a3 a4 hA hr hd => by
        obtain ⟨g1, g2, g3, g4, g5, g6⟩ := hA
        obtain ⟨p1, p2, p3⟩ := hS.2.2.2 (2 * j) (by omega) (by omega)
        rw [pr1_e] at p1 p2
        have := (F.2.2 (2 * j + 1) (by omega) (by omega) hr (by rw [p1, g4]; exact hd)).1
        rw [p2, g3] at this
        exact this
      have tfull : ∀ v : Int, 0 ≤ v → v < n → M (36 + 0) v < 1000000 → α v < β v → M (32 + 0) (2 * jt v + 1) = β v - α v := fun v a b hv q => by
        have r1 := (h3 v a b q).2.2.2.2.1
        have r2 := arc_room hD (h3 v a b q)
        by_cases r3 : 0 < M (32 + 0) (2 * jt v)
        · have := go _ _ _ _ _ (h3 v a b q) r3 hv
          omega
        · omega
      refine g_stuck (S := fun u => if β u < α u then M (32 + 0) (2 * js u + 1) else 0) (E := fun u => if α u < β u then M (32 + 0) (2 * jt u + 1) else 0) (X := gX dir (M (32 + 0)) jr) (I := fun u => M (36 + 0) u < 1000000) (O := fun u => M (36 + 0) (10 + u) < 1000000) x0 (fun u a b => by rw [b2 u a b]; exact b1 u a b) gate (fun u v a b c d q r => go _ _ _ _ _ (h2 u v a b c d r) (rroom u v a b c d r) q) (fun u a b q r => go _ _ _ _ _ (hg u a b) (groom u a b r) q) (fun u v a b c d q r => ?_) (fun u a b q r => ?_) (fun u a b q => ?_) ?_
      · have q1 := (x0 u v a b c d).2 r
        exact back _ _ _ _ _ (h2 u v a b c d q1) (by unfold gX at r; rw [if_pos q1] at r; exact r) q
      · rw [b2 u a b] at r
        exact back _ _ _ _ _ (hg u a b) r q
      · have s := sle u a b
        show (if β u < α u then M (32 + 0) (2 * js u + 1) else 0) - (if α u < β u then M (32 + 0) (2 * jt u + 1) else 0) ≤ α u - β u
        by_cases q1 : α u < β u
        · rw [if_pos q1, tfull u a b q q1, if_neg (by omega)]; omega
        · rw [if_neg q1]
          split at s <;> split <;> omega
      · obtain ⟨u, u0, u1, u2⟩ := su_lt (n := n) (f := fun u => if β u < α u then M (32 + 0) (2 * js u + 1) else 0) (g := fun u => if β u < α u then α u - β u else 0) sle (by rw [b3]; omega)
        have u2 : (if β u < α u then M (32 + 0) (2 * js u + 1) else 0) < (if β u < α u then α u - β u else 0) := u2
        by_cases q : β u < α u
        · rw [if_pos q, if_pos q] at u2
          have r1 := (h1 u u0 u1 q).2.2.2.2.1
          refine ⟨u, u0, u1, go _ _ _ _ _ (h1 u u0 u1 q) (by omega) d20, ?_⟩
          show (if β u < α u then M (32 + 0) (2 * js u + 1) else 0) - (if α u < β u then M (32 + 0) (2 * jt u + 1) else 0) < α u - β u
          rw [if_pos q, if_neg (by omega)]; omega
        · rw [if_neg q, if_neg q] at u2; omega
