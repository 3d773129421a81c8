/-! what the mover found is the least cost -/
def Mtr (n : Int) (δ : Int → Int → Int) : Prop := (∀ u : Int, 0 ≤ u → u < n → δ u u = 0) ∧ (∀ u v : Int, 0 ≤ u → u < n → 0 ≤ v → v < n → 0 ≤ δ u v ∧ δ u v ≤ 9000) ∧ ∀ u x v : Int, 0 ≤ u → u < n → 0 ≤ x → x < n → 0 ≤ v → v < n → δ u v ≤ δ u x + δ x v
def mvG (α β : Int → Int) (R : Int → Int) (jm : Int → Int → Int) : Int → Int → Int := fun u v => (if β u < α u ∧ α v < β v then R (2 * jm u v + 1) else 0) + (if u = v then min (α u) (β u) else 0)
theorem su_if_const {n : Int} {p : Prop} [Decidable p] {f : Int → Int} : su n (fun v => if p then f v else 0) = if p then su n f else 0 := by
  by_cases c : p
  · rw [if_pos c]; exact su_congr (fun v _ _ => if_pos c)
  · rw [if_neg c]; exact su_all0 (fun v _ _ => if_neg c)
theorem su_diag {n u : Int} {f : Int → Int} (h0 : 0 ≤ u) (h1 : u < n) : su n (fun v => if u = v then f u else 0) = f u := by
  rw [su_one (j := u) h0 h1 (fun k _ _ hk => if_neg (fun q => hk q.symm)), if_pos rfl]
theorem su_diag2 {n v : Int} {f : Int → Int} (h0 : 0 ≤ v) (h1 : v < n) : su n (fun u => if u = v then f u else 0) = f v := by
  rw [su_one (j := v) h0 h1 (fun k _ _ hk => if_neg hk), if_pos rfl]
/-- the balance at each node -/
theorem mov_bal {n : Int} {α β : Int → Int} {δ : Int → Int → Int} {M : Mem} {π js : Int → Int} {jm : Int → Int → Int} {jt : Int → Int} (hn : n ≤ 10) (H : MovF n α β δ M π js jm jt) : (∀ u : Int, 0 ≤ u → u < n → β u < α u → su n (fun v => if α v < β v then M (32 + 0) (2 * jm u v + 1) else 0) = M (32 + 0) (2 * js u + 1)) ∧ (∀ v : Int, 0 ≤ v → v < n → α v < β v → su n (fun u => if β u < α u then M (32 + 0) (2 * jm u v + 1) else 0) = M (32 + 0) (2 * jt v + 1)) ∧ su n (fun u => if β u < α u then M (32 + 0) (2 * js u + 1) else 0) = M (8 + 0) 1 ∧ su n (fun v => if α v < β v then M (32 + 0) (2 * jt v + 1) else 0) = M (8 + 0) 1 ∧ su n (fun u => su n (fun v => if β u < α u ∧ α v < β v then M (32 + 0) (2 * jm u v + 1) * δ u v else 0)) = M (8 + 0) 2 := by
  obtain ⟨hS, hD, h1, h2, h3, hφ⟩ := H
  obtain ⟨d1, d2, d3, d4, d5, d6, d7⟩ := hD
  have flow : ∀ w : Int → Int, su n (fun u => if β u < α u then M (32 + 0) (2 * js u + 1) * (w 20 - w u) else 0) + su n (fun u => su n (fun v => if β u < α u ∧ α v < β v then M (32 + 0) (2 * jm u v + 1) * (w u - w v) else 0)) + su n (fun v => if α v < β v then M (32 + 0) (2 * jt v + 1) * (w v - w 21) else 0) = M (8 + 0) 1 * (w 20 - w 21) := fun w => by
    rw [← d5 w]
    unfold fs
    rw [hφ]
    refine congr (congrArg _ (congr (congrArg _ (su_congr (fun u a b => ?_))) (su2_congr (fun u v a b c d => ?_)))) (su_congr (fun v a b => ?_))
    · by_cases q : β u < α u
      · rw [if_pos q, if_pos q]; obtain ⟨_, _, g3, g4, _⟩ := h1 u a b q; show _ = M (32 + 0) (2 * js u + 1) * (w (M (28 + 0) (2 * js u)) - w (M (30 + 0) (2 * js u))); rw [g3, g4]
      · rw [if_neg q, if_neg q]
    · by_cases q : β u < α u ∧ α v < β v
      · rw [if_pos q, if_pos q]; obtain ⟨_, _, g3, g4, _⟩ := h2 u v a b c d q.1 q.2; show _ = M (32 + 0) (2 * jm u v + 1) * (w (M (28 + 0) (2 * jm u v)) - w (M (30 + 0) (2 * jm u v))); rw [g3, g4]
      · rw [if_neg q, if_neg q]
    · by_cases q : α v < β v
      · rw [if_pos q, if_pos q]; obtain ⟨_, _, g3, g4, _⟩ := h3 v a b q; show _ = M (32 + 0) (2 * jt v + 1) * (w (M (28 + 0) (2 * jt v)) - w (M (30 + 0) (2 * jt v))); rw [g3, g4]
      · rw [if_neg q, if_neg q]
  refine ⟨fun x x0 x1 hx => ?_, fun x x0 x1 hx => ?_, ?_, ?_, ?_⟩
  · have f := flow (fun y => if y = x then 1 else 0)
    have e1 : su n (fun u => if β u < α u then M (32 + 0) (2 * js u + 1) * ((fun y : Int => if y = x then (1 : Int) else 0) 20 - (fun y : Int => if y = x then (1 : Int) else 0) u) else 0) = - M (32 + 0) (2 * js x + 1) := by
      rw [su_one (j := x) x0 x1 (fun k k0 k1 hk => by
        show (if β k < α k then M (32 + 0) (2 * js k + 1) * ((if (20 : Int) = x then (1 : Int) else 0) - (if k = x then (1 : Int) else 0)) else 0) = 0
        rw [if_neg (show (20 : Int) ≠ x by omega), if_neg hk]
        split
        · rw [Int.sub_self, Int.mul_zero]
        · rfl)]
      show (if β x < α x then M (32 + 0) (2 * js x + 1) * ((if (20 : Int) = x then (1 : Int) else 0) - (if x = x then (1 : Int) else 0)) else 0) = _
      rw [if_pos hx, if_neg (show (20 : Int) ≠ x by omega), if_pos rfl]
      omega
    have e2 : su n (fun u => su n (fun v => if β u < α u ∧ α v < β v then M (32 + 0) (2 * jm u v + 1) * ((fun y : Int => if y = x then (1 : Int) else 0) u - (fun y : Int => if y = x then (1 : Int) else 0) v) else 0)) = su n (fun v => if α v < β v then M (32 + 0) (2 * jm x v + 1) else 0) := by
      rw [su_one (j := x) x0 x1 (fun k k0 k1 hk => su_all0 (fun v v0 v1 => by
        show (if β k < α k ∧ α v < β v then M (32 + 0) (2 * jm k v + 1) * ((if k = x then (1 : Int) else 0) - (if v = x then (1 : Int) else 0)) else 0) = 0
        by_cases q : β k < α k ∧ α v < β v
        · rw [if_pos q, if_neg hk, if_neg (fun r : v = x => by rw [r] at q; omega), Int.sub_self, Int.mul_zero]
        · rw [if_neg q]))]
      refine su_congr (fun v v0 v1 => ?_)
      show (if β x < α x ∧ α v < β v then M (32 + 0) (2 * jm x v + 1) * ((if x = x then (1 : Int) else 0) - (if v = x then (1 : Int) else 0)) else 0) = _
      by_cases q : α v < β v
      · rw [if_pos ⟨hx, q⟩, if_pos q, if_pos rfl, if_neg (fun r : v = x => by rw [r] at q; omega), Int.sub_zero, Int.mul_one]
      · rw [if_neg (fun r => q r.2), if_neg q]
    have e3 : su n (fun v => if α v < β v then M (32 + 0) (2 * jt v + 1) * ((fun y : Int => if y = x then (1 : Int) else 0) v - (fun y : Int => if y = x then (1 : Int) else 0) 21) else 0) = 0 := su_all0 (fun v v0 v1 => by
      show (if α v < β v then M (32 + 0) (2 * jt v + 1) * ((if v = x then (1 : Int) else 0) - (if (21 : Int) = x then (1 : Int) else 0)) else 0) = 0
      by_cases q : α v < β v
      · rw [if_pos q, if_neg (fun r : v = x => by rw [r] at q; omega), if_neg (show (21 : Int) ≠ x by omega), Int.sub_self, Int.mul_zero]
      · rw [if_neg q])
    have e4 : M (8 + 0) 1 * ((fun y : Int => if y = x then (1 : Int) else 0) 20 - (fun y : Int => if y = x then (1 : Int) else 0) 21) = 0 := by
      show M (8 + 0) 1 * ((if (20 : Int) = x then (1 : Int) else 0) - (if (21 : Int) = x then (1 : Int) else 0)) = 0
      rw [if_neg (show (20 : Int) ≠ x by omega), if_neg (show (21 : Int) ≠ x by omega), Int.sub_self, Int.mul_zero]
    rw [e1, e2, e3, e4] at f
    omega
  · have f := flow (fun y => if y = x then 1 else 0)
    have e1 : su n (fun u => if β u < α u then M (32 + 0) (2 * js u + 1) * ((fun y : Int => if y = x then (1 : Int) else 0) 20 - (fun y : Int => if y = x then (1 : Int) else 0) u) else 0) = 0 := su_all0 (fun u u0 u1 => by
      show (if β u < α u then M (32 + 0) (2 * js u + 1) * ((if (20 : Int) = x then (1 : Int) else 0) - (if u = x then (1 : Int) else 0)) else 0) = 0
      by_cases q : β u < α u
      · rw [if_pos q, if_neg (show (20 : Int) ≠ x by omega), if_neg (fun r : u = x => by rw [r] at q; omega), Int.sub_self, Int.mul_zero]
      · rw [if_neg q])
    have e2 : su n (fun u => su n (fun v => if β u < α u ∧ α v < β v then M (32 + 0) (2 * jm u v + 1) * ((fun y : Int => if y = x then (1 : Int) else 0) u - (fun y : Int => if y = x then (1 : Int) else 0) v) else 0)) = - su n (fun u => if β u < α u then M (32 + 0) (2 * jm u x + 1) else 0) := by
      rw [su_swap, su_one (j := x) x0 x1 (fun k k0 k1 hk => su_all0 (fun u u0 u1 => by
        show (if β u < α u ∧ α k < β k then M (32 + 0) (2 * jm u k + 1) * ((if u = x then (1 : Int) else 0) - (if k = x then (1 : Int) else 0)) else 0) = 0
        by_cases q : β u < α u ∧ α k < β k
        · rw [if_pos q, if_neg hk, if_neg (fun r : u = x => by rw [r] at q; omega), Int.sub_self, Int.mul_zero]
        · rw [if_neg q])), ← su_neg]
      refine su_congr (fun u u0 u1 => ?_)
      show (if β u < α u ∧ α x < β x then M (32 + 0) (2 * jm u x + 1) * ((if u = x then (1 : Int) else 0) - (if x = x then (1 : Int) else 0)) else 0) = - (if β u < α u then M (32 + 0) (2 * jm u x + 1) else 0)
      by_cases q : β u < α u
      · rw [if_pos ⟨q, hx⟩, if_pos q, if_neg (fun r : u = x => by rw [r] at q; omega), if_pos rfl]; omega
      · rw [if_neg (fun r => q r.1), if_neg q]; rfl
    have e3 : su n (fun v => if α v < β v then M (32 + 0) (2 * jt v + 1) * ((fun y : Int => if y = x then (1 : Int) else 0) v - (fun y : Int => if y = x then (1 : Int) else 0) 21) else 0) = M (32 + 0) (2 * jt x + 1) := by
      rw [su_one (j := x) x0 x1 (fun k k0 k1 hk => by
        show (if α k < β k then M (32 + 0) (2 * jt k + 1) * ((if k = x then (1 : Int) else 0) - (if (21 : Int) = x then (1 : Int) else 0)) else 0) = 0
        rw [if_neg (show (21 : Int) ≠ x by omega), if_neg hk]
        split
        · rw [Int.sub_self, Int.mul_zero]
        · rfl)]
      show (if α x < β x then M (32 + 0) (2 * jt x + 1) * ((if x = x then (1 : Int) else 0) - (if (21 : Int) = x then (1 : Int) else 0)) else 0) = _
      rw [if_pos hx, if_neg (show (21 : Int) ≠ x by omega), if_pos rfl]
      omega
    have e4 : M (8 + 0) 1 * ((fun y : Int => if y = x then (1 : Int) else 0) 20 - (fun y : Int => if y = x then (1 : Int) else 0) 21) = 0 := by
      show M (8 + 0) 1 * ((if (20 : Int) = x then (1 : Int) else 0) - (if (21 : Int) = x then (1 : Int) else 0)) = 0
      rw [if_neg (show (20 : Int) ≠ x by omega), if_neg (show (21 : Int) ≠ x by omega), Int.sub_self, Int.mul_zero]
    rw [e1, e2, e3, e4] at f
    omega
  · have f := flow (fun y => if y = 20 then 1 else 0)
    have e1 : su n (fun u => if β u < α u then M (32 + 0) (2 * js u + 1) * ((fun y : Int => if y = 20 then (1 : Int) else 0) 20 - (fun y : Int => if y = 20 then (1 : Int) else 0) u) else 0) = su n (fun u => if β u < α u then M (32 + 0) (2 * js u + 1) else 0) := su_congr (fun u u0 u1 => by
      show (if β u < α u then M (32 + 0) (2 * js u + 1) * ((if (20 : Int) = 20 then (1 : Int) else 0) - (if u = 20 then (1 : Int) else 0)) else 0) = _
      rw [if_pos rfl, if_neg (show u ≠ 20 by omega), Int.sub_zero, Int.mul_one])
    have e2 : su n (fun u => su n (fun v => if β u < α u ∧ α v < β v then M (32 + 0) (2 * jm u v + 1) * ((fun y : Int => if y = 20 then (1 : Int) else 0) u - (fun y : Int => if y = 20 then (1 : Int) else 0) v) else 0)) = 0 := su_all0 (fun u u0 u1 => su_all0 (fun v v0 v1 => by
      show (if β u < α u ∧ α v < β v then M (32 + 0) (2 * jm u v + 1) * ((if u = 20 then (1 : Int) else 0) - (if v = 20 then (1 : Int) else 0)) else 0) = 0
      rw [if_neg (show u ≠ 20 by omega), if_neg (show v ≠ 20 by omega), Int.sub_self, Int.mul_zero]
      split <;> rfl))
    have e3 : su n (fun v => if α v < β v then M (32 + 0) (2 * jt v + 1) * ((fun y : Int => if y = 20 then (1 : Int) else 0) v - (fun y : Int => if y = 20 then (1 : Int) else 0) 21) else 0) = 0 := su_all0 (fun v v0 v1 => by
      show (if α v < β v then M (32 + 0) (2 * jt v + 1) * ((if v = 20 then (1 : Int) else 0) - (if (21 : Int) = 20 then (1 : Int) else 0)) else 0) = 0
      rw [if_neg (show v ≠ 20 by omega), if_neg (show (21 : Int) ≠ 20 by omega), Int.sub_self, Int.mul_zero]
      split <;> rfl)
    have e4 : M (8 + 0) 1 * ((fun y : Int => if y = 20 then (1 : Int) else 0) 20 - (fun y : Int => if y = 20 then (1 : Int) else 0) 21) = M (8 + 0) 1 := by
      show M (8 + 0) 1 * ((if (20 : Int) = 20 then (1 : Int) else 0) - (if (21 : Int) = 20 then (1 : Int) else 0)) = _
      rw [if_pos rfl, if_neg (show (21 : Int) ≠ 20 by omega), Int.sub_zero, Int.mul_one]
    rw [e1, e2, e3, e4] at f
    omega
  · have f := flow (fun y => if y = 21 then 1 else 0)
    have e1 : su n (fun u => if β u < α u then M (32 + 0) (2 * js u + 1) * ((fun y : Int => if y = 21 then (1 : Int) else 0) 20 - (fun y : Int => if y = 21 then (1 : Int) else 0) u) else 0) = 0 := su_all0 (fun u u0 u1 => by
      show (if β u < α u then M (32 + 0) (2 * js u + 1) * ((if (20 : Int) = 21 then (1 : Int) else 0) - (if u = 21 then (1 : Int) else 0)) else 0) = 0
      rw [if_neg (show (20 : Int) ≠ 21 by omega), if_neg (show u ≠ 21 by omega), Int.sub_self, Int.mul_zero]
      split <;> rfl)
    have e2 : su n (fun u => su n (fun v => if β u < α u ∧ α v < β v then M (32 + 0) (2 * jm u v + 1) * ((fun y : Int => if y = 21 then (1 : Int) else 0) u - (fun y : Int => if y = 21 then (1 : Int) else 0) v) else 0)) = 0 := su_all0 (fun u u0 u1 => su_all0 (fun v v0 v1 => by
      show (if β u < α u ∧ α v < β v then M (32 + 0) (2 * jm u v + 1) * ((if u = 21 then (1 : Int) else 0) - (if v = 21 then (1 : Int) else 0)) else 0) = 0
      rw [if_neg (show u ≠ 21 by omega), if_neg (show v ≠ 21 by omega), Int.sub_self, Int.mul_zero]
      split <;> rfl))
    have e3 : su n (fun v => if α v < β v then M (32 + 0) (2 * jt v + 1) * ((fun y : Int => if y = 21 then (1 : Int) else 0) v - (fun y : Int => if y = 21 then (1 : Int) else 0) 21) else 0) = - su n (fun v => if α v < β v then M (32 + 0) (2 * jt v + 1) else 0) := by
      rw [← su_neg]
      refine su_congr (fun v v0 v1 => ?_)
      show (if α v < β v then M (32 + 0) (2 * jt v + 1) * ((if v = 21 then (1 : Int) else 0) - (if (21 : Int) = 21 then (1 : Int) else 0)) else 0) = - (if α v < β v then M (32 + 0) (2 * jt v + 1) else 0)
      rw [if_neg (show v ≠ 21 by omega), if_pos rfl]
      split <;> omega
    have e4 : M (8 + 0) 1 * ((fun y : Int => if y = 21 then (1 : Int) else 0) 20 - (fun y : Int => if y = 21 then (1 : Int) else 0) 21) = - M (8 + 0) 1 := by
      show M (8 + 0) 1 * ((if (20 : Int) = 21 then (1 : Int) else 0) - (if (21 : Int) = 21 then (1 : Int) else 0)) = _
      rw [if_neg (show (20 : Int) ≠ 21 by omega), if_pos rfl]
      omega
    rw [e1, e2, e3, e4] at f
    omega
  · rw [← d6]
    unfold fs
    rw [hφ]
    have e1 : su n (fun u => if β u < α u then M (32 + 0) (2 * js u + 1) * M (34 + 0) (2 * js u) else 0) = 0 := su_all0 (fun u a b => by
      by_cases q : β u < α u
      · rw [if_pos q]; obtain ⟨_, _, _, _, _, g6⟩ := h1 u a b q; rw [g6, Int.mul_zero]
      · rw [if_neg q])
    have e2 : su n (fun v => if α v < β v then M (32 + 0) (2 * jt v + 1) * M (34 + 0) (2 * jt v) else 0) = 0 := su_all0 (fun v a b => by
      by_cases q : α v < β v
      · rw [if_pos q]; obtain ⟨_, _, _, _, _, g6⟩ := h3 v a b q; rw [g6, Int.mul_zero]
      · rw [if_neg q])
    have e3 : su n (fun u => su n (fun v => if β u < α u ∧ α v < β v then M (32 + 0) (2 * jm u v + 1) * M (34 + 0) (2 * jm u v) else 0)) = su n (fun u => su n (fun v => if β u < α u ∧ α v < β v then M (32 + 0) (2 * jm u v + 1) * δ u v else 0)) := su2_congr (fun u v a b c d => by
      by_cases q : β u < α u ∧ α v < β v
      · rw [if_pos q, if_pos q]; obtain ⟨_, _, _, _, _, g6⟩ := h2 u v a b c d q.1 q.2; rw [g6]
      · rw [if_neg q, if_neg q])
    omega
