/-! the balance at each node, from the flow's own law -/
theorem bal_of {n mv : Int} {S g E : Int → Int} {X : Int → Int → Int} (hn : n ≤ 10) (flow : ∀ w : Int → Int, su n (fun u => S u * (w 20 - w u)) + (su n (fun u => g u * (w u - w (10 + u))) + su n (fun u => su n (fun v => X u v * (w (10 + u) - w v)))) + su n (fun v => E v * (w v - w 21)) = mv * (w 20 - w 21)) : (∀ y : Int, 0 ≤ y → y < n → S y + su n (fun u => X u y) - g y = E y) ∧ (∀ y : Int, 0 ≤ y → y < n → su n (X y) = g y) ∧ su n S = mv ∧ su n E = mv := by
  have pick : ∀ (f g : Int → Int) (y : Int), 0 ≤ y → y < n → (∀ k : Int, 0 ≤ k → k < n → k ≠ y → g k = 0) → su n (fun k => f k * g k) = f y * g y := fun f g y y0 y1 hk => su_one (f := fun k => f k * g k) y0 y1 (fun k k0 k1 k2 => by show f k * g k = 0; rw [hk k k0 k1 k2, Int.mul_zero])
  have none : ∀ (f g : Int → Int), (∀ k : Int, 0 ≤ k → k < n → g k = 0) → su n (fun k => f k * g k) = 0 := fun f g hk => su_all0 (fun k k0 k1 => by show f k * g k = 0; rw [hk k k0 k1, Int.mul_zero])
  refine ⟨fun y y0 y1 => ?_, fun y y0 y1 => ?_, ?_, ?_⟩
  · have f := flow (fun z => if z = y then 1 else 0)
    have e1 := pick S (fun u => (if (20 : Int) = y then (1 : Int) else 0) - (if u = y then (1 : Int) else 0)) y y0 y1 (fun k k0 k1 hk => by show (if (20 : Int) = y then (1 : Int) else 0) - (if k = y then (1 : Int) else 0) = 0; rw [if_neg (by omega), if_neg hk]; rfl)
    have e2 := pick g (fun u => (if u = y then (1 : Int) else 0) - (if 10 + u = y then (1 : Int) else 0)) y y0 y1 (fun k k0 k1 hk => by show (if k = y then (1 : Int) else 0) - (if 10 + k = y then (1 : Int) else 0) = 0; rw [if_neg hk, if_neg (by omega)]; rfl)
    have e3 : su n (fun u => su n (fun v => X u v * ((if 10 + u = y then (1 : Int) else 0) - (if v = y then (1 : Int) else 0)))) = su n (fun u => - X u y) := su_congr (fun u u0 u1 => by
      rw [pick (X u) (fun v => (if 10 + u = y then (1 : Int) else 0) - (if v = y then (1 : Int) else 0)) y y0 y1 (fun k k0 k1 hk => by show (if 10 + u = y then (1 : Int) else 0) - (if k = y then (1 : Int) else 0) = 0; rw [if_neg (by omega), if_neg hk]; rfl)]
      show X u y * ((if 10 + u = y then (1 : Int) else 0) - (if y = y then (1 : Int) else 0)) = _
      rw [if_neg (by omega), if_pos rfl]; omega)
    have e4 := pick E (fun v => (if v = y then (1 : Int) else 0) - (if (21 : Int) = y then (1 : Int) else 0)) y y0 y1 (fun k k0 k1 hk => by show (if k = y then (1 : Int) else 0) - (if (21 : Int) = y then (1 : Int) else 0) = 0; rw [if_neg hk, if_neg (by omega)]; rfl)
    rw [su_neg] at e3
    rw [e1, e2, e3, e4, if_pos rfl, if_neg (show ¬ (20 : Int) = y by omega), if_neg (show ¬ 10 + y = y by omega), if_neg (show ¬ (21 : Int) = y by omega), Int.sub_self, Int.mul_zero] at f
    omega
  · have f := flow (fun z => if z = 10 + y then 1 else 0)
    have e1 := none S (fun u => (if (20 : Int) = 10 + y then (1 : Int) else 0) - (if u = 10 + y then (1 : Int) else 0)) (fun k k0 k1 => by show (if (20 : Int) = 10 + y then (1 : Int) else 0) - (if k = 10 + y then (1 : Int) else 0) = 0; rw [if_neg (by omega), if_neg (by omega)]; rfl)
    have e2 := pick g (fun u => (if u = 10 + y then (1 : Int) else 0) - (if 10 + u = 10 + y then (1 : Int) else 0)) y y0 y1 (fun k k0 k1 hk => by show (if k = 10 + y then (1 : Int) else 0) - (if 10 + k = 10 + y then (1 : Int) else 0) = 0; rw [if_neg (by omega), if_neg (by omega)]; rfl)
    have e3 : su n (fun u => su n (fun v => X u v * ((if 10 + u = 10 + y then (1 : Int) else 0) - (if v = 10 + y then (1 : Int) else 0)))) = su n (X y) := by
      rw [su_one (j := y) y0 y1 (fun u u0 u1 hu => none (X u) (fun v => (if 10 + u = 10 + y then (1 : Int) else 0) - (if v = 10 + y then (1 : Int) else 0)) (fun k k0 k1 => by show (if 10 + u = 10 + y then (1 : Int) else 0) - (if k = 10 + y then (1 : Int) else 0) = 0; rw [if_neg (by omega), if_neg (by omega)]; rfl))]
      refine su_congr (fun v v0 v1 => ?_)
      rw [if_pos rfl, if_neg (by omega), Int.sub_zero, Int.mul_one]
    have e4 := none E (fun v => (if v = 10 + y then (1 : Int) else 0) - (if (21 : Int) = 10 + y then (1 : Int) else 0)) (fun k k0 k1 => by show (if k = 10 + y then (1 : Int) else 0) - (if (21 : Int) = 10 + y then (1 : Int) else 0) = 0; rw [if_neg (by omega), if_neg (by omega)]; rfl)
    rw [e1, e2, e3, e4, if_pos rfl, if_neg (show ¬ (20 : Int) = 10 + y by omega), if_neg (show ¬ y = 10 + y by omega), if_neg (show ¬ (21 : Int) = 10 + y by omega), Int.sub_self, Int.mul_zero] at f
    omega
  · have f := flow (fun z => if z = 20 then 1 else 0)
    have e1 : su n (fun u => S u * ((if (20 : Int) = 20 then (1 : Int) else 0) - (if u = 20 then (1 : Int) else 0))) = su n S := su_congr (fun u u0 u1 => by rw [if_pos rfl, if_neg (show ¬ u = 20 by omega), Int.sub_zero, Int.mul_one])
    have e2 := none g (fun u => (if u = 20 then (1 : Int) else 0) - (if 10 + u = 20 then (1 : Int) else 0)) (fun k k0 k1 => by show (if k = 20 then (1 : Int) else 0) - (if 10 + k = 20 then (1 : Int) else 0) = 0; rw [if_neg (by omega), if_neg (by omega)]; rfl)
    have e3 : su n (fun u => su n (fun v => X u v * ((if 10 + u = 20 then (1 : Int) else 0) - (if v = 20 then (1 : Int) else 0)))) = 0 := su_all0 (fun u u0 u1 => none (X u) (fun v => (if 10 + u = 20 then (1 : Int) else 0) - (if v = 20 then (1 : Int) else 0)) (fun k k0 k1 => by show (if 10 + u = 20 then (1 : Int) else 0) - (if k = 20 then (1 : Int) else 0) = 0; rw [if_neg (by omega), if_neg (by omega)]; rfl))
    have e4 := none E (fun v => (if v = 20 then (1 : Int) else 0) - (if (21 : Int) = 20 then (1 : Int) else 0)) (fun k k0 k1 => by show (if k = 20 then (1 : Int) else 0) - (if (21 : Int) = 20 then (1 : Int) else 0) = 0; rw [if_neg (by omega), if_neg (by omega)]; rfl)
    rw [e1, e2, e3, e4, if_pos rfl, if_neg (show ¬ (21 : Int) = 20 by omega), Int.sub_zero, Int.mul_one] at f
    omega
  · have f := flow (fun z => if z = 21 then 1 else 0)
    have e1 := none S (fun u => (if (20 : Int) = 21 then (1 : Int) else 0) - (if u = 21 then (1 : Int) else 0)) (fun k k0 k1 => by show (if (20 : Int) = 21 then (1 : Int) else 0) - (if k = 21 then (1 : Int) else 0) = 0; rw [if_neg (by omega), if_neg (by omega)]; rfl)
    have e2 := none g (fun u => (if u = 21 then (1 : Int) else 0) - (if 10 + u = 21 then (1 : Int) else 0)) (fun k k0 k1 => by show (if k = 21 then (1 : Int) else 0) - (if 10 + k = 21 then (1 : Int) else 0) = 0; rw [if_neg (by omega), if_neg (by omega)]; rfl)
    have e3 : su n (fun u => su n (fun v => X u v * ((if 10 + u = 21 then (1 : Int) else 0) - (if v = 21 then (1 : Int) else 0)))) = 0 := su_all0 (fun u u0 u1 => none (X u) (fun v => (if 10 + u = 21 then (1 : Int) else 0) - (if v = 21 then (1 : Int) else 0)) (fun k k0 k1 => by show (if 10 + u = 21 then (1 : Int) else 0) - (if k = 21 then (1 : Int) else 0) = 0; rw [if_neg (by omega), if_neg (by omega)]; rfl))
    have e4 : su n (fun v => E v * ((if v = 21 then (1 : Int) else 0) - (if (21 : Int) = 21 then (1 : Int) else 0))) = - su n E := by
      rw [← su_neg]
      refine su_congr (fun v v0 v1 => ?_)
      rw [if_pos (rfl : (21 : Int) = 21), if_neg (show ¬ v = 21 by omega)]; omega
    rw [e1, e2, e3, e4, if_pos rfl, if_neg (show ¬ (20 : Int) = 21 by omega)] at f
    omega
/-- goods along roads, by their ends -/
def rX (r : Int) (U V f1 f2 : Int → Int) : Int → Int → Int := fun u v => su r (fun i => (if U i = u ∧ V i = v then f1 i else 0) + (if V i = u ∧ U i = v then f2 i else 0))
theorem rX_sum {n r : Int} {U V L f1 f2 : Int → Int} (hR : Rds n r U V L) (W : Int → Int → Int) : su n (fun u => su n (fun v => rX r U V f1 f2 u v * W u v)) = su r (fun i => f1 i * W (U i) (V i) + f2 i * W (V i) (U i)) := by
  have e1 : su n (fun u => su n (fun v => rX r U V f1 f2 u v * W u v)) = su n (fun u => su n (fun v => su r (fun i => ((if U i = u ∧ V i = v then f1 i else 0) + (if V i = u ∧ U i = v then f2 i else 0)) * W u v))) := su2_congr (fun u v _ _ _ _ => by unfold rX; rw [su_mulr])
  have e2 : su n (fun u => su n (fun v => su r (fun i => ((if U i = u ∧ V i = v then f1 i else 0) + (if V i = u ∧ U i = v then f2 i else 0)) * W u v))) = su n (fun u => su r (fun i => su n (fun v => ((if U i = u ∧ V i = v then f1 i else 0) + (if V i = u ∧ U i = v then f2 i else 0)) * W u v))) := su_congr (fun u _ _ => su_swap _ _ _)
  rw [e1, e2, su_swap]
  refine su_congr (fun i i0 i1 => ?_)
  obtain ⟨g1, g2, g3, g4, g5, _, _⟩ := hR i i0 i1
  have e3 : ∀ (x y c : Int), 0 ≤ x → x < n → 0 ≤ y → y < n → su n (fun u => su n (fun v => (if x = u ∧ y = v then c else 0) * W u v)) = c * W x y := fun x y c x0 x1 y0 y1 => by
    rw [su_one (j := x) x0 x1 (fun u _ _ hu => su_all0 (fun v _ _ => by rw [if_neg (fun q => hu q.1.symm), Int.zero_mul])), su_one (j := y) y0 y1 (fun v _ _ hv => by rw [if_neg (fun q => hv q.2.symm), Int.zero_mul]), if_pos ⟨rfl, rfl⟩]
  have e4 : su n (fun u => su n (fun v => ((if U i = u ∧ V i = v then f1 i else 0) + (if V i = u ∧ U i = v then f2 i else 0)) * W u v)) = su n (fun u => su n (fun v => (if U i = u ∧ V i = v then f1 i else 0) * W u v + (if V i = u ∧ U i = v then f2 i else 0) * W u v)) := su2_congr (fun u v _ _ _ _ => Int.add_mul _ _ _)
  rw [e4, su2_add, e3 _ _ _ g1 g2 g3 g4, e3 _ _ _ g3 g4 g1 g2]
theorem rarc_room {M : Mem} {π : Int → Int} {mv sp j a1 a2 a3 a4 : Int} (hS : RS M) (hD : RD M π mv sp) (h : RArc M j a1 a2 a3 a4) : 0 ≤ M 22 (2 * j) ∧ 0 ≤ M 22 (2 * j + 1) ∧ (0 < M 22 (2 * j) → π a2 ≤ π a1 + a4) ∧ (0 < M 22 (2 * j + 1) → π a1 ≤ π a2 - a4) ∧ M 22 (2 * j + 1) ≤ mv := by
  obtain ⟨g1, g2, g3, g4, g5, g6⟩ := h
  obtain ⟨d1, d2, d3, d4, d5, d6, d7, d8⟩ := hD
  refine ⟨(d1 (2 * j) (by omega) (by omega)).1, (d1 (2 * j + 1) (by omega) (by omega)).1, fun q => ?_, fun q => ?_, d8 (2 * j + 1) (by omega) (by omega) (by omega)⟩
  · have := d2 (2 * j) (by omega) (by omega) q
    rw [g3, g4, g6] at this
    exact this
  · have := d2 (2 * j + 1) (by omega) (by omega) q
    obtain ⟨p1, p2, p3⟩ := hS.2.2.2 (2 * j) (by omega) (by omega)
    rw [pr1_e] at p1 p2 p3
    rw [p1, p2, p3, g3, g4, g6] at this
    omega
theorem rg_bal {n r mv sp : Int} {α β B U V L : Int → Int} {M : Mem} {π jg je j1 j2 : Int → Int} (hn : n ≤ 10) (hR : Rds n r U V L) (hD : RD M π mv sp) (G : GR n r α β B U V L M jg je j1 j2) :
    ((∀ y : Int, 0 ≤ y → y < n → (if β y < α y then M 22 (2 * je y + 1) else 0) + su n (fun u => rX r U V (fun i => M 22 (2 * j1 i + 1)) (fun i => M 22 (2 * j2 i + 1)) u y) - M 22 (2 * jg y + 1) = (if β y < α y then 0 else M 22 (2 * je y + 1))) ∧ (∀ y : Int, 0 ≤ y → y < n → su n (rX r U V (fun i => M 22 (2 * j1 i + 1)) (fun i => M 22 (2 * j2 i + 1)) y) = M 22 (2 * jg y + 1)) ∧ su n (fun u => if β u < α u then M 22 (2 * je u + 1) else 0) = mv ∧ su n (fun v => if β v < α v then 0 else M 22 (2 * je v + 1)) = mv) ∧ su r (fun i => M 22 (2 * j1 i + 1) * L i + M 22 (2 * j2 i + 1) * L i) = sp := by
  obtain ⟨G1, G2, G3⟩ := G
  obtain ⟨d1, d2, d3, d4, d5, d6, d7, d8⟩ := hD
  refine ⟨bal_of hn (fun w => ?_), ?_⟩
  · rw [← d5 w]
    unfold fs
    rw [G3, rX_sum hR (fun u v => w (10 + u) - w v)]
    have e1 : su n (fun u => M 22 (2 * jg u + 1) * (fun e => w (M 20 e) - w (M 21 e)) (2 * jg u) + M 22 (2 * je u + 1) * (fun e => w (M 20 e) - w (M 21 e)) (2 * je u)) = su n (fun u => M 22 (2 * jg u + 1) * (w u - w (10 + u)) + ((if β u < α u then M 22 (2 * je u + 1) else 0) * (w 20 - w u) + (if β u < α u then 0 else M 22 (2 * je u + 1)) * (w u - w 21))) := su_congr (fun u a b => by
      obtain ⟨h1, h2, h3⟩ := G1 u a b
      show M 22 (2 * jg u + 1) * (w (M 20 (2 * jg u)) - w (M 21 (2 * jg u))) + M 22 (2 * je u + 1) * (w (M 20 (2 * je u)) - w (M 21 (2 * je u))) = _
      rw [h1.2.2.1, h1.2.2.2.1]
      by_cases q : β u < α u
      · rw [if_pos q, if_pos q, (h2 q).2.2.1, (h2 q).2.2.2.1, Int.zero_mul, Int.add_zero]
      · rw [if_neg q, if_neg q, (h3 q).2.2.1, (h3 q).2.2.2.1, Int.zero_mul, Int.zero_add])
    have e2 : su r (fun i => M 22 (2 * j1 i + 1) * (fun e => w (M 20 e) - w (M 21 e)) (2 * j1 i) + M 22 (2 * j2 i + 1) * (fun e => w (M 20 e) - w (M 21 e)) (2 * j2 i)) = su r (fun i => M 22 (2 * j1 i + 1) * (w (10 + U i) - w (V i)) + M 22 (2 * j2 i + 1) * (w (10 + V i) - w (U i))) := su_congr (fun i a b => by
      obtain ⟨h1, h2⟩ := G2 i a b
      show M 22 (2 * j1 i + 1) * (w (M 20 (2 * j1 i)) - w (M 21 (2 * j1 i))) + M 22 (2 * j2 i + 1) * (w (M 20 (2 * j2 i)) - w (M 21 (2 * j2 i))) = _
      rw [h1.2.2.1, h1.2.2.2.1, h2.2.2.1, h2.2.2.2.1])
    rw [e1, e2, su_add n (fun u => M 22 (2 * jg u + 1) * (w u - w (10 + u))), su_add n (fun u => (if β u < α u then M 22 (2 * je u + 1) else 0) * (w 20 - w u))]
    omega
  · rw [← d6]
    unfold fs
    rw [G3]
    have e1 : su n (fun u => M 22 (2 * jg u + 1) * M 23 (2 * jg u) + M 22 (2 * je u + 1) * M 23 (2 * je u)) = 0 := su_all0 (fun u a b => by
      obtain ⟨h1, h2, h3⟩ := G1 u a b
      rw [h1.2.2.2.2.2, Int.mul_zero]
      by_cases q : β u < α u
      · rw [(h2 q).2.2.2.2.2, Int.mul_zero]; rfl
      · rw [(h3 q).2.2.2.2.2, Int.mul_zero]; rfl)
    rw [e1, Int.zero_add]
    refine su_congr (fun i a b => ?_)
    obtain ⟨h1, h2⟩ := G2 i a b
    rw [h1.2.2.2.2.2, h2.2.2.2.2.2]
/-- the answer is what is asked -/
theorem rg_gat {n r mv sp : Int} {α β B U V L : Int → Int} {M M' : Mem} {π jg je j1 j2 : Int → Int} (hn : 0 ≤ n ∧ n ≤ 10) (hr : 0 ≤ r ∧ r ≤ 30) (hR : Rds n r U V L) (hα : ∀ v : Int, 0 ≤ v → v < n → (0 ≤ α v ∧ α v ≤ 1000) ∧ 0 ≤ β v ∧ β v ≤ 1000) (hB : ∀ v : Int, 0 ≤ v → v < n → -1 ≤ B v ∧ B v ≤ 100000) (hsum : su n α = su n β) (hS : RS M) (hD : RD M π mv sp) (G : GR n r α β B U V L M jg je j1 j2) (hle : mv ≤ su n (fun u => if β u < α u then α u - β u else 0)) (hfin : su n (fun u => if β u < α u then α u - β u else 0) ≤ mv ∨ ∃ ra : Int → Int, FinV M π M' ra ∧ 1000000000 ≤ M' 24 21) : Gat n 1000000000 (dr 1000000000 r U V L) B α β (if mv = su n (fun u => if β u < α u then α u - β u else 0) then sp else -1) := by
  obtain ⟨⟨b1, b2, b3, b4⟩, b5⟩ := rg_bal hn.2 hR hD G
  obtain ⟨G1, G2, G3⟩ := G
  have hmv : mv ≤ 10000 := by
    have := su_bnd (n := n) (B := 1000) (f := fun u => if β u < α u then α u - β u else 0) hn.1 (fun k a b => by
      have := hα k a b
      show 0 ≤ (if β k < α k then α k - β k else 0) ∧ (if β k < α k then α k - β k else 0) ≤ 1000
      split <;> omega)
    omega
  have hdef : su n (fun v => if β v < α v then 0 else β v - α v) = su n (fun u => if β u < α u then α u - β u else 0) := by
    have e : su n (fun u => (if β u < α u then α u - β u else 0) - (if β u < α u then 0 else β u - α u)) = su n (fun u => α u - β u) := su_congr (fun u _ _ => by split <;> omega)
    rw [su_sub, su_sub] at e
    omega
  have f1n : ∀ i : Int, 0 ≤ i → i < r → 0 ≤ M 22 (2 * j1 i + 1) ∧ 0 ≤ M 22 (2 * j2 i + 1) := fun i a b => ⟨(rarc_room hS hD (G2 i a b).1).2.1, (rarc_room hS hD (G2 i a b).2).2.1⟩
  have cell : ∀ u v i : Int, 0 ≤ i → i < r → 0 ≤ (if U i = u ∧ V i = v then M 22 (2 * j1 i + 1) else 0) + (if V i = u ∧ U i = v then M 22 (2 * j2 i + 1) else 0) := fun u v i a b => by
    have := f1n i a b
    split <;> split <;> omega
  -- goods on some pair go along some road
  have road : ∀ u v : Int, 0 < rX r U V (fun i => M 22 (2 * j1 i + 1)) (fun i => M 22 (2 * j2 i + 1)) u v → ∃ i : Int, 0 ≤ i ∧ i < r ∧ ((U i = u ∧ V i = v ∧ 0 < M 22 (2 * j1 i + 1)) ∨ (V i = u ∧ U i = v ∧ 0 < M 22 (2 * j2 i + 1))) := fun u v q => by
    obtain ⟨i, i0, i1, i2⟩ := su_pos (n := r) (f := fun i => (if U i = u ∧ V i = v then M 22 (2 * j1 i + 1) else 0) + (if V i = u ∧ U i = v then M 22 (2 * j2 i + 1) else 0)) (fun k a b => cell u v k a b) q
    refine ⟨i, i0, i1, ?_⟩
    have i2 : 0 < (if U i = u ∧ V i = v then M 22 (2 * j1 i + 1) else 0) + (if V i = u ∧ U i = v then M 22 (2 * j2 i + 1) else 0) := i2
    by_cases c1 : U i = u ∧ V i = v ∧ 0 < M 22 (2 * j1 i + 1)
    · exact Or.inl c1
    · right
      have t1 : (if U i = u ∧ V i = v then M 22 (2 * j1 i + 1) else 0) ≤ 0 := by
        split
        · rename_i q1
          by_cases q2 : 0 < M 22 (2 * j1 i + 1)
          · exact absurd ⟨q1.1, q1.2, q2⟩ c1
          · omega
        · exact Int.le_refl _
      by_cases c2 : V i = u ∧ U i = v
      · rw [if_pos c2] at i2; exact ⟨c2.1, c2.2, by omega⟩
      · rw [if_neg c2] at i2; omega
  have dirlt : ∀ u v i : Int, 0 ≤ i → i < r → ((U i = u ∧ V i = v) ∨ (U i = v ∧ V i = u)) → dr 1000000000 r U V L u v < 1000000000 ∧ dr 1000000000 r U V L u v ≤ L i := fun u v i a b c => by
    have h1 := dr_le1 (K := 1000000000) (L := L) a b c
    have h2 := hR i a b
    omega
  have x0 : ∀ u v : Int, 0 ≤ u → u < n → 0 ≤ v → v < n → 0 ≤ rX r U V (fun i => M 22 (2 * j1 i + 1)) (fun i => M 22 (2 * j2 i + 1)) u v ∧ (0 < rX r U V (fun i => M 22 (2 * j1 i + 1)) (fun i => M 22 (2 * j2 i + 1)) u v → dr 1000000000 r U V L u v < 1000000000) := fun u v a b c d => by
    refine ⟨su_nonneg (fun k k0 k1 => cell u v k k0 k1), fun q => ?_⟩
    obtain ⟨i, i0, i1, i2⟩ := road u v q
    exact (dirlt u v i i0 i1 (by omega)).1
  have gate : ∀ u : Int, 0 ≤ u → u < n → B u ≠ -1 → su n (rX r U V (fun i => M 22 (2 * j1 i + 1)) (fun i => M 22 (2 * j2 i + 1)) u) ≤ B u := fun u a b q => by
    rw [b2 u a b]
    have r1 := (G1 u a b).1.2.2.2.2.1
    have r2 := rarc_room hS hD (G1 u a b).1
    unfold capR at r1
    rw [if_neg q] at r1
    omega
  have groom : ∀ u : Int, 0 ≤ u → u < n → (B u = -1 ∨ su n (rX r U V (fun i => M 22 (2 * j1 i + 1)) (fun i => M 22 (2 * j2 i + 1)) u) < B u) → 0 < M 22 (2 * jg u) := fun u a b q => by
    rw [b2 u a b] at q
    have r1 := (G1 u a b).1.2.2.2.2.1
    have r2 := rarc_room hS hD (G1 u a b).1
    unfold capR at r1
    have := hB u a b
    rcases q with q | q
    · rw [if_pos q] at r1; omega
    · split at r1 <;> omega
  -- along each road, both ways, prices hold
  have price : ∀ i : Int, 0 ≤ i → i < r → π (V i) ≤ π (10 + U i) + L i ∧ π (U i) ≤ π (10 + V i) + L i ∧ (0 < M 22 (2 * j1 i + 1) → π (V i) = π (10 + U i) + L i) ∧ (0 < M 22 (2 * j2 i + 1) → π (U i) = π (10 + V i) + L i) := fun i a b => by
    have r1 := rarc_room hS hD (G2 i a b).1
    have r2 := rarc_room hS hD (G2 i a b).2
    have c1 := (G2 i a b).1.2.2.2.2.1
    have c2 := (G2 i a b).2.2.2.2.2.1
    have p1 := r1.2.2.1 (by omega)
    have p2 := r2.2.2.1 (by omega)
    refine ⟨p1, p2, fun q => ?_, fun q => ?_⟩
    · have := r1.2.2.2.1 q; omega
    · have := r2.2.2.2.1 q; omega
  have c1 : ∀ u v : Int, dr 1000000000 r U V L u v < 1000000000 → π v - π (10 + u) ≤ dr 1000000000 r U V L u v := fun u v q => by
    rcases dr_at 1000000000 r U V L u v with e | ⟨i, i0, i1, i2, i3⟩
    · omega
    · obtain ⟨p1, p2, _, _⟩ := price i i0 i1
      rw [i3]
      rcases i2 with ⟨x1, x2⟩ | ⟨x1, x2⟩
      · rw [x1, x2] at p1; omega
      · rw [x1, x2] at p2; omega
  have tight : ∀ i : Int, 0 ≤ i → i < r → (0 < M 22 (2 * j1 i + 1) → dr 1000000000 r U V L (U i) (V i) = L i) ∧ (0 < M 22 (2 * j2 i + 1) → dr 1000000000 r U V L (V i) (U i) = L i) := fun i a b => by
    obtain ⟨p1, p2, p3, p4⟩ := price i a b
    obtain ⟨q1, q2⟩ := dirlt (U i) (V i) i a b (Or.inl ⟨rfl, rfl⟩)
    obtain ⟨q3, q4⟩ := dirlt (V i) (U i) i a b (Or.inr ⟨rfl, rfl⟩)
    have t1 := c1 (U i) (V i) q1
    have t2 := c1 (V i) (U i) q3
    exact ⟨fun q => by have := p3 q; omega, fun q => by have := p4 q; omega⟩
  have cost : cst n (dr 1000000000 r U V L) (rX r U V (fun i => M 22 (2 * j1 i + 1)) (fun i => M 22 (2 * j2 i + 1))) = sp := by
    rw [← b5]
    unfold cst
    rw [rX_sum hR (dr 1000000000 r U V L)]
    refine su_congr (fun i a b => ?_)
    obtain ⟨t1, t2⟩ := tight i a b
    have fn := f1n i a b
    congr 1
    · by_cases q : 0 < M 22 (2 * j1 i + 1)
      · rw [t1 q]
      · rw [show M 22 (2 * j1 i + 1) = 0 by omega, Int.zero_mul, Int.zero_mul]
    · by_cases q : 0 < M 22 (2 * j2 i + 1)
      · rw [t2 q]
      · rw [show M 22 (2 * j2 i + 1) = 0 by omega, Int.zero_mul, Int.zero_mul]
  have sle : ∀ u : Int, 0 ≤ u → u < n → (if β u < α u then M 22 (2 * je u + 1) else 0) ≤ (if β u < α u then α u - β u else 0) := fun u a b => by
    by_cases q : β u < α u
    · rw [if_pos q, if_pos q]
      have h2 := (G1 u a b).2.1 q
      have r1 := h2.2.2.2.2.1
      have r2 := rarc_room hS hD h2
      omega
    · rw [if_neg q, if_neg q]; exact Int.le_refl _
  have tle : ∀ v : Int, 0 ≤ v → v < n → (if β v < α v then 0 else M 22 (2 * je v + 1)) ≤ (if β v < α v then 0 else β v - α v) := fun v a b => by
    by_cases q : β v < α v
    · rw [if_pos q, if_pos q]; exact Int.le_refl _
    · rw [if_neg q, if_neg q]
      have h2 := (G1 v a b).2.2 q
      have r1 := h2.2.2.2.2.1
      have r2 := rarc_room hS hD h2
      omega
  by_cases hc : mv = su n (fun u => if β u < α u then α u - β u else 0)
  · rw [if_pos hc]
    have sa := su_eq_all (n := n) (f := fun u => if β u < α u then M 22 (2 * je u + 1) else 0) (g := fun u => if β u < α u then α u - β u else 0) sle (by rw [b3, hc])
    have ta := su_eq_all (n := n) (f := fun v => if β v < α v then 0 else M 22 (2 * je v + 1)) (g := fun v => if β v < α v then 0 else β v - α v) tle (by rw [b4, hc, hdef])
    have X : GFl n 1000000000 (dr 1000000000 r U V L) B α β (rX r U V (fun i => M 22 (2 * j1 i + 1)) (fun i => M 22 (2 * j2 i + 1))) := ⟨x0, fun u a b => by
      have e1 := b1 u a b
      have e2 : (if β u < α u then M 22 (2 * je u + 1) else 0) = (if β u < α u then α u - β u else 0) := sa u a b
      have e3 : (if β u < α u then 0 else M 22 (2 * je u + 1)) = (if β u < α u then 0 else β u - α u) := ta u a b
      rw [e2, e3] at e1
      rw [b2 u a b]
      have e1 : (if β u < α u then α u - β u else 0) + su n (fun v => rX r U V (fun i => M 22 (2 * j1 i + 1)) (fun i => M 22 (2 * j2 i + 1)) v u) - M 22 (2 * jg u + 1) = (if β u < α u then 0 else β u - α u) := e1
      split at e1 <;> omega, gate⟩
    right
    refine ⟨hD.2.2.2.2.2.2.1.2.1, ⟨_, X, cost⟩, ?_⟩
    rw [← cost]
    refine g_opt (I := π) (O := fun u => π (10 + u)) X (fun u v a b c d q => c1 u v q) (fun u v a b c d q => ?_) (fun u a b q => ?_) (fun u a b q => ?_)
    · obtain ⟨i, i0, i1, i2⟩ := road u v q
      obtain ⟨p1, p2, p3, p4⟩ := price i i0 i1
      obtain ⟨t1, t2⟩ := tight i i0 i1
      show π v - π (10 + u) = dr 1000000000 r U V L u v
      rcases i2 with ⟨x1, x2, x3⟩ | ⟨x1, x2, x3⟩
      · have y1 := p3 x3
        have y2 := t1 x3
        rw [x1, x2] at y1 y2
        omega
      · have y1 := p4 x3
        have y2 := t2 x3
        rw [x1, x2] at y1 y2
        omega
    · have := (rarc_room hS hD (G1 u a b).1).2.2.1 (groom u a b q)
      show π (10 + u) ≤ π u
      omega
    · rw [b2 u a b] at q
      have := (rarc_room hS hD (G1 u a b).1).2.2.2.1 q
      show π u ≤ π (10 + u)
      omega
  · rw [if_neg hc]
    left
    refine ⟨rfl, ?_⟩
    rcases hfin with hf | ⟨ra, F, hk⟩
    · omega
    · have d20 : M' 24 20 < 1000000000 := by
        have := (F.1 20 (by omega) (by omega)).2.2.1 rfl
        omega
      have go : ∀ (j a1 a2 a3 a4 : Int), RArc M j a1 a2 a3 a4 → 0 < M 22 (2 * j) → M' 24 a1 < 1000000000 → M' 24 a2 < 1000000000 := fun j a1 a2 a3 a4 hA hr hd => by
        obtain ⟨g1, g2, g3, g4, g5, g6⟩ := hA
        have := (F.2.2 (2 * j) (by omega) (by omega) hr (by rw [g3]; exact hd)).1
        rw [g4] at this
        exact this
      have back : ∀ (j a1 a2 a3 a4 : Int), RArc M j a1 a2 a3 a4 → 0 < M 22 (2 * j + 1) → M' 24 a2 < 1000000000 → M' 24 a1 < 1000000000 := fun j a1 a2 a3 a4 hA hr hd => by
        obtain ⟨g1, g2, g3, g4, g5, g6⟩ := hA
        obtain ⟨p1, p2, p3⟩ := hS.2.2.2 (2 * j) (by omega) (by omega)
        rw [pr1_e] at p1 p2
        have := (F.2.2 (2 * j + 1) (by omega) (by omega) hr (by rw [p1, g4]; exact hd)).1
        rw [p2, g3] at this
        exact this
      have rr : ∀ i : Int, 0 ≤ i → i < r → 0 < M 22 (2 * j1 i) ∧ 0 < M 22 (2 * j2 i) := fun i a b => by
        have r1 := rarc_room hS hD (G2 i a b).1
        have r2 := rarc_room hS hD (G2 i a b).2
        have c1 := (G2 i a b).1.2.2.2.2.1
        have c2 := (G2 i a b).2.2.2.2.2.1
        omega
      refine g_stuck (S := fun u => if β u < α u then M 22 (2 * je u + 1) else 0) (E := fun u => if β u < α u then 0 else M 22 (2 * je u + 1)) (X := rX r U V (fun i => M 22 (2 * j1 i + 1)) (fun i => M 22 (2 * j2 i + 1))) (I := fun u => M' 24 u < 1000000000) (O := fun u => M' 24 (10 + u) < 1000000000) x0 (fun u a b => by rw [b2 u a b]; exact b1 u a b) gate (fun u v a b c d q s => ?_) (fun u a b q s => go _ _ _ _ _ (G1 u a b).1 (groom u a b s) q) (fun u v a b c d q s => ?_) (fun u a b q s => ?_) (fun u a b q => ?_) ?_
      · rcases dr_at 1000000000 r U V L u v with e | ⟨i, i0, i1, i2, i3⟩
        · omega
        · obtain ⟨z1, z2⟩ := rr i i0 i1
          rcases i2 with ⟨x1, x2⟩ | ⟨x1, x2⟩
          · have := go _ _ _ _ _ (G2 i i0 i1).1 z1 (by rw [x1]; exact q)
            rw [x2] at this; exact this
          · have := go _ _ _ _ _ (G2 i i0 i1).2 z2 (by rw [x2]; exact q)
            rw [x1] at this; exact this
      · obtain ⟨i, i0, i1, i2⟩ := road u v s
        rcases i2 with ⟨x1, x2, x3⟩ | ⟨x1, x2, x3⟩
        · have := back _ _ _ _ _ (G2 i i0 i1).1 x3 (by rw [x2]; exact q)
          rw [x1] at this; exact this
        · have := back _ _ _ _ _ (G2 i i0 i1).2 x3 (by rw [x2]; exact q)
          rw [x1] at this; exact this
      · rw [b2 u a b] at s
        exact back _ _ _ _ _ (G1 u a b).1 s q
      · have s := sle u a b
        show (if β u < α u then M 22 (2 * je u + 1) else 0) - (if β u < α u then 0 else M 22 (2 * je u + 1)) ≤ α u - β u
        by_cases q1 : β u < α u
        · rw [if_pos q1, if_pos q1] at s
          rw [if_pos q1, if_pos q1]; omega
        · rw [if_neg q1, if_neg q1]
          have h2 := (G1 u a b).2.2 q1
          have r1 := h2.2.2.2.2.1
          have r2 := rarc_room hS hD h2
          have r3 : ¬ 0 < M 22 (2 * je u) := fun q2 => by
            have := go _ _ _ _ _ h2 q2 q
            omega
          omega
      · obtain ⟨u, u0, u1, u2⟩ := su_lt (n := n) (f := fun u => if β u < α u then M 22 (2 * je u + 1) else 0) (g := fun u => if β u < α u then α u - β u else 0) sle (by rw [b3]; omega)
        have u2 : (if β u < α u then M 22 (2 * je u + 1) else 0) < (if β u < α u then α u - β u else 0) := u2
        by_cases q : β u < α u
        · rw [if_pos q, if_pos q] at u2
          have h2 := (G1 u u0 u1).2.1 q
          have r1 := h2.2.2.2.2.1
          refine ⟨u, u0, u1, go _ _ _ _ _ h2 (by omega) d20, ?_⟩
          show (if β u < α u then M 22 (2 * je u + 1) else 0) - (if β u < α u then 0 else M 22 (2 * je u + 1)) < α u - β u
          rw [if_pos q, if_pos q]; omega
        · rw [if_neg q, if_neg q] at u2; omega
theorem GR_off {n r : Int} {α β B U V L : Int → Int} {M M' : Mem} {jg je j1 j2 : Int → Int} (o0 : M' 0 24 = M 0 24) (o20 : M' 20 = M 20) (o21 : M' 21 = M 21) (o23 : M' 23 = M 23) (o22 : ∀ e : Int, 0 ≤ e → e < M 0 24 → M' 22 e + M' 22 (pr1 e) = M 22 e + M 22 (pr1 e)) (G : GR n r α β B U V L M jg je j1 j2) : GR n r α β B U V L M' jg je j1 j2 := by
  have arc : ∀ j a1 a2 a3 a4 : Int, RArc M j a1 a2 a3 a4 → RArc M' j a1 a2 a3 a4 := fun j a1 a2 a3 a4 h => by
    obtain ⟨g1, g2, g3, g4, g5, g6⟩ := h
    have e := o22 (2 * j) (by omega) (by omega)
    rw [pr1_e] at e
    unfold RArc
    rw [o0, o20, o21, o23, e]
    exact ⟨g1, g2, g3, g4, g5, g6⟩
  obtain ⟨G1, G2, G3⟩ := G
  refine ⟨fun u a b => ?_, fun i a b => ?_, fun φ => by rw [o0]; exact G3 φ⟩
  · obtain ⟨g1, g2, g3⟩ := G1 u a b
    exact ⟨arc _ _ _ _ _ g1, fun q => arc _ _ _ _ _ (g2 q), fun q => arc _ _ _ _ _ (g3 q)⟩
  · obtain ⟨g1, g2⟩ := G2 i a b
    exact ⟨arc _ _ _ _ _ g1, arc _ _ _ _ _ g2⟩
theorem rg_loop {n r : Int} {α β B U V L : Int → Int} {M0 : Mem} {post : Int → Mem → Prop} (hn : 0 ≤ n ∧ n ≤ 10) (hr : 0 ≤ r ∧ r ≤ 30) (hR : Rds n r U V L) (hα : ∀ v : Int, 0 ≤ v → v < n → (0 ≤ α v ∧ α v ≤ 1000) ∧ 0 ≤ β v ∧ β v ≤ 1000) (hB : ∀ v : Int, 0 ≤ v → v < n → -1 ≤ B v ∧ B v ≤ 100000) (hsum : su n α = su n β)
    (h : ∀ (c : Int) (M' : Mem), OffA M0 M' → Gat n 1000000000 (dr 1000000000 r U V L) B α β c → post c M') {M : Mem} {jg je j1 j2 : Int → Int} (hO : OffA M0 M) (hS : RS M) (hD : RD M (fun _ => 0) 0 0) (G : GR n r α β B U V L M jg je j1 j2) : ∃ j, lpX9_gated_220 post j (su n (fun u => if β u < α u then α u - β u else 0)) 0 M := by
  have tb := su_bnd (n := n) (B := 1000) (f := fun u => if β u < α u then α u - β u else 0) hn.1 (fun k a b => by
    have := hα k a b
    show 0 ≤ (if β k < α k then α k - β k else 0) ∧ (if β k < α k then α k - β k else 0) ≤ 1000
    split <;> omega)
  -- what is pushed is no more than there is
  have lim : ∀ (N : Mem) (π : Int → Int) (mv sp : Int), RS N → RD N π mv sp → GR n r α β B U V L N jg je j1 j2 → mv ≤ su n (fun u => if β u < α u then α u - β u else 0) := fun N π mv sp hS hD G => by
    obtain ⟨⟨_, _, b3, _⟩, _⟩ := rg_bal hn.2 hR hD G
    rw [← b3]
    refine su_le (fun u a b => ?_)
    by_cases q : β u < α u
    · rw [if_pos q, if_pos q]
      have h2 := (G.1 u a b).2.1 q
      have r1 := h2.2.2.2.2.1
      have r2 := rarc_room hS hD h2
      omega
    · rw [if_neg q, if_neg q]; exact Int.le_refl _
  have key : ∀ (f : Nat) (left cost : Int) (N : Mem) (π : Int → Int), left < f → OffA M0 N → RS N → RD N π (su n (fun u => if β u < α u then α u - β u else 0) - left) cost → GR n r α β B U V L N jg je j1 j2 → lpX9_gated_220 post f left cost N := by
    intro f
    induction f with
    | zero =>
      intro left cost N π hf hO hS hD G
      have := lim N π _ _ hS hD G
      omega
    | succ f ih =>
      intro left cost N π hf hO hS hD G
      have hl := lim N π _ _ hS hD G
      have hD' := hD
      obtain ⟨d1, d2, d3, d4, d5, d6, d7, d8⟩ := hD
      unfold lpX9_gated_220
      refine ⟨fun g => ?_, fun g => ?_⟩
      · unfold jbX9_gated_267 jbX9_gated_278
        refine ⟨fun _ => h cost N hO ?_, fun q => absurd g q⟩
        have := rg_gat (M' := N) hn hr hR hα hB hsum hS hD' G hl (Or.inl (by omega))
        rw [if_pos (by omega)] at this
        exact this
      · refine X9_hasNetWay hS d2 d3 d4 (fun c M1 ra hO1 F hc hc1 hc0 => ⟨fun q => ?_, fun q => ?_⟩)
        · unfold jbX9_gated_267 jbX9_gated_278
          refine ⟨fun q2 => absurd q2 g, fun _ => h (-1) M1 ⟨fun k p1 p2 => by rw [hO1 k (by omega) (by omega)]; exact hO.1 k p1 p2, fun i hi => by rw [hO1 0 (by omega) (by omega)]; exact hO.2 i hi⟩ ?_⟩
          have := rg_gat hn hr hR hα hB hsum hS hD' G hl (Or.inr ⟨ra, F, hc0 q⟩)
          rw [if_neg (by omega)] at this
          exact this
        · have c1 : c = 1 := by
            rcases hc with r | r
            · exact absurd r q
            · exact r
          have ht := hc1 c1
          intro dd hdd
          subst hdd
          refine X9_goNet hS d2 d1 hO1 F d4 ht (fun m M2 m1 m2 hO2 A => ?_)
          have s0 : M2 0 = N 0 := by rw [hO2 0 (by omega), hO1 0 (by omega) (by omega)]
          have s20 : M2 20 = N 20 := by rw [hO2 20 (by omega), hO1 20 (by omega) (by omega)]
          have s21 : M2 21 = N 21 := by rw [hO2 21 (by omega), hO1 21 (by omega) (by omega)]
          have s23 : M2 23 = N 23 := by rw [hO2 23 (by omega), hO1 23 (by omega) (by omega)]
          obtain ⟨A1, A2, A3, A4, A5, A6, A7⟩ := A
          have p21 := (F.1 21 (by omega) (by omega)).2.1 ht
          have q20 := F.1 20 (by omega) (by omega)
          have z20 : M1 24 20 = 0 := by
            have h1 := q20.2.2.1 rfl
            have h2 := q20.2.1 (by omega)
            omega
          have g21 := d3 21 (by omega) (by omega)
          have v1 : m * M1 24 21 ≤ m * 198000 := Int.mul_le_mul_of_nonneg_left (by omega) (by omega)
          have v2 : 0 ≤ m * M1 24 21 := Int.mul_nonneg (by omega) (by omega)
          have hS2 : RS M2 := by
            unfold RS
            rw [s0, s20, s21, s23]
            exact hS
          have hD2 : RD M2 (nπ 1000000000 π (M1 24) (M1 24 21 - π 21)) (su n (fun u => if β u < α u then α u - β u else 0) - (left - m)) (cost + m * M1 24 21) := by
            unfold RD PotV
            rw [s0, s20, s21, s23]
            refine ⟨fun e g0 g1 => ?_, fun e g0 g1 g2 => ?_, fun x x0 x1 => ?_, ?_, fun w => ?_, ?_, ?_, fun e g0 g1 g2 => ?_⟩
            · obtain ⟨b1, b2, b3⟩ := A2 e g0 g1
              rw [b2]
              exact ⟨b1, (d1 e g0 g1).2⟩
            · exact (A2 e g0 g1).2.2 g2
            · have u1 := F.1 x x0 x1
              have u2 := d3 x x0 x1
              unfold nπ
              split
              · rename_i c3
                have := u1.2.1 c3
                omega
              · omega
            · unfold nπ
              rw [z20, d4, if_pos (by omega)]
              omega
            · rw [A4 w, d5 w, ← Int.add_mul]
              congr 1
              omega
            · rw [A5, d6, z20, Int.sub_zero]
            · omega
            · have := A6 e g0 g1
              have := d8 e g0 g1 g2
              omega
          have hG2 : GR n r α β B U V L M2 jg je j1 j2 := GR_off (by rw [s0]) s20 s21 s23 (fun e g0 g1 => (A2 e g0 g1).2.1) G
          have hl2 := lim M2 _ _ _ hS2 hD2 hG2
          refine ⟨by omega, fun w hw => ⟨?_, fun w2 hw2 => ?_⟩⟩
          · have b7 := hD2.2.2.2.2.2.2.1
            omega
          · rw [hw, hw2]
            exact ih (left - m) (cost + m * M1 24 21) M2 _ (by omega) ⟨fun k p1 p2 => by rw [hO2 k (by omega), hO1 k (by omega) (by omega)]; exact hO.1 k p1 p2, fun i hi => by rw [s0]; exact hO.2 i hi⟩ hS2 hD2 hG2
  refine ⟨(su n (fun u => if β u < α u then α u - β u else 0)).toNat + 1, key _ _ 0 M (fun _ => 0) (by omega) hO hS ?_ G⟩
  rw [Int.sub_self]
  exact hD
