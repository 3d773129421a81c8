/-! what the class's reach finds -/
noncomputable def rG (J : Int → Int → Prop) (R : Int → Int) (jm : Int → Int → Int) : Int → Int → Int := fun u v => ind (J u v) (R (2 * jm u v + 1))
theorem rch_bal {n : Int} {α β : Int → Int} {J : Int → Int → Prop} {M : Mem} {π js jt : Int → Int} {jm : Int → Int → Int} (hn : n ≤ 10) (hD : NetD 1 M π) (H : RchF n α β J M js jt jm) : (∀ y : Int, 0 ≤ y → y < n → su n (rG J (M (32 + 1)) jm y) = ind (0 < α y) (M (32 + 1) (2 * js y + 1))) ∧ (∀ y : Int, 0 ≤ y → y < n → su n (fun u => rG J (M (32 + 1)) jm u y) = ind (0 < β y) (M (32 + 1) (2 * jt y + 1))) ∧ su n (fun u => su n (rG J (M (32 + 1)) jm u)) = M (8 + 1) 1 := by
  obtain ⟨h1, h2, hφ, h4⟩ := H
  have d5 := hD.2.2.2.2.1
  have flow : ∀ w : Int → Int, su n (fun v => ind (0 < α v) (M (32 + 1) (2 * js v + 1)) * (w 20 - w v) + ind (0 < β v) (M (32 + 1) (2 * jt v + 1)) * (w (10 + v) - w 21)) + su n (fun u => su n (fun v => rG J (M (32 + 1)) jm u v * (w u - w (10 + v)))) = M (8 + 1) 1 * (w 20 - w 21) := fun w => by
    rw [← d5 w]
    unfold fs
    rw [hφ]
    refine congr (congrArg _ (su_congr (fun v a b => ?_))) (su2_congr (fun u v a b c d => ?_))
    · congr 1
      · by_cases q : 0 < α v
        · rw [ind_t q, ind_t q]; obtain ⟨_, _, g3, g4, _⟩ := (h1 v a b).1 q; show _ = M (32 + 1) (2 * js v + 1) * (w (M (28 + 1) (2 * js v)) - w (M (30 + 1) (2 * js v))); rw [g3, g4]
        · rw [ind_f q, ind_f q, Int.zero_mul]
      · by_cases q : 0 < β v
        · rw [ind_t q, ind_t q]; obtain ⟨_, _, g3, g4, _⟩ := (h1 v a b).2 q; show _ = M (32 + 1) (2 * jt v + 1) * (w (M (28 + 1) (2 * jt v)) - w (M (30 + 1) (2 * jt v))); rw [g3, g4]
        · rw [ind_f q, ind_f q, Int.zero_mul]
    · unfold rG
      by_cases q : J u v
      · rw [ind_t q, ind_t q]; obtain ⟨_, _, g3, g4, _⟩ := (h2 u v a b c d q).2.2; show _ = M (32 + 1) (2 * jm u v + 1) * (w (M (28 + 1) (2 * jm u v)) - w (M (30 + 1) (2 * jm u v))); rw [g3, g4]
      · rw [ind_f q, ind_f q, Int.zero_mul]
  have rows : ∀ y : Int, 0 ≤ y → y < n → su n (rG J (M (32 + 1)) jm y) = ind (0 < α y) (M (32 + 1) (2 * js y + 1)) := fun y y0 y1 => by
    have f := flow (fun z => if z = y then 1 else 0)
    have e1 : su n (fun v => ind (0 < α v) (M (32 + 1) (2 * js v + 1)) * ((if (20 : Int) = y then (1 : Int) else 0) - (if v = y then (1 : Int) else 0)) + ind (0 < β v) (M (32 + 1) (2 * jt v + 1)) * ((if 10 + v = y then (1 : Int) else 0) - (if (21 : Int) = y then (1 : Int) else 0))) = - ind (0 < α y) (M (32 + 1) (2 * js y + 1)) := by
      rw [su_one y0 y1 (fun v v0 v1 hv => by rw [if_neg (show ¬ (20 : Int) = y by omega), if_neg hv, if_neg (show ¬ 10 + v = y by omega), if_neg (show ¬ (21 : Int) = y by omega), Int.sub_self, Int.mul_zero, Int.mul_zero]; rfl)]
      rw [if_neg (show ¬ (20 : Int) = y by omega), if_pos rfl, if_neg (show ¬ 10 + y = y by omega), if_neg (show ¬ (21 : Int) = y by omega), Int.sub_self, Int.mul_zero]
      omega
    have e2 : su n (fun u => su n (fun v => rG J (M (32 + 1)) jm u v * ((if u = y then (1 : Int) else 0) - (if 10 + v = y then (1 : Int) else 0)))) = su n (rG J (M (32 + 1)) jm y) := by
      rw [su_one y0 y1 (fun u u0 u1 hu => su_all0 (fun v v0 v1 => by rw [if_neg hu, if_neg (show ¬ 10 + v = y by omega), Int.sub_self, Int.mul_zero]))]
      refine su_congr (fun v v0 v1 => ?_)
      rw [if_pos rfl, if_neg (show ¬ 10 + v = y by omega), Int.sub_zero, Int.mul_one]
    rw [e1, e2, if_neg (show ¬ (20 : Int) = y by omega), if_neg (show ¬ (21 : Int) = y by omega), Int.sub_self, Int.mul_zero] at f
    omega
  refine ⟨rows, fun y y0 y1 => ?_, ?_⟩
  · have f := flow (fun z => if z = 10 + y then 1 else 0)
    have e1 : su n (fun v => ind (0 < α v) (M (32 + 1) (2 * js v + 1)) * ((if (20 : Int) = 10 + y then (1 : Int) else 0) - (if v = 10 + y then (1 : Int) else 0)) + ind (0 < β v) (M (32 + 1) (2 * jt v + 1)) * ((if 10 + v = 10 + y then (1 : Int) else 0) - (if (21 : Int) = 10 + y then (1 : Int) else 0))) = ind (0 < β y) (M (32 + 1) (2 * jt y + 1)) := by
      rw [su_one y0 y1 (fun v v0 v1 hv => by rw [if_neg (show ¬ (20 : Int) = 10 + y by omega), if_neg (show ¬ v = 10 + y by omega), if_neg (show ¬ 10 + v = 10 + y by omega), if_neg (show ¬ (21 : Int) = 10 + y by omega), Int.sub_self, Int.mul_zero, Int.mul_zero]; rfl)]
      rw [if_neg (show ¬ (20 : Int) = 10 + y by omega), if_neg (show ¬ y = 10 + y by omega), if_pos rfl, if_neg (show ¬ (21 : Int) = 10 + y by omega), Int.sub_self, Int.mul_zero]
      omega
    have e2 : su n (fun u => su n (fun v => rG J (M (32 + 1)) jm u v * ((if u = 10 + y then (1 : Int) else 0) - (if 10 + v = 10 + y then (1 : Int) else 0)))) = - su n (fun u => rG J (M (32 + 1)) jm u y) := by
      rw [← su_neg]
      refine su_congr (fun u u0 u1 => ?_)
      rw [su_one y0 y1 (fun v v0 v1 hv => by rw [if_neg (show ¬ u = 10 + y by omega), if_neg (show ¬ 10 + v = 10 + y by omega), Int.sub_self, Int.mul_zero]), if_neg (show ¬ u = 10 + y by omega), if_pos rfl]
      omega
    rw [e1, e2, if_neg (show ¬ (20 : Int) = 10 + y by omega), if_neg (show ¬ (21 : Int) = 10 + y by omega), Int.sub_self, Int.mul_zero] at f
    omega
  · have f := flow (fun z => if z = 20 then 1 else 0)
    have e1 : su n (fun v => ind (0 < α v) (M (32 + 1) (2 * js v + 1)) * ((if (20 : Int) = 20 then (1 : Int) else 0) - (if v = 20 then (1 : Int) else 0)) + ind (0 < β v) (M (32 + 1) (2 * jt v + 1)) * ((if 10 + v = 20 then (1 : Int) else 0) - (if (21 : Int) = 20 then (1 : Int) else 0))) = su n (fun v => ind (0 < α v) (M (32 + 1) (2 * js v + 1))) := su_congr (fun v v0 v1 => by
      rw [if_pos rfl, if_neg (show ¬ v = 20 by omega), if_neg (show ¬ 10 + v = 20 by omega), if_neg (show ¬ (21 : Int) = 20 by omega), Int.sub_self, Int.mul_zero, Int.sub_zero, Int.mul_one, Int.add_zero])
    have e2 : su n (fun u => su n (fun v => rG J (M (32 + 1)) jm u v * ((if u = 20 then (1 : Int) else 0) - (if 10 + v = 20 then (1 : Int) else 0)))) = 0 := su_all0 (fun u u0 u1 => su_all0 (fun v v0 v1 => by rw [if_neg (show ¬ u = 20 by omega), if_neg (show ¬ 10 + v = 20 by omega), Int.sub_self, Int.mul_zero]))
    rw [e1, e2, if_pos rfl, if_neg (show ¬ (21 : Int) = 20 by omega), Int.sub_zero, Int.mul_one] at f
    rw [su_congr (fun u a b => rows u a b)]
    omega
/-- every arc is one of those -/
theorem rch_arc {n : Int} {α β : Int → Int} {J : Int → Int → Prop} {M : Mem} {js jt : Int → Int} {jm : Int → Int → Int} (H : RchF n α β J M js jt jm) {j : Int} (j0 : 0 ≤ j) (j1 : 2 * j + 1 < M (8 + 1) 0) : (∃ v : Int, 0 ≤ v ∧ v < n ∧ 0 < α v ∧ js v = j) ∨ (∃ v : Int, 0 ≤ v ∧ v < n ∧ 0 < β v ∧ jt v = j) ∨ ∃ u v : Int, 0 ≤ u ∧ u < n ∧ 0 ≤ v ∧ v < n ∧ J u v ∧ jm u v = j := by
  have e := H.2.2.1 (fun i => if i = j then 1 else 0)
  rw [su_one (j := j) j0 (by omega) (fun k _ _ hk => if_neg hk), if_pos rfl] at e
  have e : (1 : Int) = su n (fun v => ind (0 < α v) (if js v = j then (1 : Int) else 0) + ind (0 < β v) (if jt v = j then (1 : Int) else 0)) + su n (fun u => su n (fun v => ind (J u v) (if jm u v = j then (1 : Int) else 0))) := e
  have n1 : ∀ (p q : Prop) [Decidable q], 0 ≤ ind p (if q then (1 : Int) else 0) := fun p q _ => ind_nonneg (by split <;> omega)
  have yes : ∀ (p : Prop) (x : Int), 0 < ind p (if x = j then (1 : Int) else 0) → p ∧ x = j := fun p x h => by
    by_cases c : p
    · rw [ind_t c] at h
      by_cases d : x = j
      · exact ⟨c, d⟩
      · rw [if_neg d] at h; omega
    · rw [ind_f c] at h; omega
  by_cases c : 0 < su n (fun v => ind (0 < α v) (if js v = j then (1 : Int) else 0) + ind (0 < β v) (if jt v = j then (1 : Int) else 0))
  · obtain ⟨v, v0, v1, v2⟩ := su_pos (fun v _ _ => by have := n1 (0 < α v) (js v = j); have := n1 (0 < β v) (jt v = j); omega) c
    by_cases d : 0 < ind (0 < α v) (if js v = j then (1 : Int) else 0)
    · obtain ⟨z1, z2⟩ := yes _ _ d
      exact Or.inl ⟨v, v0, v1, z1, z2⟩
    · obtain ⟨z1, z2⟩ := yes (0 < β v) (jt v) (by omega)
      exact Or.inr (Or.inl ⟨v, v0, v1, z1, z2⟩)
  · obtain ⟨u, u0, u1, u2⟩ := su_pos (n := n) (f := fun u => su n (fun v => ind (J u v) (if jm u v = j then (1 : Int) else 0))) (fun u _ _ => su_nonneg (fun v _ _ => n1 _ _)) (by omega)
    obtain ⟨v, v0, v1, v2⟩ := su_pos (fun v _ _ => n1 (J u v) (jm u v = j)) u2
    obtain ⟨z1, z2⟩ := yes _ _ v2
    exact Or.inr (Or.inr ⟨u, v, u0, u1, v0, v1, z1, z2⟩)
theorem arc_room1 {M : Mem} {π : Int → Int} {j a1 a2 a3 a4 : Int} (hD : NetD 1 M π) (h : Arc 1 M j a1 a2 a3 a4) : 0 ≤ M (32 + 1) (2 * j) ∧ 0 ≤ M (32 + 1) (2 * j + 1) ∧ M (32 + 1) (2 * j + 1) ≤ M (8 + 1) 1 := by
  obtain ⟨g1, g2, g3, g4, g5, g6⟩ := h
  exact ⟨(hD.1 (2 * j) (by omega) (by omega)).1, (hD.1 (2 * j + 1) (by omega) (by omega)).1, hD.2.2.2.2.2.2.2 (2 * j + 1) (by omega) (by omega) (by omega)⟩
/-- a push that failed -/
theorem rch_stk {n f : Int} {δ : Int → Int → Int} {α β : Int → Int} {J : Int → Int → Prop} {M : Mem} {π js jt ra : Int → Int} {jm : Int → Int → Int} (hn : 0 ≤ n ∧ n ≤ 10) (hα : ∀ v : Int, 0 ≤ v → v < n → (0 ≤ α v ∧ α v ≤ 1000) ∧ 0 ≤ β v ∧ β v ≤ 1000) (hJ : ∀ u v : Int, 0 ≤ u → u < n → 0 ≤ v → v < n → (J u v ↔ δ u v ≤ f ∧ 0 < α u ∧ 0 < β v)) (hS : NetS 1 M) (hD : NetD 1 M π) (H : RchF n α β J M js jt jm) (hmv : M (8 + 1) 1 ≤ 10000) :
    ((∀ u v : Int, 0 ≤ u → u < n → 0 ≤ v → v < n → 0 ≤ rG J (M (32 + 1)) jm u v ∧ (0 < rG J (M (32 + 1)) jm u v → δ u v ≤ f)) ∧ (∀ u : Int, 0 ≤ u → u < n → su n (rG J (M (32 + 1)) jm u) ≤ α u) ∧ (∀ v : Int, 0 ≤ v → v < n → su n (fun u => rG J (M (32 + 1)) jm u v) ≤ β v)) ∧ (FinZ 1 M π M ra → 1000000 ≤ M (36 + 1) 21 → Stk n (fun u v => δ u v ≤ f) α β (rG J (M (32 + 1)) jm) (fun u => M (36 + 1) u < 1000000) ∧ ∀ S' : Int → Prop, Clo n (fun u v => δ u v ≤ f) α (rG J (M (32 + 1)) jm) S' → ∀ u : Int, 0 ≤ u → u < n → M (36 + 1) u < 1000000 → S' u) := by
  obtain ⟨b1, b2, b3⟩ := rch_bal hn.2 hD H
  have H' := H
  obtain ⟨h1, h2, hφ, h4⟩ := H
  have base : (∀ u v : Int, 0 ≤ u → u < n → 0 ≤ v → v < n → 0 ≤ rG J (M (32 + 1)) jm u v ∧ (0 < rG J (M (32 + 1)) jm u v → J u v ∧ 0 < M (32 + 1) (2 * jm u v + 1))) := fun u v a b c d => by
    unfold rG
    by_cases q : J u v
    · rw [ind_t q]; exact ⟨(arc_room1 hD (h2 u v a b c d q).2.2).2.1, fun r => ⟨q, r⟩⟩
    · rw [ind_f q]; exact ⟨Int.le_refl _, fun r => by omega⟩
  have rowle : ∀ u : Int, 0 ≤ u → u < n → su n (rG J (M (32 + 1)) jm u) ≤ α u := fun u a b => by
    rw [b1 u a b]
    by_cases q : 0 < α u
    · rw [ind_t q]
      have r1 := ((h1 u a b).1 q).2.2.2.2.1
      have r2 := arc_room1 hD ((h1 u a b).1 q)
      omega
    · rw [ind_f q]; exact (hα u a b).1.1
  have colle : ∀ v : Int, 0 ≤ v → v < n → su n (fun u => rG J (M (32 + 1)) jm u v) ≤ β v := fun v a b => by
    rw [b2 v a b]
    by_cases q : 0 < β v
    · rw [ind_t q]
      have r1 := ((h1 v a b).2 q).2.2.2.2.1
      have r2 := arc_room1 hD ((h1 v a b).2 q)
      omega
    · rw [ind_f q]; exact (hα v a b).2.1
  refine ⟨⟨fun u v a b c d => ⟨(base u v a b c d).1, fun q => ((hJ u v a b c d).mp ((base u v a b c d).2 q).1).1⟩, rowle, colle⟩, fun F hk => ?_⟩
  have d20 : M (36 + 1) 20 < 1000000 := by
    have := (F.1 20 (by omega) (by omega)).2.2.1 rfl
    omega
  have go : ∀ (j a1 a2 a3 a4 : Int), Arc 1 M j a1 a2 a3 a4 → 0 < M (32 + 1) (2 * j) → M (36 + 1) a1 < 1000000 → M (36 + 1) a2 < 1000000 := fun j a1 a2 a3 a4 hA hr hd => by
    obtain ⟨g1, g2, g3, g4, g5, g6⟩ := hA
    have := (F.2.2 (2 * j) (by omega) (by omega) hr (by rw [g3]; exact hd)).1
    rw [g4] at this
    exact this
  have back : ∀ (j a1 a2 a3 a4 : Int), Arc 1 M j a1 a2 a3 a4 → 0 < M (32 + 1) (2 * j + 1) → M (36 + 1) a2 < 1000000 → M (36 + 1) a1 < 1000000 := fun j a1 a2 a3 a4 hA hr hd => by
    obtain ⟨g1, g2, g3, g4, g5, g6⟩ := hA
    obtain ⟨p1, p2, p3⟩ := hS.2.2.2 (2 * j) (by omega) (by omega)
    rw [pr1_e] at p1 p2
    have := (F.2.2 (2 * j + 1) (by omega) (by omega) hr (by rw [p1, g4]; exact hd)).1
    rw [p2, g3] at this
    exact this
  -- whence a node was come to
  have from' : ∀ x : Int, 0 ≤ x → x < 20 → M (36 + 1) x < 1000000 → ∃ e : Int, 0 ≤ e ∧ e < M (8 + 1) 0 ∧ M (30 + 1) e = x ∧ 0 < M (32 + 1) e ∧ M (36 + 1) (M (28 + 1) e) < 1000000 ∧ ra (M (28 + 1) e) < ra x := fun x x0 x1 hx => by
    rcases F.2.1 x x0 (by omega) hx with g | ⟨g1, g2, g3, g4, g5, g6, g7⟩
    · have := g.2.1; omega
    · exact ⟨_, g1, g2, g3, g4, g5, g7⟩
  -- and by which arc: rows
  have rowfrom : ∀ u : Int, 0 ≤ u → u < n → M (36 + 1) u < 1000000 → (0 < α u ∧ 0 < M (32 + 1) (2 * js u)) ∨ (∃ y : Int, 0 ≤ y ∧ y < n ∧ J u y ∧ 0 < M (32 + 1) (2 * jm u y + 1) ∧ M (36 + 1) (10 + y) < 1000000 ∧ ra (10 + y) < ra u) := fun u u0 u1 hu => by
    obtain ⟨e, e0, e1, e2, e3, e4, e5⟩ := from' u u0 (by omega) hu
    have ev := hS.2.2.1
    by_cases c : e % 2 = 0
    · have he : e = 2 * (e / 2) := by omega
      rcases rch_arc H' (j := e / 2) (by omega) (by omega) with ⟨v, v0, v1, v2, v3⟩ | ⟨v, v0, v1, v2, v3⟩ | ⟨x, y, x0, x1, y0, y1, v2, v3⟩
      · have a4 := ((h1 v v0 v1).1 v2).2.2.2.1
        rw [v3, ← he, e2] at a4
        subst a4
        left
        rw [v3, ← he]
        exact ⟨v2, e3⟩
      · have a4 := ((h1 v v0 v1).2 v2).2.2.2.1
        rw [v3, ← he, e2] at a4
        omega
      · have a4 := (h2 x y x0 x1 y0 y1 v2).2.2.2.2.2.1
        rw [v3, ← he, e2] at a4
        omega
    · have he : e = 2 * (e / 2) + 1 := by omega
      obtain ⟨p1, p2, p3⟩ := hS.2.2.2 (2 * (e / 2)) (by omega) (by omega)
      rw [pr1_e, ← he] at p1 p2
      rcases rch_arc H' (j := e / 2) (by omega) (by omega) with ⟨v, v0, v1, v2, v3⟩ | ⟨v, v0, v1, v2, v3⟩ | ⟨x, y, x0, x1, y0, y1, v2, v3⟩
      · have a3 := ((h1 v v0 v1).1 v2).2.2.1
        rw [v3, ← p2, e2] at a3
        omega
      · have a3 := ((h1 v v0 v1).2 v2).2.2.1
        rw [v3, ← p2, e2] at a3
        omega
      · have a3 := (h2 x y x0 x1 y0 y1 v2).2.2.2.2.1
        have a4 := (h2 x y x0 x1 y0 y1 v2).2.2.2.2.2.1
        rw [v3, ← p2, e2] at a3
        rw [v3, ← p1] at a4
        subst a3
        right
        rw [a4] at e4 e5
        refine ⟨y, y0, y1, v2, ?_, e4, e5⟩
        rw [v3, ← he]; exact e3
  have colfrom : ∀ v : Int, 0 ≤ v → v < n → M (36 + 1) (10 + v) < 1000000 → ∃ x : Int, 0 ≤ x ∧ x < n ∧ J x v ∧ M (36 + 1) x < 1000000 ∧ ra x < ra (10 + v) := fun v v0 v1 hv => by
    obtain ⟨e, e0, e1, e2, e3, e4, e5⟩ := from' (10 + v) (by omega) (by omega) hv
    have ev := hS.2.2.1
    by_cases c : e % 2 = 0
    · have he : e = 2 * (e / 2) := by omega
      rcases rch_arc H' (j := e / 2) (by omega) (by omega) with ⟨w, w0, w1, v2, v3⟩ | ⟨w, w0, w1, v2, v3⟩ | ⟨x, y, x0, x1, y0, y1, v2, v3⟩
      · have a4 := ((h1 w w0 w1).1 v2).2.2.2.1
        rw [v3, ← he, e2] at a4
        omega
      · have a4 := ((h1 w w0 w1).2 v2).2.2.2.1
        rw [v3, ← he, e2] at a4
        omega
      · have a3 := (h2 x y x0 x1 y0 y1 v2).2.2.2.2.1
        have a4 := (h2 x y x0 x1 y0 y1 v2).2.2.2.2.2.1
        rw [v3, ← he, e2] at a4
        rw [v3, ← he] at a3
        have ey : y = v := by omega
        subst ey
        rw [a3] at e4 e5
        exact ⟨x, x0, x1, v2, e4, e5⟩
    · have he : e = 2 * (e / 2) + 1 := by omega
      obtain ⟨p1, p2, p3⟩ := hS.2.2.2 (2 * (e / 2)) (by omega) (by omega)
      rw [pr1_e, ← he] at p1 p2
      rcases rch_arc H' (j := e / 2) (by omega) (by omega) with ⟨w, w0, w1, v2, v3⟩ | ⟨w, w0, w1, v2, v3⟩ | ⟨x, y, x0, x1, y0, y1, v2, v3⟩
      · have a3 := ((h1 w w0 w1).1 v2).2.2.1
        rw [v3, ← p2, e2] at a3
        omega
      · have a4 := ((h1 w w0 w1).2 v2).2.2.2.1
        rw [v3, ← p1] at a4
        rw [a4] at e4
        omega
      · have a3 := (h2 x y x0 x1 y0 y1 v2).2.2.2.2.1
        rw [v3, ← p2, e2] at a3
        omega
  have posα : ∀ u : Int, 0 ≤ u → u < n → M (36 + 1) u < 1000000 → 0 < α u := fun u u0 u1 hu => by
    rcases rowfrom u u0 u1 hu with q | ⟨y, y0, y1, y2, _⟩
    · exact q.1
    · exact ((hJ u y u0 u1 y0 y1).mp y2).2.1
  -- from a reached row each near column that wants goods is reached
  have toCol : ∀ u v : Int, 0 ≤ u → u < n → 0 ≤ v → v < n → M (36 + 1) u < 1000000 → δ u v ≤ f → 0 < β v → M (36 + 1) (10 + v) < 1000000 := fun u v a b c d hu hd hb => by
    have q := (hJ u v a b c d).mpr ⟨hd, posα u a b hu, hb⟩
    have hA := (h2 u v a b c d q).2.2
    have r1 := hA.2.2.2.2.1
    have r2 := arc_room1 hD hA
    exact go _ _ _ _ _ hA (by omega) hu
  have clo : Clo n (fun u v => δ u v ≤ f) α (rG J (M (32 + 1)) jm) (fun u => M (36 + 1) u < 1000000) := by
    refine ⟨fun u a b hl => ?_, fun u v x a b c d p q hu hd hg => ?_⟩
    · rw [b1 u a b] at hl
      by_cases q : 0 < α u
      · rw [ind_t q] at hl
        have hA := (h1 u a b).1 q
        have r1 := hA.2.2.2.2.1
        exact go _ _ _ _ _ hA (by omega) d20
      · rw [ind_f q] at hl
        have := (hα u a b).1.1
        omega
    · obtain ⟨z1, z2⟩ := (base x v p q c d).2 hg
      have hb := ((hJ x v p q c d).mp z1).2.2
      exact back _ _ _ _ _ (h2 x v p q c d z1).2.2 z2 (toCol u v a b c d hu hd hb)
  refine ⟨⟨fun u v a b c d => ⟨(base u v a b c d).1, fun q => ((hJ u v a b c d).mp ((base u v a b c d).2 q).1).1⟩, rowle, colle, clo, fun u v a b c d hu hd => ?_⟩, fun S' hS' => ?_⟩
  · rw [b2 v c d]
    by_cases q : 0 < β v
    · rw [ind_t q]
      have hA := (h1 v c d).2 q
      have r1 := hA.2.2.2.2.1
      have r2 := arc_room1 hD hA
      have r3 := toCol u v a b c d hu hd q
      by_cases r4 : 0 < M (32 + 1) (2 * jt v)
      · have := go _ _ _ _ _ hA r4 r3
        omega
      · omega
    · rw [ind_f q]
      have := (hα v c d).2.1
      omega
  · have key : ∀ (m : Nat) (x : Int), (0 ≤ x → x < n → M (36 + 1) x < 1000000 → ra x < m → S' x) ∧ (∀ v : Int, 0 ≤ v → v < n → x = 10 + v → M (36 + 1) x < 1000000 → ra x < m → ∃ u : Int, 0 ≤ u ∧ u < n ∧ S' u ∧ δ u v ≤ f) := by
      intro m
      induction m with
      | zero =>
        intro x
        refine ⟨fun x0 x1 _ h => ?_, fun v v0 v1 e _ h => ?_⟩
        · have := (F.1 x x0 (by omega)).2.2.2; omega
        · have := (F.1 x (by omega) (by omega)).2.2.2; omega
      | succ m ih =>
        intro x
        refine ⟨fun x0 x1 hx hm => ?_, fun v v0 v1 e hx hm => ?_⟩
        · rcases rowfrom x x0 x1 hx with ⟨q1, q2⟩ | ⟨y, y0, y1, y2, y3, y4, y5⟩
          · refine hS'.1 x x0 x1 ?_
            rw [b1 x x0 x1, ind_t q1]
            have r1 := ((h1 x x0 x1).1 q1).2.2.2.2.1
            omega
          · obtain ⟨u, u0, u1, u2, u3⟩ := (ih (10 + y)).2 y y0 y1 rfl y4 (by omega)
            refine hS'.2 u y x u0 u1 y0 y1 x0 x1 u2 u3 ?_
            unfold rG
            rw [ind_t y2]
            exact y3
        · subst e
          obtain ⟨u, u0, u1, u2, u3, u4⟩ := colfrom v v0 v1 hx
          exact ⟨u, u0, u1, (ih u).1 u0 u1 u3 (by omega), ((hJ u v u0 u1 v0 v1).mp u2).1⟩
    intro u u0 u1 hu
    have := (F.1 u u0 (by omega)).2.2.2
    exact (key 22 u).1 u0 u1 hu (by omega)
