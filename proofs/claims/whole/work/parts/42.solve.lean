/-! the reference's solve -/
theorem X9_begin {n a b : Int} {M : Mem} {post : Mem → Prop} (hn : 0 ≤ n ∧ n ≤ 10) (e0 : M 0 0 = n) (ha : 0 ≤ a ∧ a < 8) (hb : 0 ≤ b ∧ b < 8)
    (h : ∀ M' : Mem, OffG M M' → (∀ j : Int, 0 ≤ j → j < 100 → M' 11 j = 0) → (∀ u : Int, 0 ≤ u → u < n → M' 12 u = M 4 (10 * a + u) ∧ M' 13 u = M 4 (10 * b + u)) → post M') : wpX9_begin a b M post := by
  have key2 : ∀ (f : Nat) (x : Int) (N : Mem), 0 ≤ x → x ≤ n → n - x < f → OffG M N → (∀ j : Int, 0 ≤ j → j < 100 → N 11 j = 0) → (∀ u : Int, 0 ≤ u → u < x → N 12 u = M 4 (10 * a + u) ∧ N 13 u = M 4 (10 * b + u)) → lpX9_begin_23 post f a b x N := by
    intro f
    induction f with
    | zero => intro x N _ _ g; omega
    | succ f ih =>
      intro x N x0 x1 hf hO h11 hI
      have r0 : N 0 0 = n := by rw [hO 0 (by omega) (by omega) (by omega), e0]
      have r4 : N 4 = M 4 := hO 4 (by omega) (by omega) (by omega)
      unfold lpX9_begin_23
      rw [r0, r4]
      refine ⟨fun g => ?_, fun g => ⟨by omega, by omega, fun N1 e1 => ⟨by omega, by omega, fun N2 e2 => ⟨by omega, ?_⟩⟩⟩⟩
      · have e : x = n := by omega
        subst e
        exact h N hO h11 hI
      · have t4 : N1 4 = M 4 := by rw [e1, row_ne (by omega), r4]
        rw [t4] at e2
        refine ih (x + 1) N2 (by omega) (by omega) (by omega) (fun k p1 p2 p3 => by rw [e2, row_ne p3, e1, row_ne p2]; exact hO k p1 p2 p3) (fun j j0 j1 => by rw [e2, mset_r (by omega), e1, mset_r (by omega)]; exact h11 j j0 j1) (fun u u0 u1 => ?_)
        by_cases c : u = x
        · subst c
          exact ⟨by rw [e2, mset_r (by omega), e1, mset_s], by rw [e2, mset_s]⟩
        · obtain ⟨g1, g2⟩ := hI u u0 (by omega)
          exact ⟨by rw [e2, mset_r (by omega), e1, mset_i c]; exact g1, by rw [e2, mset_i c, e1, mset_r (by omega)]; exact g2⟩
  have key : ∀ (f : Nat) (x : Int) (N : Mem), 0 ≤ x → x ≤ 100 → 100 - x < f → OffG M N → (∀ j : Int, 0 ≤ j → j < x → N 11 j = 0) → lpX9_begin_2 post f a b x N := by
    intro f
    induction f with
    | zero => intro x N _ _ g; omega
    | succ f ih =>
      intro x N x0 x1 hf hO hI
      unfold lpX9_begin_2
      refine ⟨fun g => ⟨11, key2 11 0 N (by omega) (by omega) (by omega) hO (fun j j0 j1 => hI j j0 (by omega)) (fun u _ _ => by omega)⟩, fun g => ⟨by omega, fun N1 e1 => ⟨by omega, ?_⟩⟩⟩
      refine ih (x + 1) N1 (by omega) (by omega) (by omega) (fun k p1 p2 p3 => by rw [e1, row_ne p1]; exact hO k p1 p2 p3) (fun j j0 j1 => ?_)
      by_cases c : j = x
      · rw [e1, c, mset_s]
      · rw [e1, mset_i c]; exact hI j j0 (by omega)
  exact ⟨101, key 101 0 M (by omega) (by omega) (by omega) (fun _ _ _ _ => rfl) (fun j _ _ => by omega)⟩
theorem X9_costOf {r n : Int} {M : Mem} {post : Int → Mem → Prop} (hr : lenR r = 100) (hr2 : r ≠ 17 ∧ r ≠ 18) (hn : 0 ≤ n ∧ n ≤ 10) (e0 : M 0 0 = n) (hF : ∀ u v : Int, 0 ≤ u → u < n → 0 ≤ v → v < n → 0 ≤ M r (10 * u + v) ∧ M r (10 * u + v) ≤ 1000) (hD : ∀ u v : Int, 0 ≤ u → u < n → 0 ≤ v → v < n → 0 ≤ M 10 (10 * u + v) ∧ M 10 (10 * u + v) ≤ 9000) (h : post (su n (fun u => su n (fun v => M r (10 * u + v) * M 10 (10 * u + v)))) M) : wpX9_costOf r M post := by
  have cell : ∀ u v : Int, 0 ≤ u → u < n → 0 ≤ v → v < n → 0 ≤ M r (10 * u + v) * M 10 (10 * u + v) ∧ M r (10 * u + v) * M 10 (10 * u + v) ≤ 9000000 := fun u v a b c d => by
    have h1 := hF u v a b c d
    have h2 := hD u v a b c d
    have h3 := Int.mul_le_mul h1.2 h2.2 h2.1 (by omega)
    have h4 := Int.mul_nonneg h1.1 h2.1
    omega
  have rowb : ∀ u y : Int, 0 ≤ u → u < n → 0 ≤ y → y ≤ n → 0 ≤ su y (fun v => M r (10 * u + v) * M 10 (10 * u + v)) ∧ su y (fun v => M r (10 * u + v) * M 10 (10 * u + v)) ≤ y * 9000000 := fun u y a b c d => su_bnd c (fun v v0 v1 => cell u v a b v0 (by omega))
  have allb : ∀ x : Int, 0 ≤ x → x ≤ n → 0 ≤ su x (fun u => su n (fun v => M r (10 * u + v) * M 10 (10 * u + v))) ∧ su x (fun u => su n (fun v => M r (10 * u + v) * M 10 (10 * u + v))) ≤ x * 90000000 := fun x a b => su_bnd a (fun u u0 u1 => by
    have := rowb u n u0 (by omega) hn.1 (Int.le_refl _)
    omega)
  have key : ∀ (f : Nat) (x : Int), 0 ≤ x → x ≤ n → n - x < f → lpX9_costOf_4 r post f (su x (fun u => su n (fun v => M r (10 * u + v) * M 10 (10 * u + v)))) x M := by
    intro f
    induction f with
    | zero => intro x _ _ g; omega
    | succ f ih =>
      intro x x0 x1 hf
      unfold lpX9_costOf_4
      rw [e0]
      refine ⟨fun g => ?_, fun g => ?_⟩
      · rw [show x = n by omega]; exact h
      · have key2 : ∀ (f2 : Nat) (y : Int), 0 ≤ y → y ≤ n → n - y < f2 → lpX9_costOf_15 r post (fun y2 y3 N => lpX9_costOf_4 r post f y2 y3 N) f2 (su x (fun u => su n (fun v => M r (10 * u + v) * M 10 (10 * u + v))) + su y (fun v => M r (10 * x + v) * M 10 (10 * x + v))) x y M := by
          intro f2
          induction f2 with
          | zero => intro y _ _ g; omega
          | succ f2 ih2 =>
            intro y y0 y1 hf2
            unfold lpX9_costOf_15
            rw [e0, hr]
            refine ⟨fun g2 => ⟨by omega, ?_⟩, fun g2 => ⟨by omega, hr2, by omega, ?_, fun v hv => ⟨by omega, ?_⟩⟩⟩
            · have := ih (x + 1) (by omega) (by omega) (by omega)
              rw [su_s x0] at this
              rw [show y = n by omega]
              exact this
            · have a1 := allb x x0 x1
              have a2 := rowb x y x0 (by omega) y0 (by omega)
              have a3 := cell x y x0 (by omega) y0 (by omega)
              omega
            · have := ih2 (y + 1) (by omega) (by omega) (by omega)
              rw [su_s y0, ← Int.add_assoc, ← hv] at this
              exact this
        have := key2 11 0 (by omega) (by omega) (by omega)
        rw [su_0, Int.add_zero] at this
        exact ⟨11, this⟩
  exact ⟨11, key 11 0 (by omega) (by omega) (by omega)⟩
/-- what a row and a column of the reference's goods gain -/
theorem r_gain {n m x to K c : Int} {C F F' P π d la ra : Int → Int} (hn : 0 ≤ n ∧ n ≤ 10) (hx : 0 ≤ x ∧ x < n) (ht : 0 ≤ to ∧ to < n) (A : AugI 20 200 K rT rQ P (rR n C F) π d la ra (10 + to) c m x (rR n C F')) : (∀ u : Int, 0 ≤ u → u < n → su n (fun v => F' (10 * u + v)) = su n (fun v => F (10 * u + v)) + (if u = x then m else 0)) ∧ (∀ v : Int, 0 ≤ v → v < n → su n (fun u => F' (10 * u + v)) = su n (fun u => F (10 * u + v)) + (if v = to then m else 0)) := by
  have A4 := A.2.2.2.1
  have flow : ∀ w : Int → Int, su n (fun u => su n (fun v => F' (10 * u + v) * (w u - w (10 + v)))) = su n (fun u => su n (fun v => F (10 * u + v) * (w u - w (10 + v)))) + m * (w x - w (10 + to)) := fun w => by
    have h1 := A4 w
    rw [r_fs hn.1 hn.2, r_fs hn.1 hn.2] at h1
    have e : ∀ E : Int → Int, su n (fun u => su n (fun v => E (10 * u + v) * (fun e => w (rT e) - w (rQ e)) (2 * (10 * u + v)))) = su n (fun u => su n (fun v => E (10 * u + v) * (w u - w (10 + v)))) := fun E => su2_congr (fun u v a b c d => by
      show E (10 * u + v) * (w (rT (2 * (10 * u + v))) - w (rQ (2 * (10 * u + v)))) = _
      rw [(rT_f c (by omega)).1, (rT_f c (by omega)).2])
    rw [e, e] at h1
    exact h1
  refine ⟨fun y y0 y1 => ?_, fun y y0 y1 => ?_⟩
  · have f := flow (fun z => if z = y then 1 else 0)
    have e : ∀ E : Int → Int, su n (fun u => su n (fun v => E (10 * u + v) * ((fun z : Int => if z = y then (1 : Int) else 0) u - (fun z : Int => if z = y then (1 : Int) else 0) (10 + v)))) = su n (fun v => E (10 * y + v)) := fun E => by
      rw [su_one (j := y) y0 y1 (fun u u0 u1 hu => su_all0 (fun v v0 v1 => by
        show E (10 * u + v) * ((if u = y then (1 : Int) else 0) - (if 10 + v = y then (1 : Int) else 0)) = 0
        rw [if_neg hu, if_neg (by omega), Int.sub_self, Int.mul_zero]))]
      refine su_congr (fun v v0 v1 => ?_)
      show E (10 * y + v) * ((if y = y then (1 : Int) else 0) - (if 10 + v = y then (1 : Int) else 0)) = _
      rw [if_pos rfl, if_neg (by omega), Int.sub_zero, Int.mul_one]
    rw [e, e] at f
    rw [f]
    congr 1
    show m * ((if x = y then (1 : Int) else 0) - (if 10 + to = y then (1 : Int) else 0)) = _
    rw [if_neg (show ¬ 10 + to = y by omega), Int.sub_zero]
    by_cases c1 : y = x
    · rw [if_pos c1, if_pos c1.symm, Int.mul_one]
    · rw [if_neg c1, if_neg (fun q => c1 q.symm), Int.mul_zero]
  · have f := flow (fun z => if z = 10 + y then 1 else 0)
    have e : ∀ E : Int → Int, su n (fun u => su n (fun v => E (10 * u + v) * ((fun z : Int => if z = 10 + y then (1 : Int) else 0) u - (fun z : Int => if z = 10 + y then (1 : Int) else 0) (10 + v)))) = - su n (fun u => E (10 * u + y)) := fun E => by
      rw [su_swap, su_one (j := y) y0 y1 (fun v v0 v1 hv => su_all0 (fun u u0 u1 => by
        show E (10 * u + v) * ((if u = 10 + y then (1 : Int) else 0) - (if 10 + v = 10 + y then (1 : Int) else 0)) = 0
        rw [if_neg (by omega), if_neg (by omega), Int.sub_self, Int.mul_zero])), ← su_neg]
      refine su_congr (fun u u0 u1 => ?_)
      show E (10 * u + y) * ((if u = 10 + y then (1 : Int) else 0) - (if 10 + y = 10 + y then (1 : Int) else 0)) = _
      rw [if_pos rfl, if_neg (by omega)]
      omega
    rw [e, e] at f
    have e2 : m * ((fun z : Int => if z = 10 + y then (1 : Int) else 0) x - (fun z : Int => if z = 10 + y then (1 : Int) else 0) (10 + to)) = - (if y = to then m else 0) := by
      show m * ((if x = 10 + y then (1 : Int) else 0) - (if 10 + to = 10 + y then (1 : Int) else 0)) = _
      rw [if_neg (by omega)]
      by_cases c1 : y = to
      · rw [if_pos c1, if_pos (by omega)]; omega
      · rw [if_neg c1, if_neg (by omega), Int.sub_self, Int.mul_zero]; rfl
    rw [e2] at f
    omega
/-- the state between two ways -/
def SolI (n : Int) (α β : Int → Int) (M : Mem) (π : Int → Int) (l : Int) : Prop :=
  (∀ u v : Int, 0 ≤ u → u < n → 0 ≤ v → v < n → 0 ≤ M 11 (10 * u + v) ∧ M 11 (10 * u + v) ≤ 1000) ∧ (∀ u : Int, 0 ≤ u → u < n → su n (fun v => M 11 (10 * u + v)) + M 12 u = α u ∧ 0 ≤ M 12 u) ∧ (∀ v : Int, 0 ≤ v → v < n → su n (fun u => M 11 (10 * u + v)) + M 13 v = β v ∧ 0 ≤ M 13 v)
  ∧ (PotOk 200 rT rQ (rP n (M 10)) (rR n CM (M 11)) π ∧ ∀ x : Int, 0 ≤ x → x < 20 → 0 ≤ π x) ∧ (∀ u : Int, 0 ≤ u → u < n → 0 < M 12 u → π u ≤ 0) ∧ (∀ v : Int, 0 ≤ v → v < n → (0 < M 13 v → l ≤ π (10 + v)) ∧ (0 < su n (fun u => M 11 (10 * u + v)) → π (10 + v) ≤ l)) ∧ ∀ j : Int, 0 ≤ j → j < 100 → (∀ u v : Int, 0 ≤ u → u < n → 0 ≤ v → v < n → j ≠ 10 * u + v) → M 11 j = 0
/-- rows that solve and fits write -/
def OffQ (M M' : Mem) : Prop := ∀ k : Int, k ≠ 11 → k ≠ 12 → k ≠ 13 → k ≠ 15 → k ≠ 16 → M' k = M k
theorem sol_step {n m to x l : Int} {α β π ra : Int → Int} {M M1 M2 : Mem} (hn : 0 ≤ n ∧ n ≤ 10) (hα : ∀ v : Int, 0 ≤ v → v < n → (0 ≤ α v ∧ α v ≤ 1000) ∧ 0 ≤ β v ∧ β v ≤ 1000) (S : SolI n α β M π l) (hW : OffW M M1) (F : FinR n M π M1 ra) (ht : 0 ≤ to ∧ to < n) (hdem : 0 < M 13 to) (hd : M1 15 (10 + to) < 1000000000) (hbest : ∀ v : Int, 0 ≤ v → v < n → 0 < M 13 v → M1 15 (10 + to) ≤ M1 15 (10 + v)) (m1 : 1 ≤ m) (hm13 : m ≤ M 13 to) (hG : OffG M1 M2) (hx : 0 ≤ x ∧ x < n ∧ m ≤ M 12 x) (h12 : M2 12 = up (M 12) x (M 12 x - m)) (h13 : M2 13 = up (M 13) to (M 13 to - m)) (h11 : ∀ j : Int, (∀ u v : Int, 0 ≤ u → u < n → 0 ≤ v → v < n → j ≠ 10 * u + v) → M2 11 j = M 11 j)
    (A : AugI 20 200 1000000000 rT rQ (rP n (M 10)) (rR n CM (M 11)) π (rd n 1000000000 (M1 15)) (rl (M1 16)) ra (10 + to) (M1 15 (10 + to) - l) m x (rR n CM (M2 11))) : SolI n α β M2 (nπ 1000000000 π (rd n 1000000000 (M1 15)) (M1 15 (10 + to) - l)) (M1 15 (10 + to)) := by
  obtain ⟨s1, s2, s3, ⟨s4, s4'⟩, s5, s6, s7⟩ := S
  obtain ⟨g1, g2⟩ := r_gain hn ⟨hx.1, hx.2.1⟩ ht A
  have r10 : M2 10 = M 10 := by rw [hG 10 (by omega) (by omega) (by omega), hW 10 (by omega) (by omega)]
  have nn : ∀ u v : Int, 0 ≤ u → u < n → 0 ≤ v → v < n → 0 ≤ M2 11 (10 * u + v) := fun u v a b c d => by
    have := (A.2.1 (2 * (10 * u + v) + 1) (by omega) (by omega)).1
    rw [rR_b c (by omega) b d] at this
    exact this
  have t2 : ∀ u : Int, 0 ≤ u → u < n → su n (fun v => M2 11 (10 * u + v)) + M2 12 u = α u ∧ 0 ≤ M2 12 u := fun u a b => by
    have := s2 u a b
    rw [g1 u a b, h12]
    by_cases c1 : u = x
    · subst c1; rw [if_pos rfl, up_s]; omega
    · rw [if_neg c1, up_n c1]; omega
  have t3 : ∀ v : Int, 0 ≤ v → v < n → su n (fun u => M2 11 (10 * u + v)) + M2 13 v = β v ∧ 0 ≤ M2 13 v := fun v a b => by
    have := s3 v a b
    rw [g2 v a b, h13]
    by_cases c1 : v = to
    · subst c1; rw [if_pos rfl, up_s]; omega
    · rw [if_neg c1, up_n c1]; omega
  have hto := (s6 to ht.1 ht.2).1 hdem
  have lim : ∀ y : Int, 0 ≤ y → y < 20 → rd n 1000000000 (M1 15) y < 1000000000 → π y ≤ rd n 1000000000 (M1 15) y := fun y y0 y1 hy => ((F.1 y y0 y1).2.1 hy).1
  have dto : rd n 1000000000 (M1 15) (10 + to) = M1 15 (10 + to) := rd_in (by omega)
  have c0 : 0 ≤ M1 15 (10 + to) - l := by
    have := lim (10 + to) (by omega) (by omega) (by rw [dto]; exact hd)
    omega
  have npi_le : ∀ y : Int, nπ 1000000000 π (rd n 1000000000 (M1 15)) (M1 15 (10 + to) - l) y ≤ π y + (M1 15 (10 + to) - l) := fun y => by unfold nπ; split <;> omega
  refine ⟨fun u v a b c d => ⟨nn u v a b c d, ?_⟩, t2, t3, ⟨fun e e0 e1 e2 => ?_, fun y y0 y1 => ?_⟩, fun u a b hu => ?_, fun v a b => ⟨fun hv => ?_, fun hv => ?_⟩, fun j j0 j1 hj => ?_⟩
  · have h1 := su_term (n := n) (f := fun v => M2 11 (10 * u + v)) (fun k k0 k1 => nn u k a b k0 k1) c d
    have h1 : M2 11 (10 * u + v) ≤ su n (fun v => M2 11 (10 * u + v)) := h1
    have h2 := t2 u a b
    have h3 := hα u a b
    omega
  · rw [r10]
    exact (A.2.1 e e0 e1).2.2 e2
  · have h1 := s4' y y0 y1
    unfold nπ
    split
    · rename_i c1
      have := lim y y0 y1 c1
      omega
    · omega
  · have h1 : 0 < M 12 u := by
      rw [h12] at hu
      by_cases c1 : u = x
      · subst c1; rw [up_s] at hu; omega
      · rw [up_n c1] at hu; exact hu
    have h2 := (F.1 u a (by omega)).2.2.1 ⟨a, b, h1⟩
    unfold nπ
    rw [if_pos (by omega)]
    omega
  · have h1 : 0 < M 13 v := by
      rw [h13] at hv
      by_cases c1 : v = to
      · subst c1; exact hdem
      · rw [up_n c1] at hv; exact hv
    have h2 := hbest v a b h1
    have h3 := (s6 v a b).1 h1
    have h4 : rd n 1000000000 (M1 15) (10 + v) = M1 15 (10 + v) := rd_in (by omega)
    unfold nπ
    rw [h4]
    split <;> omega
  · by_cases c1 : 0 < su n (fun u => M 11 (10 * u + v))
    · have h1 := (s6 v a b).2 c1
      have := npi_le (10 + v)
      omega
    · have h1 := su_nonneg (n := n) (f := fun u => M 11 (10 * u + v)) (fun u u0 u1 => (s1 u v u0 u1 a b).1)
      rw [g2 v a b] at hv
      by_cases c2 : v = to
      · subst c2
        unfold nπ
        rw [dto, if_pos hd]
        omega
      · rw [if_neg c2] at hv
        omega
  · rw [h11 j hj]
    exact s7 j j0 j1 hj
theorem X9_solve {n a b m : Int} {α β : Int → Int} {M : Mem} {post : Int → Mem → Prop} (hn : 0 ≤ n ∧ n ≤ 10) (e0 : M 0 0 = n) (ha : 0 ≤ a ∧ a < 8) (hb : 0 ≤ b ∧ b < 8) (hα : ∀ v : Int, 0 ≤ v → v < n → (0 ≤ α v ∧ α v ≤ 1000) ∧ 0 ≤ β v ∧ β v ≤ 1000) (hM : ∀ v : Int, 0 ≤ v → v < n → M 4 (10 * a + v) = α v ∧ M 4 (10 * b + v) = β v) (hD : ∀ u v : Int, 0 ≤ u → u < n → 0 ≤ v → v < n → 0 ≤ M 10 (10 * u + v) ∧ M 10 (10 * u + v) ≤ 9000) (hm : 0 ≤ m) (ma : m ≤ su n α) (mb : m ≤ su n β)
    (h : ∀ (M' : Mem) (π : Int → Int) (l : Int), OffQ M M' → SolI n α β M' π l → su n (fun u => su n (fun v => M' 11 (10 * u + v))) = m → post (cst n (fun u v => M 10 (10 * u + v)) (fun u v => M' 11 (10 * u + v))) M') : wpX9_solve a b m M post := by
  refine X9_begin hn e0 ha hb (fun M0 hO0 z11 z12 => ?_)
  have sab : su n α ≤ 10000 := by
    have := su_bnd (n := n) (B := 1000) (f := α) hn.1 (fun k k0 k1 => (hα k k0 k1).1)
    omega
  have key : ∀ (f : Nat) (left : Int) (N : Mem) (π : Int → Int) (l : Int), 0 ≤ left → left ≤ m → left < f → OffQ M N → SolI n α β N π l → su n (N 12) = su n α - (m - left) → su n (N 13) = su n β - (m - left) → lpX9_solve_9 post f left N := by
    intro f
    induction f with
    | zero => intro left N π l _ _ g; omega
    | succ f ih =>
      intro left N π l l0 l1 hf hO S h12 h13
      have r0 : N 0 0 = n := by rw [hO 0 (by omega) (by omega) (by omega) (by omega) (by omega), e0]
      have r10 : N 10 = M 10 := hO 10 (by omega) (by omega) (by omega) (by omega) (by omega)
      have hDN : ∀ u v : Int, 0 ≤ u → u < n → 0 ≤ v → v < n → 0 ≤ N 10 (10 * u + v) ∧ N 10 (10 * u + v) ≤ 9000 := by rw [r10]; exact hD
      have S' := S
      obtain ⟨s1, s2, s3, ⟨s4, s4'⟩, s5, s6, s7⟩ := S
      unfold lpX9_solve_9
      refine ⟨fun g => ?_, fun g => ?_⟩
      · refine X9_costOf (by decide) ⟨by decide, by decide⟩ hn r0 s1 hDN ?_
        rw [r10]
        refine h N π l hO S' ?_
        have e1 : su n (fun u => su n (fun v => N 11 (10 * u + v))) = su n (fun u => α u - N 12 u) := su_congr (fun u a b => by have := s2 u a b; omega)
        rw [e1, su_sub]
        have : su n (fun u => N 12 u) = su n (N 12) := rfl
        omega
      · refine X9_findWay hn r0 hDN s1 s4 s4' s5 (fun to M1 ra hW h16 F hto => ?_)
        obtain ⟨u, u0, u1, u2⟩ := su_pos (n := n) (f := N 12) (fun k k0 k1 => (s2 k k0 k1).2) (by omega)
        obtain ⟨v, v0, v1, v2⟩ := su_pos (n := n) (f := N 13) (fun k k0 k1 => (s3 k k0 k1).2) (by omega)
        have reach : M1 15 (10 + v) < 1000000000 := by
          have h1 := (F.1 u u0 (by omega)).2.2.1 ⟨u0, u1, u2⟩
          have h2 := (F.2.2 (2 * (10 * u + v)) (by omega) (by omega) (by rw [rR_f v0 (by omega) u1 v1]; have := (s1 u v u0 u1 v0 v1).2; show 0 < 1000000 - N 11 (10 * u + v); omega) (by rw [(rT_f v0 (by omega)).1]; omega)).1
          rw [(rT_f v0 (by omega)).2, rd_in (by omega)] at h2
          exact h2
        rcases hto with ⟨_, q⟩ | ⟨t0, t1, t2, t3, t4⟩
        · have := q v v0 v1 v2
          omega
        · have w11 : M1 11 = N 11 := hW 11 (by omega) (by omega)
          have w12 : M1 12 = N 12 := hW 12 (by omega) (by omega)
          have w13 : M1 13 = N 13 := hW 13 (by omega) (by omega)
          have b13 := s3 to t0 t1
          have n13 := su_nonneg (n := n) (f := fun u => N 11 (10 * u + to)) (fun u u0 u1 => (s1 u to u0 u1 t0 t1).1)
          have bb := hα to t0 t1
          refine X9_go (C := CM) (P := rP n (N 10)) (π := π) (d := rd n 1000000000 (M1 15)) (K := 1000000000) (B := 9000) (ra := ra) (c := M1 15 (10 + to) - l) hn ⟨t0, t1⟩ (by rw [w13]; omega) (by omega) (r_arcs hDN) (r_prs n (N 10)) (by rw [w11]; exact s4) (by
            rw [w11]
            intro u v a b c d
            have := s1 u v a b c d
            exact ⟨this, Int.le_refl _, by show N 11 (10 * u + v) ≤ 1000000; omega, fun _ => by show N 11 (10 * u + v) + 1000 ≤ 1000000; omega⟩) (by
            rw [w12]
            intro u a b
            have := s2 u a b
            have n12 := su_nonneg (n := n) (f := fun v => N 11 (10 * u + v)) (fun v v0 v1 => (s1 u v a b v0 v1).1)
            have := hα u a b
            omega) (by rw [w11, w12]; exact F) (fun x x0 x1 hx => h16 x (by
            by_cases c1 : x < n
            · exact Or.inl ⟨x0, c1⟩
            · by_cases c2 : 10 ≤ x ∧ x < 10 + n
              · exact Or.inr c2
              · unfold rd at hx; rw [if_neg (by omega)] at hx; omega)) (by rw [rd_in (by omega)]; exact t3) (by rw [rd_in (by omega)]; have := (s6 to t0 t1).1 t2; omega) (fun m' M2 x m1 m2 m3 hG hx hdx h12' h13' h11' A => ?_)
          rw [w12] at hx h12'
          rw [w13] at m3 h13'
          rw [w11] at A h11'
          have S2 := sol_step hn hα S' hW F ⟨t0, t1⟩ t2 t3 t4 m1 m3 hG hx h12' h13' h11' A
          refine ⟨by omega, fun w hw => ?_⟩
          subst hw
          refine ih (left - m') M2 _ _ (by omega) (by omega) (by omega) (fun k p1 p2 p3 p4 p5 => by rw [hG k p1 p2 p3, hW k p4 p5]; exact hO k p1 p2 p3 p4 p5) S2 ?_ ?_
          · rw [su_upd (f := N 12) hx.1 hx.2.1 (fun k _ _ hk => by rw [h12', up_n hk]), h12', up_s]; omega
          · rw [su_upd (f := N 13) t0 t1 (fun k _ _ hk => by rw [h13', up_n hk]), h13', up_s]; omega
  have q10 : M0 10 = M 10 := hO0 10 (by omega) (by omega) (by omega)
  refine ⟨m.toNat + 1, key (m.toNat + 1) m M0 (fun _ => 0) 0 hm (Int.le_refl _) (by omega) (fun k p1 p2 p3 _ _ => hO0 k p1 p2 p3) ⟨fun u v a b c d => ?_, fun u a b => ?_, fun v a b => ?_, ⟨fun e e0 e1 e2 => ?_, fun _ _ _ => Int.le_refl _⟩, fun _ _ _ _ => Int.le_refl _, fun v a b => ⟨fun _ => Int.le_refl _, fun _ => Int.le_refl _⟩, fun j j0 j1 _ => z11 j j0 j1⟩ ?_ ?_⟩
  · rw [z11 _ (by omega) (by omega)]; omega
  · rw [su_all0 (fun v v0 v1 => z11 _ (by omega) (by omega)), (z12 u a b).1, (hM u a b).1]
    have := hα u a b
    omega
  · rw [su_all0 (fun u u0 u1 => z11 _ (by omega) (by omega)), (z12 v a b).2, (hM v a b).2]
    have := hα v a b
    omega
  · show (0 : Int) ≤ 0 + rP n (M0 10) e
    rw [q10]
    unfold rR at e2
    unfold rP
    by_cases c1 : e / 20 < n ∧ (e / 2) % 10 < n
    · rw [if_pos c1] at e2 ⊢
      have := hD (e / 20) ((e / 2) % 10) (by omega) c1.1 (by omega) c1.2
      rw [show 10 * (e / 20) + (e / 2) % 10 = e / 2 by omega] at this
      by_cases c2 : e % 2 = 0
      · rw [if_pos c2]; omega
      · rw [if_neg c2, z11 _ (by omega) (by omega)] at e2; omega
    · rw [if_neg c1]; omega
  · rw [su_congr (g := α) (fun u a b => by rw [(z12 u a b).1, (hM u a b).1])]; omega
  · rw [su_congr (g := β) (fun v a b => by rw [(z12 v a b).2, (hM v a b).2])]; omega
/-- and that is the least cost -/
theorem sol_som {n m l : Int} {α β π : Int → Int} {M : Mem} (hn : 0 ≤ n ∧ n ≤ 10) (S : SolI n α β M π l) (hs : su n (fun u => su n (fun v => M 11 (10 * u + v))) = m) : Som n (fun u v => M 10 (10 * u + v)) α β m (cst n (fun u v => M 10 (10 * u + v)) (fun u v => M 11 (10 * u + v))) := by
  obtain ⟨s1, s2, s3, ⟨s4, s4'⟩, s5, s6, s7⟩ := S
  refine som_of (A := π) (B := fun v => π (10 + v)) (l := l) ⟨fun u v a b c d => (s1 u v a b c d).1, fun u a b => by have := s2 u a b; show su n (fun v => M 11 (10 * u + v)) ≤ α u; omega, fun v a b => by have := s3 v a b; show su n (fun u => M 11 (10 * u + v)) ≤ β v; omega, hs⟩ (fun u v a b c d => ?_) (fun u v a b c d hg => ?_) (fun u a b => ⟨fun hl => ?_, fun _ => s4' u a (by omega)⟩) (fun v a b => ⟨fun hl => ?_, fun hg => (s6 v a b).2 hg⟩)
  · have := s4 (2 * (10 * u + v)) (by omega) (by omega) (by rw [rR_f c (by omega) b d]; have := (s1 u v a b c d).2; show 0 < 1000000 - M 11 (10 * u + v); omega)
    rw [(rT_f c (by omega)).1, (rT_f c (by omega)).2, rP_f c (by omega) b d] at this
    show π (10 + v) - π u ≤ M 10 (10 * u + v)
    omega
  · have h1 := s4 (2 * (10 * u + v)) (by omega) (by omega) (by rw [rR_f c (by omega) b d]; have := (s1 u v a b c d).2; show 0 < 1000000 - M 11 (10 * u + v); omega)
    rw [(rT_f c (by omega)).1, (rT_f c (by omega)).2, rP_f c (by omega) b d] at h1
    have h2 := s4 (2 * (10 * u + v) + 1) (by omega) (by omega) (by rw [rR_b c (by omega) b d]; exact hg)
    rw [(rT_b c (by omega)).1, (rT_b c (by omega)).2, rP_b c (by omega) b d] at h2
    show π (10 + v) - π u = M 10 (10 * u + v)
    omega
  · refine s5 u a b ?_
    have := s2 u a b
    have hl : su n (fun v => M 11 (10 * u + v)) < α u := hl
    omega
  · refine (s6 v a b).1 ?_
    have := s3 v a b
    have hl : su n (fun u => M 11 (10 * u + v)) < β v := hl
    omega
