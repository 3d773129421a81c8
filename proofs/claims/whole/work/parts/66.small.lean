/-! small methods of the class -/
theorem X1_others {M : Mem} {post : Int → Mem → Prop} (h : post (su 10 (fun u => su 10 (fun v => if M (60 + u) v = 0 then 0 else 1))) M) : wpX1_others M post := by
  have rowb : ∀ u y : Int, 0 ≤ y → 0 ≤ su y (fun v => if M (60 + u) v = 0 then (0 : Int) else 1) ∧ su y (fun v => if M (60 + u) v = 0 then (0 : Int) else 1) ≤ y * 1 := fun u y c => su_bnd c (fun v _ _ => by split <;> omega)
  have allb : ∀ x : Int, 0 ≤ x → 0 ≤ su x (fun u => su 10 (fun v => if M (60 + u) v = 0 then (0 : Int) else 1)) ∧ su x (fun u => su 10 (fun v => if M (60 + u) v = 0 then (0 : Int) else 1)) ≤ x * 10 := fun x a => su_bnd a (fun u _ _ => by have := rowb u 10 (by omega); omega)
  have key : ∀ (f : Nat) (x : Int), 0 ≤ x → x ≤ 10 → 10 - x < f → lpX1_others_4 post f (su x (fun u => su 10 (fun v => if M (60 + u) v = 0 then (0 : Int) else 1))) x M := by
    intro f
    induction f with
    | zero => intro x _ _ g; omega
    | succ f ih =>
      intro x x0 x1 hf
      unfold lpX1_others_4
      refine ⟨fun g => ?_, fun g => ?_⟩
      · rw [show x = 10 by omega]; exact h
      · have key2 : ∀ (f2 : Nat) (y : Int), 0 ≤ y → y ≤ 10 → 10 - y < f2 → lpX1_others_12 post (fun y1 y2 N => lpX1_others_4 post f y1 y2 N) f2 (su x (fun u => su 10 (fun v => if M (60 + u) v = 0 then (0 : Int) else 1)) + su y (fun v => if M (60 + x) v = 0 then (0 : Int) else 1)) x y M := by
          intro f2
          induction f2 with
          | zero => intro y _ _ g; omega
          | succ f2 ih2 =>
            intro y y0 y1 hf2
            unfold lpX1_others_12 jbX1_others_32
            have a1 := allb x x0
            have a2 := rowb x y y0
            refine ⟨fun g2 => ⟨by omega, ?_⟩, fun g2 => ⟨by omega, by omega, fun g3 => ⟨by omega, ?_⟩, fun g3 => ⟨by omega, by omega, ?_⟩⟩⟩
            · have := ih (x + 1) (by omega) (by omega) (by omega)
              rw [su_s x0] at this
              rw [show y = 10 by omega]
              exact this
            · have := ih2 (y + 1) (by omega) (by omega) (by omega)
              rw [su_s y0, if_pos g3, Int.add_zero] at this
              exact this
            · have := ih2 (y + 1) (by omega) (by omega) (by omega)
              rw [su_s y0, if_neg g3, ← Int.add_assoc] at this
              exact this
        have := key2 11 0 (by omega) (by omega) (by omega)
        rw [su_0, Int.add_zero] at this
        exact ⟨11, this⟩
  exact ⟨11, key 11 0 (by omega) (by omega) (by omega)⟩
theorem X1_wipe {M : Mem} {post : Mem → Prop} (h : ∀ M' : Mem, (∀ k : Int, (k < 60 ∨ 70 ≤ k) → M' k = M k) → (∀ u v : Int, 0 ≤ u → u < 10 → 0 ≤ v → v < 10 → M' (60 + u) v = 0) → post M') : wpX1_wipe M post := by
  have key : ∀ (f : Nat) (x : Int) (N : Mem), 0 ≤ x → x ≤ 10 → 10 - x < f → (∀ k : Int, (k < 60 ∨ 70 ≤ k) → N k = M k) → (∀ u v : Int, 0 ≤ u → u < x → 0 ≤ v → v < 10 → N (60 + u) v = 0) → lpX1_wipe_2 post f x N := by
    intro f
    induction f with
    | zero => intro x N _ _ g; omega
    | succ f ih =>
      intro x N x0 x1 hf hO hI
      unfold lpX1_wipe_2
      refine ⟨fun g => h N hO (fun u v a b c d => hI u v a (by omega) c d), fun g => ⟨by omega, ?_⟩⟩
      have hl : lenX (60 + x) = 10 := lenX_60 (by omega)
      refine J7_fill (by omega) (by omega) ⟨by omega, ?_⟩
      rw [hl]
      refine ih (x + 1) _ (by omega) (by omega) (by omega) (fun k hk => ?_) (fun u v a b c d => ?_)
      · funext i
        rw [mfill_r (by omega), hO k hk]
      · by_cases e : u = x
        · rw [e, mfill_in c d]
        · rw [mfill_r (by omega)]; exact hI u v a (by omega) c d
  exact ⟨11, key 11 0 M (by omega) (by omega) (by omega) (fun _ _ => rfl) (fun u v _ _ => by omega)⟩
theorem X1_wipePlace {p : Int} {M : Mem} {post : Mem → Prop} (hp : 0 ≤ p ∧ p < 10) (h : ∀ M' : Mem, (∀ k : Int, (k < 60 ∨ 70 ≤ k) → M' k = M k) → (∀ u v : Int, 0 ≤ u → u < 10 → 0 ≤ v → v < 10 → M' (60 + u) v = if u = p ∨ v = p then 0 else M (60 + u) v) → post M') : wpX1_wipePlace p M post := by
  have key : ∀ (f : Nat) (x : Int) (N : Mem), 0 ≤ x → x ≤ 10 → 10 - x < f → (∀ k : Int, (k < 60 ∨ 70 ≤ k) → N k = M k) → (∀ u v : Int, 0 ≤ u → u < 10 → 0 ≤ v → v < 10 → N (60 + u) v = if (u = p ∧ v < x) ∨ (v = p ∧ u < x) then 0 else M (60 + u) v) → lpX1_wipePlace_2 post f p x N := by
    intro f
    induction f with
    | zero => intro x N _ _ g; omega
    | succ f ih =>
      intro x N x0 x1 hf hO hI
      unfold lpX1_wipePlace_2
      refine ⟨fun g => h N hO (fun u v a b c d => ?_), fun g => ⟨by omega, by omega, fun N1 e1 => ⟨by omega, by omega, fun N2 e2 => ⟨by omega, ?_⟩⟩⟩⟩
      · rw [hI u v a b c d]
        by_cases e : u = p ∨ v = p
        · rw [if_pos e, if_pos (by omega)]
        · rw [if_neg e, if_neg (by omega)]
      · refine ih (x + 1) N2 (by omega) (by omega) (by omega) (fun k hk => by rw [e2, row_ne (by omega), e1, row_ne (by omega)]; exact hO k hk) (fun u v a b c d => ?_)
        by_cases q1 : u = x ∧ v = p
        · rw [e2, q1.1, q1.2, mset_s, if_pos (by omega)]
        · have n1 : mset N1 (60 + x) p 0 (60 + u) v = N1 (60 + u) v := if_neg (fun w => q1 ⟨by omega, w.2⟩)
          rw [e2, n1]
          by_cases q2 : u = p ∧ v = x
          · rw [e1, q2.1, q2.2, mset_s, if_pos (by omega)]
          · have n2 : mset N (60 + p) x 0 (60 + u) v = N (60 + u) v := if_neg (fun w => q2 ⟨by omega, w.2⟩)
            rw [e1, n2, hI u v a b c d]
            by_cases q3 : (u = p ∧ v < x) ∨ (v = p ∧ u < x)
            · rw [if_pos q3, if_pos (by omega)]
            · rw [if_neg q3, if_neg (by omega)]
  exact ⟨11, key 11 0 M (by omega) (by omega) (by omega) (fun _ _ => rfl) (fun u v _ _ _ _ => by rw [if_neg (by omega)])⟩
/-- the first place whose numbers do not sum up to its amount -/
def Fw (n : Int) (S α : Int → Int) (r : Int) : Prop := (r = -1 ∧ ∀ u : Int, 0 ≤ u → u < n → S u = α u) ∨ (0 ≤ r ∧ r < n ∧ S r ≠ α r ∧ ∀ u : Int, 0 ≤ u → u < r → S u = α u)
theorem fw_one {n : Int} {S α : Int → Int} {r t : Int} (h : Fw n S α r) (h2 : Fw n S α t) : r = t := by
  rcases h with ⟨a, b⟩ | ⟨a, b, c, d⟩
  · rcases h2 with ⟨e, f⟩ | ⟨e, f, g, i⟩
    · rw [a, e]
    · exact absurd (b t e f) g
  · rcases h2 with ⟨e, f⟩ | ⟨e, f, g, i⟩
    · exact absurd (f r a b) c
    · by_cases x : r < t
      · exact absurd (i r a x) c
      · by_cases y : t < r
        · exact absurd (d t e y) g
        · omega
theorem X1_firstWrongFrom {r2 n : Int} {M : Mem} {post : Int → Mem → Prop} (hr2 : 80 ≤ r2 ∧ r2 < 88) (hn : 0 ≤ n ∧ n ≤ 10) (hD : ∀ u v : Int, 0 ≤ u → u < 10 → 0 ≤ v → v < 10 → 0 ≤ M (60 + u) v ∧ M (60 + u) v ≤ 10000) (h : ∀ r : Int, Fw n (fun u => su n (fun v => M (60 + u) v)) (M r2) r → post r M) : wpX1_firstWrongFrom r2 n M post := by
  have l2 : lenX r2 = 10 := by have := lenX_80 (u := r2 - 80) (by omega); rw [show 80 + (r2 - 80) = r2 by omega] at this; exact this
  have key : ∀ (f : Nat) (x : Int), 0 ≤ x → x ≤ n → n - x < f → (∀ u : Int, 0 ≤ u → u < x → su n (fun v => M (60 + u) v) = M r2 u) → lpX1_firstWrongFrom_2 r2 post f n x M := by
    intro f
    induction f with
    | zero => intro x _ _ g; omega
    | succ f ih =>
      intro x x0 x1 hf hI
      unfold lpX1_firstWrongFrom_2
      refine ⟨fun g => h (-1) (Or.inl ⟨rfl, fun u a b => hI u a (by omega)⟩), fun g => ?_⟩
      have key2 : ∀ (f2 : Nat) (y : Int), 0 ≤ y → y ≤ n → n - y < f2 → lpX1_firstWrongFrom_13 r2 post (fun y1 y3 N => lpX1_firstWrongFrom_2 r2 post f y1 y3 N) f2 n x (su y (fun v => M (60 + x) v)) y M := by
        intro f2
        induction f2 with
        | zero => intro y _ _ g; omega
        | succ f2 ih2 =>
          intro y y0 y1 hf2
          unfold lpX1_firstWrongFrom_13
          rw [l2]
          refine ⟨fun g2 => ?_, fun g2 => ⟨by omega, by omega, ?_, fun w hw => ⟨by omega, ?_⟩⟩⟩
          · have e : y = n := by omega
            subst e
            refine ⟨by omega, fun q => ⟨by omega, ih (x + 1) (by omega) (by omega) (by omega) (fun u a b => ?_)⟩, fun q => h x (Or.inr ⟨x0, by omega, q, hI⟩)⟩
            by_cases c : u = x
            · rw [c]; exact q
            · exact hI u a (by omega)
          · have b1 := su_bnd (n := y) (B := 10000) (f := fun v => M (60 + x) v) y0 (fun v a b => hD x v x0 (by omega) a (by omega))
            have b2 := hD x y x0 (by omega) y0 (by omega)
            omega
          · have := ih2 (y + 1) (by omega) (by omega) (by omega)
            rw [su_s y0, ← hw] at this
            exact this
      exact ⟨11, key2 11 0 (by omega) (by omega) (by omega)⟩
  exact ⟨11, key 11 0 (by omega) (by omega) (by omega) (fun u _ _ => by omega)⟩
theorem X1_firstWrongTo {r2 n : Int} {M : Mem} {post : Int → Mem → Prop} (hr2 : 80 ≤ r2 ∧ r2 < 88) (hn : 0 ≤ n ∧ n ≤ 10) (hD : ∀ u v : Int, 0 ≤ u → u < 10 → 0 ≤ v → v < 10 → 0 ≤ M (60 + u) v ∧ M (60 + u) v ≤ 10000) (h : ∀ r : Int, Fw n (fun v => su n (fun u => M (60 + u) v)) (M r2) r → post r M) : wpX1_firstWrongTo r2 n M post := by
  have l2 : lenX r2 = 10 := by have := lenX_80 (u := r2 - 80) (by omega); rw [show 80 + (r2 - 80) = r2 by omega] at this; exact this
  have key : ∀ (f : Nat) (x : Int), 0 ≤ x → x ≤ n → n - x < f → (∀ v : Int, 0 ≤ v → v < x → su n (fun u => M (60 + u) v) = M r2 v) → lpX1_firstWrongTo_2 r2 post f n x M := by
    intro f
    induction f with
    | zero => intro x _ _ g; omega
    | succ f ih =>
      intro x x0 x1 hf hI
      unfold lpX1_firstWrongTo_2
      refine ⟨fun g => h (-1) (Or.inl ⟨rfl, fun u a b => hI u a (by omega)⟩), fun g => ?_⟩
      have key2 : ∀ (f2 : Nat) (y : Int), 0 ≤ y → y ≤ n → n - y < f2 → lpX1_firstWrongTo_13 r2 post (fun y1 y3 N => lpX1_firstWrongTo_2 r2 post f y1 y3 N) f2 n x (su y (fun u => M (60 + u) x)) y M := by
        intro f2
        induction f2 with
        | zero => intro y _ _ g; omega
        | succ f2 ih2 =>
          intro y y0 y1 hf2
          unfold lpX1_firstWrongTo_13
          rw [l2]
          refine ⟨fun g2 => ?_, fun g2 => ⟨by omega, by omega, ?_, fun w hw => ⟨by omega, ?_⟩⟩⟩
          · have e : y = n := by omega
            subst e
            refine ⟨by omega, fun q => ⟨by omega, ih (x + 1) (by omega) (by omega) (by omega) (fun u a b => ?_)⟩, fun q => h x (Or.inr ⟨x0, by omega, q, hI⟩)⟩
            by_cases c : u = x
            · rw [c]; exact q
            · exact hI u a (by omega)
          · have b1 := su_bnd (n := y) (B := 10000) (f := fun u => M (60 + u) x) y0 (fun u a b => hD u x a (by omega) x0 (by omega))
            have b2 := hD y x y0 (by omega) x0 (by omega)
            omega
          · have := ih2 (y + 1) (by omega) (by omega) (by omega)
            rw [su_s y0, ← hw] at this
            exact this
      exact ⟨11, key2 11 0 (by omega) (by omega) (by omega)⟩
  exact ⟨11, key 11 0 (by omega) (by omega) (by omega) (fun u _ _ => by omega)⟩
theorem X1_cost {n : Int} {M : Mem} {post : Int → Mem → Prop} (hn : 0 ≤ n ∧ n ≤ 10) (e0 : M 1 0 = n) (hF : ∀ u v : Int, 0 ≤ u → u < n → 0 ≤ v → v < n → 0 ≤ M (60 + u) v ∧ M (60 + u) v ≤ 1000) (hD : ∀ u v : Int, 0 ≤ u → u < n → 0 ≤ v → v < n → 0 ≤ M (50 + u) v ∧ M (50 + u) v ≤ 9000) (h : post (su n (fun u => su n (fun v => M (60 + u) v * M (50 + u) v))) M) : wpX1_cost M post := by
  have cell : ∀ u v : Int, 0 ≤ u → u < n → 0 ≤ v → v < n → 0 ≤ M (60 + u) v * M (50 + u) v ∧ M (60 + u) v * M (50 + u) v ≤ 9000000 := fun u v a b c d => by
    have h1 := hF u v a b c d
    have h2 := hD u v a b c d
    have h3 := Int.mul_le_mul h1.2 h2.2 h2.1 (by omega)
    have h4 := Int.mul_nonneg h1.1 h2.1
    omega
  have rowb : ∀ u y : Int, 0 ≤ u → u < n → 0 ≤ y → y ≤ n → 0 ≤ su y (fun v => M (60 + u) v * M (50 + u) v) ∧ su y (fun v => M (60 + u) v * M (50 + u) v) ≤ y * 9000000 := fun u y a b c d => su_bnd c (fun v v0 v1 => cell u v a b v0 (by omega))
  have allb : ∀ x : Int, 0 ≤ x → x ≤ n → 0 ≤ su x (fun u => su n (fun v => M (60 + u) v * M (50 + u) v)) ∧ su x (fun u => su n (fun v => M (60 + u) v * M (50 + u) v)) ≤ x * 90000000 := fun x a b => su_bnd a (fun u u0 u1 => by
    have := rowb u n u0 (by omega) hn.1 (Int.le_refl _)
    omega)
  have key : ∀ (f : Nat) (x : Int), 0 ≤ x → x ≤ n → n - x < f → lpX1_cost_4 post f (su x (fun u => su n (fun v => M (60 + u) v * M (50 + u) v))) x M := by
    intro f
    induction f with
    | zero => intro x _ _ g; omega
    | succ f ih =>
      intro x x0 x1 hf
      unfold lpX1_cost_4
      rw [e0]
      refine ⟨fun g => ?_, fun g => ?_⟩
      · rw [show x = n by omega]; exact h
      · have key2 : ∀ (f2 : Nat) (y : Int), 0 ≤ y → y ≤ n → n - y < f2 → lpX1_cost_15 post (fun y2 y3 N => lpX1_cost_4 post f y2 y3 N) f2 (su x (fun u => su n (fun v => M (60 + u) v * M (50 + u) v)) + su y (fun v => M (60 + x) v * M (50 + x) v)) x y M := by
          intro f2
          induction f2 with
          | zero => intro y _ _ g; omega
          | succ f2 ih2 =>
            intro y y0 y1 hf2
            unfold lpX1_cost_15
            rw [e0]
            refine ⟨fun g2 => ⟨by omega, ?_⟩, fun g2 => ⟨by omega, by omega, by omega, by omega, ?_, fun w hw => ⟨by omega, ?_⟩⟩⟩
            · have := ih (x + 1) (by omega) (by omega) (by omega)
              rw [su_s x0] at this
              rw [show y = n by omega]
              exact this
            · have a1 := allb x x0 x1
              have a2 := rowb x y x0 (by omega) y0 (by omega)
              have a3 := cell x y x0 (by omega) y0 (by omega)
              omega
            · have := ih2 (y + 1) (by omega) (by omega) (by omega)
              rw [su_s y0, ← Int.add_assoc, ← hw] at this
              exact this
        have := key2 11 0 (by omega) (by omega) (by omega)
        rw [su_0, Int.add_zero] at this
        exact ⟨11, this⟩
  exact ⟨11, key 11 0 (by omega) (by omega) (by omega)⟩
theorem X3_gates {n : Int} {M : Mem} {post : Int → Mem → Prop} (hn : 0 ≤ n ∧ n ≤ 10) (e0 : M 1 0 = n) (h : post (su n (fun v => if M 18 v = -1 then 0 else 1)) M) : wpX3_gates M post := by
  have key : ∀ (f : Nat) (x : Int), 0 ≤ x → x ≤ n → n - x < f → lpX3_gates_4 post f (su x (fun v => if M 18 v = -1 then (0 : Int) else 1)) x M := by
    intro f
    induction f with
    | zero => intro x _ _ g; omega
    | succ f ih =>
      intro x x0 x1 hf
      have b1 := su_bnd (n := x) (B := 1) (f := fun v => if M 18 v = -1 then (0 : Int) else 1) x0 (fun v _ _ => by split <;> omega)
      unfold lpX3_gates_4 jbX3_gates_25
      rw [e0]
      refine ⟨fun g => ?_, fun g => ⟨by omega, fun g1 => ⟨by omega, ?_⟩, fun g1 => ⟨by omega, by omega, ?_⟩⟩⟩
      · rw [show x = n by omega]; exact h
      · have := ih (x + 1) (by omega) (by omega) (by omega)
        rw [su_s x0, if_pos g1, Int.add_zero] at this
        exact this
      · have := ih (x + 1) (by omega) (by omega) (by omega)
        rw [su_s x0, if_neg g1] at this
        exact this
  exact ⟨11, key 11 0 (by omega) (by omega) (by omega)⟩
theorem X3_isJoined {n : Int} {M : Mem} {post : Int → Mem → Prop} (hn : 0 ≤ n ∧ n ≤ 10) (e0 : M 1 0 = n) (h1 : (∀ v : Int, 0 ≤ v → v < n → M (50 + 0) v ≠ 1000000) → post 1 M) (h0 : (∃ v : Int, 0 ≤ v ∧ v < n ∧ M (50 + 0) v = 1000000) → post 0 M) : wpX3_isJoined M post := by
  have key : ∀ (f : Nat) (x : Int), 0 ≤ x → x ≤ n → n - x < f → (∀ v : Int, 0 ≤ v → v < x → M (50 + 0) v ≠ 1000000) → lpX3_isJoined_2 post f x M := by
    intro f
    induction f with
    | zero => intro x _ _ g; omega
    | succ f ih =>
      intro x x0 x1 hf hI
      unfold lpX3_isJoined_2
      rw [e0]
      refine ⟨fun g => h1 (fun v a b => hI v a (by omega)), fun g => ⟨by omega, fun g1 => ⟨by omega, ih (x + 1) (by omega) (by omega) (by omega) (fun v a b => ?_)⟩, fun g1 => h0 ⟨x, x0, by omega, g1⟩⟩⟩
      by_cases c : v = x
      · rw [c]; exact g1
      · exact hI v a (by omega)
  exact ⟨11, key 11 0 (by omega) (by omega) (by omega) (fun v _ _ => by omega)⟩
/-- the least place behind u on the way to v -/
def Nx (n : Int) (p : Int → Prop) (r : Int) : Prop := (r = -1 ∧ ∀ w : Int, 0 ≤ w → w < n → ¬ p w) ∨ (0 ≤ r ∧ r < n ∧ p r ∧ ∀ w : Int, 0 ≤ w → w < r → ¬ p w)
theorem nx_one {n : Int} {p q : Int → Prop} {r t : Int} (hq : ∀ w : Int, 0 ≤ w → w < n → (p w ↔ q w)) (h : Nx n p r) (h2 : Nx n q t) : r = t := by
  rcases h with ⟨a, b⟩ | ⟨a, b, c, d⟩
  · rcases h2 with ⟨e, f⟩ | ⟨e, f, g, i⟩
    · rw [a, e]
    · exact absurd ((hq t e f).mpr g) (b t e f)
  · rcases h2 with ⟨e, f⟩ | ⟨e, f, g, i⟩
    · exact absurd ((hq r a b).mp c) (f r a b)
    · by_cases x : r < t
      · exact absurd ((hq r a b).mp c) (i r a x)
      · by_cases y : t < r
        · exact absurd ((hq t e f).mpr g) (d t e y)
        · omega
theorem X3_placeBehind {n u v : Int} {M : Mem} {post : Int → Mem → Prop} (hn : 0 ≤ n ∧ n ≤ 10) (e0 : M 1 0 = n) (hu : 0 ≤ u ∧ u < n) (hv : 0 ≤ v ∧ v < n) (hd : ∀ x y : Int, 0 ≤ x → x < n → 0 ≤ y → y < n → (0 ≤ M (40 + x) y ∧ M (40 + x) y ≤ 1000000) ∧ 0 ≤ M (50 + x) y ∧ M (50 + x) y ≤ 1000000) (h : ∀ r : Int, Nx n (fun w => u ≠ v ∧ M (50 + u) v ≠ 1000000 ∧ M (40 + u) w + M (50 + w) v = M (50 + u) v) r → post r M) : wpX3_placeBehind u v M post := by
  unfold wpX3_placeBehind jbX3_placeBehind_18
  refine ⟨fun e => h (-1) (Or.inl ⟨rfl, fun w _ _ q => q.1 e⟩), fun e => ⟨by omega, by omega, fun e2 => ?_, fun e2 => h (-1) (Or.inl ⟨rfl, fun w _ _ q => q.2.1 e2⟩)⟩⟩
  have key : ∀ (f : Nat) (x : Int), 0 ≤ x → x ≤ n → n - x < f → (∀ w : Int, 0 ≤ w → w < x → M (40 + u) w + M (50 + w) v ≠ M (50 + u) v) → lpX3_placeBehind_22 post f u v x M := by
    intro f
    induction f with
    | zero => intro x _ _ g; omega
    | succ f ih =>
      intro x x0 x1 hf hI
      unfold lpX3_placeBehind_22
      rw [e0]
      refine ⟨fun g => h (-1) (Or.inl ⟨rfl, fun w a b q => hI w a (by omega) q.2.2⟩), fun g => ?_⟩
      have b1 := hd u x hu.1 hu.2 x0 (by omega)
      have b2 := hd x v x0 (by omega) hv.1 hv.2
      refine ⟨by omega, by omega, by omega, by omega, by omega, by omega, by omega, fun g1 => ⟨by omega, ih (x + 1) (by omega) (by omega) (by omega) (fun w a b => ?_)⟩, fun g1 => h x (Or.inr ⟨x0, by omega, ⟨e, e2, g1⟩, fun w a b q => hI w a b q.2.2⟩)⟩
      by_cases c : w = x
      · rw [c]; exact g1
      · exact hI w a (by omega)
  exact ⟨11, key 11 0 (by omega) (by omega) (by omega) (fun w _ _ => by omega)⟩
