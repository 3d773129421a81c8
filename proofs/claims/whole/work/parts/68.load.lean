/-! the ways, and what is carried along a road -/
def NxF (n : Int) (nx δ : Int → Int → Int) : Prop := (∀ x y : Int, 0 ≤ x → x < n → 0 ≤ y → y < n → x ≠ y → (0 ≤ nx x y ∧ nx x y < n) ∧ δ (nx x y) y < δ x y) ∧ (∀ x : Int, 0 ≤ x → x < n → nx x x = -1)
def Onw (nx : Int → Int → Int) (v u : Int) : Nat → Int → Prop
  | 0, x => x = u
  | k + 1, x => x ≠ v ∧ Onw nx v u k (nx x v)
def Thr (nx : Int → Int → Int) (v u x : Int) : Prop := ∃ k : Nat, Onw nx v u k x
theorem thr_iff {nx : Int → Int → Int} {v u x : Int} : Thr nx v u x ↔ x = u ∨ (x ≠ v ∧ Thr nx v u (nx x v)) := by
  constructor
  · rintro ⟨k, h⟩
    cases k with
    | zero => exact Or.inl h
    | succ k => exact Or.inr ⟨h.1, k, h.2⟩
  · rintro (h | ⟨h, k, h2⟩)
    · exact ⟨0, h⟩
    · exact ⟨k + 1, h, h2⟩
theorem thr_far {n : Int} {nx δ : Int → Int → Int} (H : NxF n nx δ) {v u : Int} (hv : 0 ≤ v ∧ v < n) : ∀ (k : Nat) (x : Int), 0 ≤ x → x < n → Onw nx v u k x → δ u v ≤ δ x v := by
  intro k
  induction k with
  | zero => intro x _ _ h; have h : x = u := h; rw [h]; exact Int.le_refl _
  | succ k ih =>
    intro x a b h
    obtain ⟨h1, h2⟩ := h
    have q := H.1 x v a b hv.1 hv.2 h1
    have := ih (nx x v) q.1.1 q.1.2 h2
    omega
theorem thr_once {n : Int} {nx δ : Int → Int → Int} (H : NxF n nx δ) {v u : Int} (hv : 0 ≤ v ∧ v < n) (hu : 0 ≤ u ∧ u < n) (huv : u ≠ v) : ¬ Thr nx v u (nx u v) := by
  rintro ⟨k, h⟩
  have q := H.1 u v hu.1 hu.2 hv.1 hv.2 huv
  have := thr_far H hv k (nx u v) q.1.1 q.1.2 h
  omega
theorem X6_passes {n f v u : Int} {nx : Int → Int → Int} {M : Mem} {post : Int → Mem → Prop} (hn : 0 ≤ n ∧ n ≤ 10) (e0 : M 1 0 = n) (hf : 0 ≤ f ∧ f < n) (hv : 0 ≤ v ∧ v < n) (huv : u ≠ v) (hd : ∀ x y : Int, 0 ≤ x → x < n → 0 ≤ y → y < n → (0 ≤ M (40 + x) y ∧ M (40 + x) y ≤ 1000000) ∧ 0 ≤ M (50 + x) y ∧ M (50 + x) y ≤ 1000000) (H : NxF n nx (fun x y => M (50 + x) y)) (hN : ∀ x y r : Int, 0 ≤ x → x < n → 0 ≤ y → y < n → Nx n (fun w => x ≠ y ∧ M (50 + x) y ≠ 1000000 ∧ M (40 + x) w + M (50 + w) y = M (50 + x) y) r → r = nx x y) (h1 : Thr nx v u f → post 1 M) (h0 : ¬ Thr nx v u f → post 0 M) : wpX6_passes f v u M post := by
  have key : ∀ (k : Nat) (x i : Int), 0 ≤ i → i ≤ 10 → 10 - i < k → (x = -1 ∧ ¬ Thr nx v u f) ∨ ((0 ≤ x ∧ x < n) ∧ (Thr nx v u x ↔ Thr nx v u f) ∧ cn n (fun y => M (50 + y) v < M (50 + x) v) + i ≤ n - 1) → lpX6_passes_6 post k v u x i M := by
    intro k
    induction k with
    | zero => intro x i _ _ g; omega
    | succ k ih =>
      intro x i i0 i1 hk hI
      unfold lpX6_passes_6 jbX6_passes_42
      refine ⟨fun g => ?_, fun g => ⟨fun e => ?_, fun e => ⟨fun e2 => ?_, fun e2 => ?_⟩⟩⟩
      · rcases hI with ⟨a, b⟩ | ⟨a, b, c⟩
        · exact h0 b
        · have := cn_nonneg n (fun y => M (50 + y) v < M (50 + x) v)
          omega
      · rcases hI with ⟨a, b⟩ | ⟨a, b, c⟩
        · exact h0 b
        · omega
      · rcases hI with ⟨a, b⟩ | ⟨a, b, c⟩
        · omega
        · refine X3_placeBehind hn e0 a hv hd (fun r hr => ⟨by omega, ?_⟩)
          rw [hN x v r a.1 a.2 hv.1 hv.2 hr]
          refine ih (nx x v) (i + 1) (by omega) (by omega) (by omega) ?_
          by_cases q : x = v
          · refine Or.inl ⟨by rw [q]; exact H.2 v hv.1 hv.2, fun q2 => ?_⟩
            rcases thr_iff.mp (b.mpr q2) with w | w
            · exact e2 w
            · exact w.1 q
          · have z := H.1 x v a.1 a.2 hv.1 hv.2 q
            refine Or.inr ⟨z.1, ⟨fun w => b.mp (thr_iff.mpr (Or.inr ⟨q, w⟩)), fun w => ?_⟩, ?_⟩
            · rcases thr_iff.mp (b.mpr w) with y | y
              · exact absurd y e2
              · exact y.2
            · have z2 : M (50 + nx x v) v < M (50 + x) v := z.2
              have := cn_lt (n := n) (p := fun y => M (50 + y) v < M (50 + nx x v) v) (q := fun y => M (50 + y) v < M (50 + x) v) (fun j _ _ w => by omega) z.1.1 z.1.2 (by omega) z2
              omega
      · rcases hI with ⟨a, b⟩ | ⟨a, b, c⟩
        · omega
        · exact h1 (b.mp (thr_iff.mpr (Or.inl e2)))
  have c0 := cn_ltn (n := n) (p := fun y => M (50 + y) v < M (50 + f) v) hf.1 hf.2 (by omega)
  exact ⟨11, key 11 f 0 (by omega) (by omega) (by omega) (Or.inr ⟨hf, Iff.rfl, by omega⟩)⟩
/-- what goes from f to v along the road from u to w -/
noncomputable def ldv (nx G : Int → Int → Int) (u w f v : Int) : Int := @ite Int (u ≠ v ∧ nx u v = w ∧ Thr nx v u f) (Classical.propDecidable _) (G f v) 0
theorem ldv_y {nx G : Int → Int → Int} {u w f v : Int} (h : u ≠ v ∧ nx u v = w ∧ Thr nx v u f) : ldv nx G u w f v = G f v := if_pos h
theorem ldv_n {nx G : Int → Int → Int} {u w f v : Int} (h : ¬ (u ≠ v ∧ nx u v = w ∧ Thr nx v u f)) : ldv nx G u w f v = 0 := if_neg h
theorem ldv_b {nx G : Int → Int → Int} {u w f v : Int} (h : 0 ≤ G f v ∧ G f v ≤ 1000) : 0 ≤ ldv nx G u w f v ∧ ldv nx G u w f v ≤ 1000 := by
  by_cases c : u ≠ v ∧ nx u v = w ∧ Thr nx v u f
  · rw [ldv_y c]; exact h
  · rw [ldv_n c]; omega
theorem X6_carried {n u w : Int} {nx : Int → Int → Int} {M : Mem} {post : Int → Mem → Prop} (hn : 0 ≤ n ∧ n ≤ 10) (e0 : M 1 0 = n) (hu : 0 ≤ u ∧ u < n) (hw : 0 ≤ w ∧ w < n) (hd : ∀ x y : Int, 0 ≤ x → x < n → 0 ≤ y → y < n → (0 ≤ M (40 + x) y ∧ M (40 + x) y ≤ 1000000) ∧ 0 ≤ M (50 + x) y ∧ M (50 + x) y ≤ 1000000) (H : NxF n nx (fun x y => M (50 + x) y)) (hN : ∀ x y r : Int, 0 ≤ x → x < n → 0 ≤ y → y < n → Nx n (fun w => x ≠ y ∧ M (50 + x) y ≠ 1000000 ∧ M (40 + x) w + M (50 + w) y = M (50 + x) y) r → r = nx x y) (hG : ∀ x y : Int, 0 ≤ x → x < n → 0 ≤ y → y < n → 0 ≤ M (70 + x) y ∧ M (70 + x) y ≤ 1000) (h : post (su n (fun f => su n (fun v => ldv nx (fun x y => M (70 + x) y) u w f v))) M) : wpX6_carried u w M post := by
  have rowb : ∀ f y : Int, 0 ≤ f → f < n → 0 ≤ y → y ≤ n → 0 ≤ su y (fun v => ldv nx (fun x y => M (70 + x) y) u w f v) ∧ su y (fun v => ldv nx (fun x y => M (70 + x) y) u w f v) ≤ y * 1000 := fun f y a b c d => su_bnd c (fun v p q => ldv_b (hG f v a b p (by omega)))
  have allb : ∀ x : Int, 0 ≤ x → x ≤ n → 0 ≤ su x (fun f => su n (fun v => ldv nx (fun x y => M (70 + x) y) u w f v)) ∧ su x (fun f => su n (fun v => ldv nx (fun x y => M (70 + x) y) u w f v)) ≤ x * 10000 := fun x a b => su_bnd a (fun f p q => by have := rowb f n p (by omega) hn.1 (Int.le_refl _); omega)
  have key : ∀ (k : Nat) (x : Int), 0 ≤ x → x ≤ n → n - x < k → lpX6_carried_6 post k u w (su x (fun f => su n (fun v => ldv nx (fun x y => M (70 + x) y) u w f v))) x M := by
    intro k
    induction k with
    | zero => intro x _ _ g; omega
    | succ k ih =>
      intro x x0 x1 hk
      unfold lpX6_carried_6
      rw [e0]
      refine ⟨fun g => by rw [show x = n by omega]; exact h, fun g => ?_⟩
      have key2 : ∀ (k2 : Nat) (y : Int), 0 ≤ y → y ≤ n → n - y < k2 → lpX6_carried_18 post (fun y2 y3 y4 y5 N => lpX6_carried_6 post k y2 y3 y4 y5 N) k2 u w (su x (fun f => su n (fun v => ldv nx (fun x y => M (70 + x) y) u w f v)) + su y (fun v => ldv nx (fun x y => M (70 + x) y) u w x v)) x y M := by
        intro k2
        induction k2 with
        | zero => intro y _ _ g; omega
        | succ k2 ih2 =>
          intro y y0 y1 hk2
          unfold lpX6_carried_18 jbX6_carried_78
          rw [e0]
          have a1 := allb x x0 x1
          have a2 := rowb x y x0 (by omega) y0 y1
          have no : y < n → ldv nx (fun x y => M (70 + x) y) u w x y = 0 → inR (y + 1) ∧ lpX6_carried_18 post (fun y2 y3 y4 y5 N => lpX6_carried_6 post k y2 y3 y4 y5 N) k2 u w (su x (fun f => su n (fun v => ldv nx (fun x y => M (70 + x) y) u w f v)) + su y (fun v => ldv nx (fun x y => M (70 + x) y) u w x v)) x (y + 1) M := fun g hz => by
            have := ih2 (y + 1) (by omega) (by omega) (by omega)
            rw [su_s y0, hz, Int.add_zero] at this
            exact ⟨by omega, this⟩
          refine ⟨fun g2 => ⟨by omega, ?_⟩, fun g2 => ⟨by omega, by omega, fun q => no (by omega) ?_, fun q => ?_⟩⟩
          · have := ih (x + 1) (by omega) (by omega) (by omega)
            rw [su_s x0] at this
            rw [show y = n by omega]
            exact this
          · have b := hG x y x0 (by omega) y0 (by omega)
            by_cases c : u ≠ y ∧ nx u y = w ∧ Thr nx y u x
            · rw [ldv_y c]; show M (70 + x) y = 0; omega
            · exact ldv_n c
          · refine X3_placeBehind hn e0 hu ⟨y0, by omega⟩ hd (fun r hr => ?_)
            rw [hN u y r hu.1 hu.2 y0 (by omega) hr]
            refine ⟨fun q2 => no (by omega) (ldv_n (fun z => q2 z.2.1)), fun q2 => ?_⟩
            have huy : u ≠ y := fun z => by rw [← z, H.2 u hu.1 hu.2] at q2; omega
            refine X6_passes hn e0 ⟨x0, by omega⟩ ⟨y0, by omega⟩ huy hd H hN (fun q3 => ⟨fun q4 => by omega, fun _ => ?_⟩) (fun q3 => ⟨fun _ => no (by omega) (ldv_n (fun z => q3 z.2.2)), fun q4 => absurd rfl q4⟩)
            have b := hG x y x0 (by omega) y0 (by omega)
            refine ⟨by omega, by omega, by omega, fun z hz => ⟨by omega, ?_⟩⟩
            have := ih2 (y + 1) (by omega) (by omega) (by omega)
            rw [su_s y0, ldv_y ⟨huy, q2, q3⟩, ← Int.add_assoc] at this
            rw [hz]
            exact this
      have := key2 11 0 (by omega) (by omega) (by omega)
      rw [su_0, Int.add_zero] at this
      exact ⟨11, this⟩
  have := key 11 0 (by omega) (by omega) (by omega)
  rw [su_0] at this
  exact ⟨11, this⟩
/-- the reference's -/
theorem X9_carried {n r u w : Int} {U V L : Int → Int} {nx : Int → Int → Int} {M : Mem} {post : Int → Mem → Prop} (hn : 0 ≤ n ∧ n ≤ 10) (hr : 0 ≤ r ∧ r ≤ 30) (hR : Rds n r U V L) (e0 : M 0 0 = n) (e1 : M 0 1 = r) (hU : ∀ j : Int, 0 ≤ j → j < r → M 1 j = U j ∧ M 2 j = V j ∧ M 3 j = L j) (hu : 0 ≤ u ∧ u < n) (hd : ∀ x y : Int, 0 ≤ x → x < n → 0 ≤ y → y < n → 0 ≤ M 10 (10 * x + y) ∧ M 10 (10 * x + y) ≤ 1000000000) (H : NxF n nx (fun x y => M 10 (10 * x + y))) (hN : ∀ x y t : Int, 0 ≤ x → x < n → 0 ≤ y → y < n → Nx n (fun w => ∃ j : Int, 0 ≤ j ∧ j < r ∧ RdN U V L (fun x y => M 10 (10 * x + y)) x y j w) t → t = nx x y) (hG : ∀ x y : Int, 0 ≤ x → x < n → 0 ≤ y → y < n → 0 ≤ M 11 (10 * x + y) ∧ M 11 (10 * x + y) ≤ 1000) (h : post (su n (fun f => su n (fun v => ldv nx (fun x y => M 11 (10 * x + y)) u w f v))) M) : ∃ j, lpX9_load_64 post j u w 0 0 M := by
  have rowb : ∀ f y : Int, 0 ≤ f → f < n → 0 ≤ y → y ≤ n → 0 ≤ su y (fun v => ldv nx (fun x y => M 11 (10 * x + y)) u w f v) ∧ su y (fun v => ldv nx (fun x y => M 11 (10 * x + y)) u w f v) ≤ y * 1000 := fun f y a b c d => su_bnd c (fun v p q => ldv_b (hG f v a b p (by omega)))
  have allb : ∀ x : Int, 0 ≤ x → x ≤ n → 0 ≤ su x (fun f => su n (fun v => ldv nx (fun x y => M 11 (10 * x + y)) u w f v)) ∧ su x (fun f => su n (fun v => ldv nx (fun x y => M 11 (10 * x + y)) u w f v)) ≤ x * 10000 := fun x a b => su_bnd a (fun f p q => by have := rowb f n p (by omega) hn.1 (Int.le_refl _); omega)
  have key : ∀ (k : Nat) (x : Int), 0 ≤ x → x ≤ n → n - x < k → lpX9_load_64 post k u w (su x (fun f => su n (fun v => ldv nx (fun x y => M 11 (10 * x + y)) u w f v))) x M := by
    intro k
    induction k with
    | zero => intro x _ _ g; omega
    | succ k ih =>
      intro x x0 x1 hk
      unfold lpX9_load_64
      rw [e0]
      refine ⟨fun g => by rw [show x = n by omega]; exact h, fun g => ?_⟩
      have key2 : ∀ (k2 : Nat) (y : Int), 0 ≤ y → y ≤ n → n - y < k2 → lpX9_load_76 post (fun y3 y4 y6 y7 N => lpX9_load_64 post k y3 y4 y6 y7 N) k2 u w (su x (fun f => su n (fun v => ldv nx (fun x y => M 11 (10 * x + y)) u w f v)) + su y (fun v => ldv nx (fun x y => M 11 (10 * x + y)) u w x v)) x y M := by
        intro k2
        induction k2 with
        | zero => intro y _ _ g; omega
        | succ k2 ih2 =>
          intro y y0 y1 hk2
          unfold lpX9_load_76
          rw [e0]
          have a1 := allb x x0 x1
          have a2 := rowb x y x0 (by omega) y0 y1
          refine ⟨fun g2 => ⟨by omega, ?_⟩, fun g2 => ?_⟩
          · have := ih (x + 1) (by omega) (by omega) (by omega)
            rw [su_s x0] at this
            rw [show y = n by omega]
            exact this
          · have b := hG x y x0 (by omega) y0 (by omega)
            generalize hS : su x (fun f => su n (fun v => ldv nx (fun x y => M 11 (10 * x + y)) u w f v)) + su y (fun v => ldv nx (fun x y => M 11 (10 * x + y)) u w x v) = S at ih2 ⊢
            have fin : ∀ T : Int, T = S + ldv nx (fun x y => M 11 (10 * x + y)) u w x y → inR (y + 1) ∧ lpX9_load_76 post (fun y3 y4 y6 y7 N => lpX9_load_64 post k y3 y4 y6 y7 N) k2 u w T x (y + 1) M := fun T hT => by
              have := ih2 (y + 1) (by omega) (by omega) (by omega)
              rw [su_s y0, ← Int.add_assoc, hS, ← hT] at this
              exact ⟨by omega, this⟩
            have key3 : ∀ (k3 : Nat) (z T : Int), 0 ≤ z → z < n → cn n (fun q => M 10 (10 * q + y) < M 10 (10 * z + y)) < k3 → 0 < M 11 (10 * x + y) → (T = S + ldv nx (fun x y => M 11 (10 * x + y)) u w x y ∧ ¬ (u ≠ y ∧ nx u y = w ∧ Thr nx y u z)) ∨ (T = S ∧ (Thr nx y u z ↔ Thr nx y u x)) → lpX9_load_89 post (fun y3 y4 y6 y7 N => lpX9_load_64 post k y3 y4 y6 y7 N) (fun y3 y4 y6 y7 y8 N => lpX9_load_76 post (fun y3 y4 y6 y7 N => lpX9_load_64 post k y3 y4 y6 y7 N) k2 y3 y4 y6 y7 y8 N) k3 u w T x y z M := by
              intro k3
              induction k3 with
              | zero => intro z T _ _ g; have := cn_nonneg n (fun q => M 10 (10 * q + y) < M 10 (10 * z + y)); omega
              | succ k3 ih3 =>
                intro z T z0 z1 hk3 hp hI
                unfold lpX9_load_89 jbX9_load_164 jbX9_load_153 jbX9_load_154
                have lb := ldv_b (nx := nx) (G := fun x y => M 11 (10 * x + y)) (u := u) (w := w) (f := x) (v := y) b
                have Tb : 0 ≤ T ∧ T ≤ 200000 := by
                  rcases hI with ⟨a, _⟩ | ⟨a, _⟩ <;> omega
                refine ⟨by omega, fun q => by omega, fun _ => ⟨fun e => fin T ?_, fun e => ?_⟩⟩
                · rcases hI with ⟨a, _⟩ | ⟨a, c⟩
                  · exact a
                  · rw [a, ldv_n (fun p => ?_), Int.add_zero]
                    rcases thr_iff.mp (c.mpr p.2.2) with d | d
                    · exact p.1 (by omega)
                    · exact d.1 e
                · have Z := H.1 z y z0 z1 y0 (by omega) e
                  have Z2 : M 10 (10 * nx z y + y) < M 10 (10 * z + y) := Z.2
                  have cl := cn_lt (n := n) (p := fun q => M 10 (10 * q + y) < M 10 (10 * nx z y + y)) (q := fun q => M 10 (10 * q + y) < M 10 (10 * z + y)) (fun j _ _ w => by omega) Z.1.1 Z.1.2 (by omega) Z2
                  refine X9_nextTo hn hr hR e1 hU ⟨z0, z1⟩ ⟨y0, by omega⟩ hd (fun t ht => ?_)
                  rw [hN z y t z0 z1 y0 (by omega) ht]
                  refine ⟨fun q => ⟨by omega, fun T2 hT2 => ?_⟩, fun q => ⟨fun q2 => ⟨by omega, fun T2 hT2 => ?_⟩, fun q2 => ⟨by omega, by omega, fun T2 hT2 => ?_⟩⟩⟩
                  · rw [Int.add_zero] at hT2
                    refine ih3 (nx z y) T2 Z.1.1 Z.1.2 (by omega) hp ?_
                    rw [hT2]
                    have st : Thr nx y u z ↔ Thr nx y u (nx z y) := by
                      rw [thr_iff (x := z)]
                      exact ⟨fun p => p.elim (fun p => absurd p q) (fun p => p.2), fun p => Or.inr ⟨e, p⟩⟩
                    rcases hI with ⟨a, c⟩ | ⟨a, c⟩
                    · exact Or.inl ⟨a, fun p => c ⟨p.1, p.2.1, st.mpr p.2.2⟩⟩
                    · exact Or.inr ⟨a, st.symm.trans c⟩
                  · rw [Int.add_zero] at hT2
                    have huy : u ≠ y := fun p => e (by omega)
                    refine ih3 (nx z y) T2 Z.1.1 Z.1.2 (by omega) hp (Or.inl ⟨?_, fun p => q2 (by rw [q]; exact p.2.1)⟩)
                    rw [hT2]
                    rcases hI with ⟨a, c⟩ | ⟨a, c⟩
                    · exact a
                    · rw [a, ldv_n (fun p => q2 (by rw [q]; exact p.2.1)), Int.add_zero]
                  · have huy : u ≠ y := fun p => e (by omega)
                    have q3 : nx u y = w := by rw [← q]; exact q2
                    have on := thr_once H ⟨y0, by omega⟩ hu huy
                    refine ih3 (nx z y) T2 Z.1.1 Z.1.2 (by omega) hp (Or.inl ⟨?_, fun p => on (by rw [← q]; have := p.2.2; rw [q] at this ⊢; exact this)⟩)
                    rcases hI with ⟨a, c⟩ | ⟨a, c⟩
                    · exact absurd ⟨huy, q3, thr_iff.mpr (Or.inl q)⟩ c
                    · rw [hT2, a, ldv_y ⟨huy, q3, c.mp (thr_iff.mpr (Or.inl q))⟩]
            by_cases hp : 0 < M 11 (10 * x + y)
            · have := cn_le hn.1 (fun q => M 10 (10 * q + y) < M 10 (10 * x + y))
              exact ⟨11, key3 11 x S x0 (by omega) (by omega) hp (Or.inr ⟨rfl, Iff.rfl⟩)⟩
            · refine ⟨1, ?_⟩
              unfold lpX9_load_89 jbX9_load_164
              refine ⟨by omega, fun q => fin S ?_, fun q => by omega⟩
              by_cases c : u ≠ y ∧ nx u y = w ∧ Thr nx y u x
              · rw [ldv_y c]; show S = S + M 11 (10 * x + y); omega
              · rw [ldv_n c, Int.add_zero]
      have := key2 11 0 (by omega) (by omega) (by omega)
      rw [su_0, Int.add_zero] at this
      exact ⟨11, this⟩
  have := key 11 0 (by omega) (by omega) (by omega)
  rw [su_0] at this
  exact ⟨11, this⟩
