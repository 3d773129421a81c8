/-! rings of cells -/
/-- no ring: nothing of least cost has more at (u, v) -/
theorem cut_lex {n : Int} {α β H : Int → Int} {δ F G : Int → Int → Int} {us : Int → Int → Prop} {R C : Int → Prop} {u v : Int} (hu : 0 ≤ u ∧ u < n) (hv : 0 ≤ v ∧ v < n) (hF : Pl n α β F) (hG : Pl n α β G) (ht : ∀ x y : Int, 0 ≤ x → x < n → 0 ≤ y → y < n → 0 < G x y → H x - H y = δ x y)
    (k1 : C v) (k2 : ¬ R u) (k3 : ∀ x y : Int, 0 ≤ x → x < n → 0 ≤ y → y < n → C y → us x y → 0 < F x y → R x) (k4 : ∀ x y : Int, 0 ≤ x → x < n → 0 ≤ y → y < n → R x → us x y → H x - H y = δ x y → C y) (k5 : ∀ x y : Int, 0 ≤ x → x < n → 0 ≤ y → y < n → ¬ us x y → ¬ (x = u ∧ y = v) → G x y = F x y) : G u v ≤ F u v := by
  have e1 : su n (fun x => su n (fun y => ind (C y) (G x y - F x y))) = 0 := by
    rw [su_swap]
    refine su_all0 (fun y a b => ?_)
    by_cases c : C y
    · rw [su_congr (g := fun x => G x y - F x y) (fun x _ _ => ind_t c), su_sub, hG.2.2 y a b, hF.2.2 y a b, Int.sub_self]
    · exact su_all0 (fun x _ _ => ind_f c)
  have e2 : su n (fun x => su n (fun y => ind (R x) (G x y - F x y))) = 0 := by
    refine su_all0 (fun x a b => ?_)
    by_cases c : R x
    · rw [su_congr (g := fun y => G x y - F x y) (fun y _ _ => ind_t c), su_sub]
      have g1 : su n (G x) - su n (F x) = 0 := by rw [hG.2.1 x a b, hF.2.1 x a b, Int.sub_self]
      exact g1
    · exact su_all0 (fun y _ _ => ind_f c)
  have e3 : su n (fun x => su n (fun y => ind (C y) (G x y - F x y) - ind (R x) (G x y - F x y))) = 0 := by
    rw [su2_sub, e1, e2]; rfl
  apply Classical.byContradiction
  intro hc
  have nn : ∀ x y : Int, 0 ≤ x → x < n → 0 ≤ y → y < n → 0 ≤ ind (C y) (G x y - F x y) - ind (R x) (G x y - F x y) := fun x y a b c d => by
    by_cases q : x = u ∧ y = v
    · rw [q.1, q.2, ind_t k1, ind_f k2]; omega
    · have f0 := hF.1 x y a b c d
      have g0 := hG.1 x y a b c d
      by_cases cy : C y
      · by_cases rx : R x
        · rw [ind_t cy, ind_t rx]; omega
        · rw [ind_t cy, ind_f rx]
          by_cases hus : us x y
          · by_cases p : 0 < F x y
            · exact absurd (k3 x y a b c d cy hus p) rx
            · omega
          · rw [k5 x y a b c d hus q]; omega
      · by_cases rx : R x
        · rw [ind_f cy, ind_t rx]
          by_cases hus : us x y
          · by_cases p : 0 < G x y
            · exact absurd (k4 x y a b c d rx hus (ht x y a b c d p)) cy
            · omega
          · rw [k5 x y a b c d hus q]; omega
        · rw [ind_f cy, ind_f rx]; omega
  have z := su2_zero nn e3 u v hu.1 hu.2 hv.1 hv.2
  rw [ind_t k1, ind_f k2] at z
  omega
/-- whence rows (rf) and columns (cf) were come to -/
def RgS (n u v : Int) (us tg : Int → Int → Prop) (G : Int → Int → Int) (rf cf ps : Int → Int) (R C : Int → Prop) : Prop :=
  (∀ x : Int, R x → 0 ≤ x ∧ x < n ∧ 0 ≤ rf x ∧ rf x < n ∧ C (rf x) ∧ us x (rf x) ∧ 0 < G x (rf x))
  ∧ (∀ y : Int, C y → 0 ≤ y ∧ y < n ∧ 0 ≤ ps y ∧ (y ≠ v → 0 ≤ cf y ∧ cf y < n ∧ R (cf y) ∧ us (cf y) y ∧ tg (cf y) y ∧ ps (rf (cf y)) < ps y))
def up2 (G : Int → Int → Int) (x y z : Int) : Int → Int → Int := fun a b => if a = x ∧ b = y then z else G a b
theorem up2_s (G : Int → Int → Int) (x y z : Int) : up2 G x y z x y = z := if_pos ⟨rfl, rfl⟩
theorem up2_n {G : Int → Int → Int} {x y z a b : Int} (h : ¬ (a = x ∧ b = y)) : up2 G x y z a b = G a b := if_neg h
theorem up2_row {n x y z : Int} {G : Int → Int → Int} (h0 : 0 ≤ y) (h1 : y < n) (a : Int) : su n (up2 G x y z a) = su n (G a) + (if a = x then z - G x y else 0) := by
  by_cases c : a = x
  · subst c
    rw [if_pos rfl, su_upd (f := G a) h0 h1 (fun k _ _ hk => up2_n (fun q => hk q.2)), up2_s]; omega
  · rw [if_neg c, Int.add_zero]
    exact su_congr (fun k _ _ => up2_n (fun q => c q.1))
theorem up2_col {n x y z : Int} {G : Int → Int → Int} (h0 : 0 ≤ x) (h1 : x < n) (b : Int) : su n (fun a => up2 G x y z a b) = su n (fun a => G a b) + (if b = y then z - G x y else 0) := by
  by_cases c : b = y
  · subst c
    rw [if_pos rfl, su_upd (f := fun a => G a b) h0 h1 (fun k _ _ hk => up2_n (fun q => hk q.1)), up2_s]; omega
  · rw [if_neg c, Int.add_zero]
    exact su_congr (fun k _ _ => up2_n (fun q => c q.2))
/-- m is on its way: taken off row u, put onto row x -/
def TurnE (n u v m : Int) (us tg : Int → Int → Prop) (G : Int → Int → Int) (x : Int) (A : Int → Int → Int) : Prop :=
  (∀ a b : Int, 0 ≤ a → a < n → 0 ≤ b → b < n → 0 ≤ A a b) ∧ (∀ a : Int, 0 ≤ a → a < n → su n (A a) = su n (G a) + (if a = x then m else 0) - (if a = u then m else 0)) ∧ (∀ b : Int, 0 ≤ b → b < n → su n (fun a => A a b) = su n (fun a => G a b))
  ∧ (∀ a b : Int, ¬ us a b → ¬ (a = u ∧ b = v) → A a b = G a b) ∧ (∀ a b : Int, 0 ≤ a → a < n → 0 ≤ b → b < n → 0 < A a b → 0 < G a b ∨ tg a b) ∧ (∀ a b : Int, (a < 0 ∨ n ≤ a ∨ b < 0 ∨ n ≤ b) → A a b = G a b)
/-- rows that are still to come are as they were, or have more -/
def TurnL (G : Int → Int → Int) (rf ps : Int → Int) (R : Int → Prop) (x : Int) (A : Int → Int → Int) : Prop := ∀ a : Int, R a → ps (rf a) ≤ ps (rf x) → G a (rf a) ≤ A a (rf a)
theorem turn_start {n u v m : Int} {us tg : Int → Int → Prop} {α β : Int → Int} {G : Int → Int → Int} (h : Pl n α β G) : TurnE n u v m us tg G u G := by
  refine ⟨h.1, fun a _ _ => by omega, fun _ _ _ => rfl, fun _ _ _ _ => rfl, fun _ _ _ _ _ _ q => Or.inl q, fun _ _ _ => rfl⟩
/-- one step: off (x, c), c = rf x; onto (w, c), w = cf c, or u where c is v -/
theorem turn_step {n u v m x w : Int} {us tg : Int → Int → Prop} {G A : Int → Int → Int} {rf cf ps : Int → Int} {R C : Int → Prop} (hu : 0 ≤ u ∧ u < n) (hT : tg u v) (huv : ¬ us u v) (S : RgS n u v us tg G rf cf ps R C) (hx : R x) (hm : 1 ≤ m ∧ m ≤ G x (rf x)) (hw : (rf x = v ∧ w = u) ∨ (rf x ≠ v ∧ w = cf (rf x))) (H : TurnE n u v m us tg G x A) (L : TurnL G rf ps R x A) : TurnE n u v m us tg G w (up2 (up2 A x (rf x) (A x (rf x) - m)) w (rf x) (A w (rf x) + m)) ∧ m ≤ A x (rf x) ∧ 0 ≤ w ∧ w < n ∧ w ≠ x ∧ (rf x = v → up2 (up2 A x (rf x) (A x (rf x) - m)) w (rf x) (A w (rf x) + m) u v = A u v + m) ∧ (rf x ≠ v → R w ∧ ps (rf w) < ps (rf x) ∧ TurnL G rf ps R w (up2 (up2 A x (rf x) (A x (rf x) - m)) w (rf x) (A w (rf x) + m)) ∧ up2 (up2 A x (rf x) (A x (rf x) - m)) w (rf x) (A w (rf x) + m) u v = A u v) := by
  obtain ⟨s1, s2, s3, s4, s5, s6, s7⟩ := S.1 x hx
  obtain ⟨h1, h2, h3, h4, h5, h7⟩ := H
  have hA : m ≤ A x (rf x) := by
    have := L x hx (Int.le_refl _)
    omega
  have hwn : 0 ≤ w ∧ w < n ∧ (rf x ≠ v → R w ∧ us w (rf x) ∧ tg w (rf x) ∧ ps (rf w) < ps (rf x)) := by
    rcases hw with ⟨q1, q2⟩ | ⟨q1, q2⟩
    · rw [q2]; exact ⟨hu.1, hu.2, fun q => absurd q1 q⟩
    · obtain ⟨_, _, _, t⟩ := S.2 (rf x) s5
      obtain ⟨t1, t2, t3, t4, t5, t6⟩ := t q1
      rw [q2]
      exact ⟨t1, t2, fun _ => ⟨t3, t4, t5, t6⟩⟩
  have hwx : w ≠ x := fun e => by
    rcases hw with ⟨q1, q2⟩ | ⟨q1, q2⟩
    · rw [← e, q2] at s6 q1
      rw [q1] at s6
      exact huv s6
    · have := (hwn.2.2 q1).2.2.2
      rw [e] at this
      omega
  have v1 : up2 A x (rf x) (A x (rf x) - m) w (rf x) = A w (rf x) := up2_n (fun q => hwx q.1)
  refine ⟨⟨fun a b a0 a1 b0 b1 => ?_, fun a a0 a1 => ?_, fun b b0 b1 => ?_, fun a b p q => ?_, fun a b a0 a1 b0 b1 p => ?_, fun a b p => ?_⟩, hA, hwn.1, hwn.2.1, hwx, fun q => ?_, fun q => ⟨(hwn.2.2 q).1, (hwn.2.2 q).2.2.2, fun a p r => ?_, ?_⟩⟩
  · by_cases c1 : a = w ∧ b = rf x
    · rw [c1.1, c1.2, up2_s]
      have := h1 w (rf x) hwn.1 hwn.2.1 s3 s4
      omega
    · rw [up2_n c1]
      by_cases c2 : a = x ∧ b = rf x
      · rw [c2.1, c2.2, up2_s]; omega
      · rw [up2_n c2]; exact h1 a b a0 a1 b0 b1
  · rw [up2_row s3 s4, up2_row s3 s4, h2 a a0 a1, v1]
    by_cases c1 : a = w
    · rw [if_pos c1, if_neg (show ¬ a = x from fun q => hwx (by rw [← c1, q])), if_pos c1, if_neg (show ¬ a = x from fun q => hwx (by rw [← c1, q]))]; omega
    · rw [if_neg c1, if_neg c1]
      by_cases c2 : a = x
      · rw [if_pos c2, if_pos c2]; omega
      · rw [if_neg c2, if_neg c2]; omega
  · rw [up2_col hwn.1 hwn.2.1, up2_col s1 s2, h3 b b0 b1, v1]
    by_cases c1 : b = rf x
    · rw [if_pos c1, if_pos c1]; omega
    · rw [if_neg c1, if_neg c1]; omega
  · have n1 : ¬ (a = w ∧ b = rf x) := fun r => by
      rcases hw with ⟨q1, q2⟩ | ⟨q1, q2⟩
      · exact q ⟨by rw [r.1, q2], by rw [r.2, q1]⟩
      · exact p (by rw [r.1, r.2]; exact (hwn.2.2 q1).2.1)
    have n2 : ¬ (a = x ∧ b = rf x) := fun r => p (by rw [r.1, r.2]; exact s6)
    rw [up2_n n1, up2_n n2]
    exact h4 a b p q
  · by_cases c1 : a = w ∧ b = rf x
    · right
      rw [c1.1, c1.2]
      rcases hw with ⟨q1, q2⟩ | ⟨q1, q2⟩
      · rw [q1, q2]; exact hT
      · exact (hwn.2.2 q1).2.2.1
    · rw [up2_n c1] at p
      by_cases c2 : a = x ∧ b = rf x
      · rw [c2.1, c2.2]; exact Or.inl s7
      · rw [up2_n c2] at p
        exact h5 a b a0 a1 b0 b1 p
  · rw [up2_n (fun r => by rw [r.1, r.2] at p; omega), up2_n (fun r => by rw [r.1, r.2] at p; omega)]
    exact h7 a b p
  · have ew : w = u := by
      rcases hw with ⟨_, q2⟩ | ⟨q1, _⟩
      · exact q2
      · exact absurd q q1
    subst ew
    rw [q, up2_s]
  · have lt : ps (rf a) < ps (rf x) := by have := (hwn.2.2 q).2.2.2; omega
    have na : ¬ rf a = rf x := fun e => by rw [e] at lt; omega
    rw [up2_n (fun r => na r.2), up2_n (fun r => na r.2)]
    exact L a p (by omega)
  · rw [up2_n (fun r => q r.2.symm), up2_n (fun r => q r.2.symm)]
/-- what the turn leaves is a plan of least cost with m more at (u, v) -/
theorem turn_end {n u v m : Int} {us tg : Int → Int → Prop} {α β H : Int → Int} {δ G A : Int → Int → Int} (htg : ∀ a b : Int, tg a b → H a - H b = δ a b) (hH : ∀ a b : Int, 0 ≤ a → a < n → 0 ≤ b → b < n → H a - H b ≤ δ a b) (hP : Pl n α β G) (ht : ∀ a b : Int, 0 ≤ a → a < n → 0 ≤ b → b < n → 0 < G a b → H a - H b = δ a b) (E : TurnE n u v m us tg G u A) : Pl n α β A ∧ (∀ a b : Int, 0 ≤ a → a < n → 0 ≤ b → b < n → 0 < A a b → H a - H b = δ a b) ∧ Opt n δ α β A := by
  obtain ⟨h1, h2, h3, h4, h5, h7⟩ := E
  have p : Pl n α β A := ⟨h1, fun a a0 a1 => by rw [h2 a a0 a1, hP.2.1 a a0 a1]; omega, fun b b0 b1 => by rw [h3 b b0 b1, hP.2.2 b b0 b1]⟩
  have t : ∀ a b : Int, 0 ≤ a → a < n → 0 ≤ b → b < n → 0 < A a b → H a - H b = δ a b := fun a b a0 a1 b0 b1 q => by
    rcases h5 a b a0 a1 b0 b1 q with r | r
    · exact ht a b a0 a1 b0 b1 r
    · exact htg a b r
  exact ⟨p, t, opt_of hH p t⟩
