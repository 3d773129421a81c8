/-! small methods of the reference -/
theorem X9_isJoined {n r : Int} {U V L : Int → Int} {M : Mem} {post : Int → Mem → Prop} (hn : 0 ≤ n ∧ n ≤ 10) (hr : 0 ≤ r ∧ r ≤ 30) (hR : Rds n r U V L) (e0 : M 0 0 = n) (e1 : M 0 1 = r) (hU : ∀ j : Int, 0 ≤ j → j < r → M 1 j = U j ∧ M 2 j = V j ∧ M 3 j = L j)
    (h1 : ∀ M' : Mem, OffT M M' → Ds n (dr 1000000000 r U V L) 1000000000 (fun u v => M' 10 (10 * u + v)) → (∀ v : Int, 0 ≤ v → v < n → M' 10 (10 * 0 + v) < 1000000000) → post 1 M')
    (h0 : ∀ M' : Mem, OffT M M' → Ds n (dr 1000000000 r U V L) 1000000000 (fun u v => M' 10 (10 * u + v)) → (∃ v : Int, 0 ≤ v ∧ v < n ∧ 1000000000 ≤ M' 10 (10 * 0 + v)) → post 0 M') : wpX9_isJoined M post := by
  unfold wpX9_isJoined
  refine X9_findFar hn hr hR e0 e1 hU (fun M' hO hD => ?_)
  have e0' : M' 0 0 = n := by rw [hO 0 0 (by omega), e0]
  have key : ∀ (f : Nat) (b x : Int), 0 ≤ x → x ≤ n → n - x < f → (b = 1 ∧ ∀ v : Int, 0 ≤ v → v < x → M' 10 (10 * 0 + v) < 1000000000) ∨ (b = 0 ∧ ∃ v : Int, 0 ≤ v ∧ v < n ∧ 1000000000 ≤ M' 10 (10 * 0 + v)) → lpX9_isJoined_8 post f b x M' := by
    intro f
    induction f with
    | zero => intro b x _ _ g; omega
    | succ f ih =>
      intro b x x0 x1 hf hI
      unfold lpX9_isJoined_8 jbX9_isJoined_35 jbX9_isJoined_36
      rw [e0']
      refine ⟨fun g => ?_, fun g => ⟨fun q => ⟨by omega, ih 0 (x + 1) (by omega) (by omega) (by omega) (Or.inr ⟨rfl, ?_⟩)⟩, fun q => ⟨by omega, fun q2 => ⟨by omega, ih 0 (x + 1) (by omega) (by omega) (by omega) (Or.inr ⟨rfl, x, x0, by omega, by rw [show 10 * 0 + x = x by omega]; exact q2⟩)⟩, fun q2 => ⟨by omega, ih 1 (x + 1) (by omega) (by omega) (by omega) (Or.inl ⟨rfl, fun v a c => ?_⟩)⟩⟩⟩⟩
      · rcases hI with ⟨a, c⟩ | ⟨a, c⟩
        · rw [a]; exact ⟨Or.inr rfl, h1 M' hO hD (fun v p p2 => c v p (by omega))⟩
        · rw [a]; exact ⟨Or.inl rfl, h0 M' hO hD c⟩
      · rcases hI with ⟨a, c⟩ | ⟨a, c⟩
        · omega
        · exact c
      · rcases hI with ⟨a1, c1⟩ | ⟨a1, c1⟩
        · by_cases e : v = x
          · rw [e, show 10 * 0 + x = x by omega]; omega
          · exact c1 v a (by omega)
        · omega
  exact ⟨11, key 11 1 0 (by omega) (by omega) (by omega) (Or.inl ⟨rfl, fun v _ _ => by omega⟩)⟩
/-- a road that leads nearer -/
def RdN (U V L : Int → Int) (e : Int → Int → Int) (u v j w : Int) : Prop := u ≠ v ∧ ((U j = u ∧ V j = w) ∨ (U j = w ∧ V j = u)) ∧ e w v < 1000000000 ∧ L j + e w v = e u v
theorem X9_nextTo {n r u v : Int} {U V L : Int → Int} {M : Mem} {post : Int → Mem → Prop} (hn : 0 ≤ n ∧ n ≤ 10) (hr : 0 ≤ r ∧ r ≤ 30) (hR : Rds n r U V L) (e1 : M 0 1 = r) (hU : ∀ j : Int, 0 ≤ j → j < r → M 1 j = U j ∧ M 2 j = V j ∧ M 3 j = L j) (hu : 0 ≤ u ∧ u < n) (hv : 0 ≤ v ∧ v < n) (hd : ∀ x y : Int, 0 ≤ x → x < n → 0 ≤ y → y < n → 0 ≤ M 10 (10 * x + y) ∧ M 10 (10 * x + y) ≤ 1000000000)
    (h : ∀ t : Int, Nx n (fun w => ∃ j : Int, 0 ≤ j ∧ j < r ∧ RdN U V L (fun x y => M 10 (10 * x + y)) u v j w) t → post t M) : wpX9_nextTo u v M post := by
  have key : ∀ (f : Nat) (t x : Int), 0 ≤ x → x ≤ r → r - x < f → (t = -1 ∧ ∀ j w : Int, 0 ≤ j → j < x → ¬ RdN U V L (fun x y => M 10 (10 * x + y)) u v j w) ∨ ((0 ≤ t ∧ t < n) ∧ (∃ j : Int, 0 ≤ j ∧ j < x ∧ RdN U V L (fun x y => M 10 (10 * x + y)) u v j t) ∧ ∀ j w : Int, 0 ≤ j → j < x → RdN U V L (fun x y => M 10 (10 * x + y)) u v j w → t ≤ w) → lpX9_nextTo_5 post f u v t x M := by
    intro f
    induction f with
    | zero => intro t x _ _ g; omega
    | succ f ih =>
      intro t x x0 x1 hf hI
      -- nothing new at x
      have no : x < r → (∀ w : Int, ¬ RdN U V L (fun x y => M 10 (10 * x + y)) u v x w) → lpX9_nextTo_5 post f u v t (x + 1) M := by
        intro g hno
        refine ih t (x + 1) (by omega) (by omega) (by omega) ?_
        rcases hI with ⟨a, c⟩ | ⟨a, ⟨j, b0, b1, b2⟩, c⟩
        · refine Or.inl ⟨a, fun j w p p2 q => ?_⟩
          by_cases e : j = x
          · rw [e] at q; exact hno w q
          · exact c j w p (by omega) q
        · refine Or.inr ⟨a, ⟨j, b0, by omega, b2⟩, fun j w p p2 q => ?_⟩
          by_cases e : j = x
          · rw [e] at q; exact absurd q (hno w)
          · exact c j w p (by omega) q
      -- w at x
      have yes : x < r → ∀ w : Int, 0 ≤ w → w < n → RdN U V L (fun x y => M 10 (10 * x + y)) u v x w → (∀ w' : Int, RdN U V L (fun x y => M 10 (10 * x + y)) u v x w' → w' = w) → (¬ t = -1 → t ≤ w → lpX9_nextTo_5 post f u v t (x + 1) M) ∧ ((t = -1 ∨ ¬ t ≤ w) → lpX9_nextTo_5 post f u v w (x + 1) M) := by
        intro g w w0 w1 hw hone
        refine ⟨fun q q2 => ih t (x + 1) (by omega) (by omega) (by omega) ?_, fun q => ih w (x + 1) (by omega) (by omega) (by omega) ?_⟩
        · rcases hI with ⟨a, c⟩ | ⟨a, ⟨j, b0, b1, b2⟩, c⟩
          · omega
          · refine Or.inr ⟨a, ⟨j, b0, by omega, b2⟩, fun j w' p p2 q => ?_⟩
            by_cases e : j = x
            · rw [e] at q; rw [hone w' q]; exact q2
            · exact c j w' p (by omega) q
        · refine Or.inr ⟨⟨w0, w1⟩, ⟨x, x0, by omega, hw⟩, fun j w' p p2 q3 => ?_⟩
          by_cases e : j = x
          · rw [e] at q3; rw [hone w' q3]; exact Int.le_refl _
          · rcases hI with ⟨a, c⟩ | ⟨a, b, c⟩
            · exact absurd q3 (c j w' p (by omega))
            · have := c j w' p (by omega) q3
              omega
      unfold lpX9_nextTo_5 jbX9_nextTo_157
      rw [e1]
      refine ⟨fun g => ?_, fun g => ⟨fun e => ?_, fun e => ⟨by omega, ?_⟩⟩⟩
      · rcases hI with ⟨a, c⟩ | ⟨a, ⟨j, b0, b1, b2⟩, c⟩
        · exact h t (Or.inl ⟨a, fun w p p2 q => by obtain ⟨j, j0, j1, q⟩ := q; exact c j w j0 (by omega) q⟩)
        · exact h t (Or.inr ⟨a.1, a.2, ⟨j, b0, by omega, b2⟩, fun w p p2 q => by obtain ⟨j, j0, j1, q⟩ := q; have := c j w j0 (by omega) q; omega⟩)
      · rcases hI with ⟨a, c⟩ | ⟨a, ⟨j, b0, b1, b2⟩, c⟩
        · exact h t (Or.inl ⟨a, fun w p p2 q => by obtain ⟨j, j0, j1, q⟩ := q; exact q.1 e⟩)
        · exact absurd e b2.1
      · have hx := hU x x0 (by omega)
        have rx := hR x x0 (by omega)
        rw [hx.1, hx.2.1]
        have at_w : ∀ w : Int, 0 ≤ w → w < n → ((U x = u ∧ V x = w) ∨ (U x = w ∧ V x = u)) → jbX9_nextTo_62 post (fun y1 y2 y3 y4 N => lpX9_nextTo_5 post f y1 y2 y3 y4 N) u v t x w M := by
          intro w w0 w1 hw
          have one : ∀ w' : Int, ((U x = u ∧ V x = w') ∨ (U x = w' ∧ V x = u)) → w' = w := fun w' q => by omega
          unfold jbX9_nextTo_62 jbX9_nextTo_125 jbX9_nextTo_126 jbX9_nextTo_149 jbX9_nextTo_144 jbX9_nextTo_150
          have d1 := hd w v w0 w1 hv.1 hv.2
          rw [hx.2.2]
          refine ⟨fun q => by omega, fun q => ⟨by omega, fun q2 => ⟨fun _ => ⟨by omega, no (by omega) (fun w' q3 => ?_)⟩, fun q3 => absurd rfl q3⟩, fun q2 => ⟨by omega, by omega, by omega, by omega, fun q3 => ⟨fun _ => ⟨by omega, no (by omega) (fun w' q4 => ?_)⟩, fun q4 => absurd rfl q4⟩, fun q3 => ⟨fun q4 => by omega, fun _ => ?_⟩⟩⟩⟩
          · have e' := one w' q3.2.1
            rw [e'] at q3
            have := q3.2.2.1
            have this : M 10 (10 * w + v) < 1000000000 := this
            omega
          · have e' := one w' q4.2.1
            rw [e'] at q4
            exact q3 q4.2.2.2
          · have hw2 : RdN U V L (fun x y => M 10 (10 * x + y)) u v x w := ⟨e, hw, by show M 10 (10 * w + v) < 1000000000; omega, q3⟩
            have Y := yes (by omega) w w0 w1 hw2 (fun w' q => one w' q.2.1)
            exact ⟨fun q4 => ⟨by omega, Y.2 (Or.inl q4)⟩, fun q4 => ⟨fun q5 => ⟨by omega, Y.1 q4 q5⟩, fun q5 => ⟨by omega, Y.2 (Or.inr q5)⟩⟩⟩
        refine ⟨fun q => ⟨by omega, fun q2 => ?_, fun q2 => ⟨by omega, at_w (U x) (by omega) (by omega) (Or.inr ⟨rfl, q2⟩)⟩⟩, fun q => ⟨by omega, at_w (V x) (by omega) (by omega) (Or.inl ⟨q, rfl⟩)⟩⟩
        unfold jbX9_nextTo_62 jbX9_nextTo_125 jbX9_nextTo_126 jbX9_nextTo_149 jbX9_nextTo_150
        refine ⟨fun _ => ⟨fun _ => ⟨by omega, no (by omega) (fun w' q3 => ?_)⟩, fun q4 => absurd rfl q4⟩, fun q4 => absurd rfl q4⟩
        have := q3.2.1
        omega
  exact ⟨31, key 31 (-1) 0 (by omega) (by omega) (by omega) (Or.inl ⟨rfl, fun j w _ _ => by omega⟩)⟩
/-- the two ways to say which place lies behind are one -/
theorem nx_same {n r : Int} {U V L : Int → Int} {d e dir : Int → Int → Int} (hn : 0 ≤ n ∧ n ≤ 10) (hR : Rds n r U V L) (hdir : ∀ u w : Int, 0 ≤ u → u < n → 0 ≤ w → w < n → dir u w = dr 1000000 r U V L u w) (H : Ds n (dr 1000000 r U V L) 1000000 d) (E : Ds n (dr 1000000000 r U V L) 1000000000 e) {u v w : Int} (hu : 0 ≤ u ∧ u < n) (hv : 0 ≤ v ∧ v < n) (hw : 0 ≤ w ∧ w < n) :
    (u ≠ v ∧ d u v ≠ 1000000 ∧ dir u w + d w v = d u v) ↔ ∃ j : Int, 0 ≤ j ∧ j < r ∧ RdN U V L e u v j w := by
  have two : ∀ x y : Int, 0 ≤ x → x < n → 0 ≤ y → y < n → (d x y < 1000000 ↔ e x y < 1000000000) ∧ (d x y < 1000000 → d x y = e x y) := fun x y a b c f => Ds_two hn.2 (by omega) (by omega) (fun u w => dr_pos (by omega) hR u w) (fun u w => dr_pos (by omega) hR u w) (fun u => dr_self hR u) (fun u => dr_self hR u) (fun u w q => ((dr_two (J := 1000000) (by omega) (by omega) hR u w).2 q).2) (fun u w q => ((dr_two (J := 1000000) (by omega) (by omega) hR u w).2 q).2) (fun u w => ⟨(dr_two (by omega) (by omega) hR u w).1, fun q => ((dr_two (by omega) (by omega) hR u w).2 q).1⟩) H E a b c f
  have bd := fun x y a b c f q => Ds_9000 hn.2 (fun u w => dr_pos (by omega) hR u w) (fun u => dr_self hR u) (fun u w q => ((dr_two (J := 1000000) (by omega) (by omega) hR u w).2 q).2) H (u := x) (v := y) a b c f q
  rw [hdir u w hu.1 hu.2 hw.1 hw.2]
  have T := two u v hu.1 hu.2 hv.1 hv.2
  have T2 := two w v hw.1 hw.2 hv.1 hv.2
  constructor
  · rintro ⟨a, b, c⟩
    have dp := dr_pos (K := 1000000) (by omega) hR u w
    have x1 : d u v ≤ 1000000 ∧ 0 ≤ d w v := ⟨(H.2.1 u v hu.1 hu.2 hv.1 hv.2).2.1, (H.2.1 w v hw.1 hw.2 hv.1 hv.2).1⟩
    have y1 := bd u v hu.1 hu.2 hv.1 hv.2 (by omega)
    rcases dr_at 1000000 r U V L u w with q | ⟨j, j0, j1, j2, j3⟩
    · omega
    · refine ⟨j, j0, j1, a, j2, T2.1.mp (by omega), ?_⟩
      have := T.2 (by omega)
      have := T2.2 (by omega)
      omega
  · rintro ⟨j, j0, j1, a, j2, j3, j4⟩
    have q := T2.1.mpr j3
    have q2 := bd w v hw.1 hw.2 hv.1 hv.2 q
    have q3 := T2.2 q
    have q4 := (hR j j0 j1).2.2.2.2.2
    have q5 := T.1.mpr (by omega)
    have q6 := T.2 q5
    have q7 : dr 1000000 r U V L u w ≤ L j := dr_le1 j0 j1 j2
    have q8 := Ds_tri (fun u => dr_self hR u) H hu.1 hu.2 hw.1 hw.2 hv.1 hv.2 (show dr 1000000 r U V L u w < 1000000 by omega)
    refine ⟨a, by omega, by omega⟩
