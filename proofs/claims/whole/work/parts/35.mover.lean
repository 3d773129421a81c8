/-! the mover's network -/
def OffB (M M' : Mem) : Prop := ∀ k : Int, k ≠ 8 → k ≠ 28 → k ≠ 30 → k ≠ 32 → k ≠ 34 → k ≠ 36 → k ≠ 38 → M' k = M k
theorem offB_jn {M M1 M2 : Mem} {a1 a2 a3 a4 : Int} (h : OffB M M1) (hj : Jn 0 M1 M2 a1 a2 a3 a4) : OffB M M2 := fun k p1 p2 p3 p4 p5 p6 p7 => by
  rw [hj.2.2.2.2.2.2.2 k (by omega) (by omega) (by omega) (by omega) (by omega)]
  exact h k p1 p2 p3 p4 p5 p6 p7
theorem offB_tr {M M1 M2 : Mem} (h : OffB M M1) (h2 : OffB M1 M2) : OffB M M2 := fun k p1 p2 p3 p4 p5 p6 p7 => by
  rw [h2 k p1 p2 p3 p4 p5 p6 p7]
  exact h k p1 p2 p3 p4 p5 p6 p7
abbrev Zπ : Int → Int := fun _ => 0
theorem X4_joinSource {r2 r3 n : Int} {M : Mem} {post : Int → Mem → Prop} (hr2 : 80 ≤ r2 ∧ r2 < 88) (hr3 : 80 ≤ r3 ∧ r3 < 88) (hn : 0 ≤ n ∧ n ≤ 10) (hα : ∀ v : Int, 0 ≤ v → v < n → (0 ≤ M r2 v ∧ M r2 v ≤ 1000) ∧ 0 ≤ M r3 v ∧ M r3 v ≤ 1000) (hS : NetS 0 M) (hD : NetD 0 M Zπ) (h0 : M (8 + 0) 0 = 0)
    (h : ∀ (M' : Mem) (js : Int → Int), OffB M M' → NetS 0 M' → NetD 0 M' Zπ → M' (8 + 0) 0 ≤ 2 * n → M' (8 + 0) 1 = M (8 + 0) 1 → (∀ u : Int, 0 ≤ u → u < n → M r3 u < M r2 u → Arc 0 M' (js u) 20 u (M r2 u - M r3 u) 0) → (∀ φ : Int → Int, su (M' (8 + 0) 0 / 2) φ = su n (fun u => if M r3 u < M r2 u then φ (js u) else 0)) → post (su n (fun u => if M r3 u < M r2 u then M r2 u - M r3 u else 0)) M') : wpX4_joinSource r2 r3 n M post := by
  have l2 : lenX r2 = 10 := by have := lenX_80 (u := r2 - 80) (by omega); rw [show 80 + (r2 - 80) = r2 by omega] at this; exact this
  have l3 : lenX r3 = 10 := by have := lenX_80 (u := r3 - 80) (by omega); rw [show 80 + (r3 - 80) = r3 by omega] at this; exact this
  have key : ∀ (f : Nat) (x : Int) (N : Mem) (js : Int → Int), 0 ≤ x → x ≤ n → n - x < f → OffB M N → NetS 0 N → NetD 0 N Zπ → N (8 + 0) 0 ≤ 2 * x → N (8 + 0) 1 = M (8 + 0) 1 → (∀ u : Int, 0 ≤ u → u < x → M r3 u < M r2 u → Arc 0 N (js u) 20 u (M r2 u - M r3 u) 0) → (∀ φ : Int → Int, su (N (8 + 0) 0 / 2) φ = su x (fun u => if M r3 u < M r2 u then φ (js u) else 0)) → lpX4_joinSource_6 r2 r3 post f n (su x (fun u => if M r3 u < M r2 u then M r2 u - M r3 u else 0)) x N := by
    intro f
    induction f with
    | zero => intro x N js _ _ g; omega
    | succ f ih =>
      intro x N js x0 x1 hf hO hS hD hN hm hA hφ
      unfold lpX4_joinSource_6 jbX4_joinSource_58
      have s2 : N r2 = M r2 := hO r2 (by omega) (by omega) (by omega) (by omega) (by omega) (by omega) (by omega)
      have s3 : N r3 = M r3 := hO r3 (by omega) (by omega) (by omega) (by omega) (by omega) (by omega) (by omega)
      rw [s2, s3, l2, l3]
      refine ⟨fun g => ?_, fun g => ?_⟩
      · have e : x = n := by omega
        subst e
        exact h N js hO hS hD hN hm hA hφ
      · have hb := hα x x0 (by omega)
        have sb := su_bnd (n := x) (B := 1000) (f := fun u => if M r3 u < M r2 u then M r2 u - M r3 u else 0) x0 (fun k a b => by
          have := hα k a (by omega)
          show 0 ≤ (if M r3 k < M r2 k then M r2 k - M r3 k else 0) ∧ (if M r3 k < M r2 k then M r2 k - M r3 k else 0) ≤ 1000
          split <;> omega)
        refine ⟨by omega, by omega, fun g1 => ⟨by omega, ?_⟩, fun g1 => ⟨by omega, by omega, by omega, ?_⟩⟩
        · have := ih (x + 1) N js (by omega) (by omega) (by omega) hO hS hD (by omega) hm (fun u u0 u1 u2 => hA u u0 (by
            by_cases c : u = x
            · rw [c] at u2; omega
            · omega) u2) (fun φ => by rw [hφ φ, su_s x0, if_neg (by omega), Int.add_zero])
          rw [su_s x0, if_neg (by omega), Int.add_zero] at this
          exact this
        · refine X5_join (Or.inl rfl) hS hD (by omega) (by omega) (by omega) (by omega) (by omega) (fun _ => by show (0 : Int) ≤ 0 + 0; omega) (fun N1 hj hS1 hD1 => ?_)
          have t2 : N1 r2 = M r2 := by rw [offB_jn hO hj r2 (by omega) (by omega) (by omega) (by omega) (by omega) (by omega) (by omega)]
          have t3 : N1 r3 = M r3 := by rw [offB_jn hO hj r3 (by omega) (by omega) (by omega) (by omega) (by omega) (by omega) (by omega)]
          rw [t2, t3]
          refine ⟨by omega, by omega, by omega, fun v hv => ⟨by omega, ?_⟩⟩
          have := ih (x + 1) N1 (up js x (N (8 + 0) 0 / 2)) (by omega) (by omega) (by omega) (offB_jn hO hj) hS1 hD1 (by rw [hj.1]; omega) (by rw [hj.2.1]; exact hm) (fun u u0 u1 u2 => by
            by_cases c : u = x
            · rw [c, up_s]; exact arc_new hS hj
            · rw [up_n c]; exact arc_jn hj (hA u u0 (by omega) u2)) (fun φ => by
            rw [sum_jn hS hj, hφ φ, su_s x0, if_pos (by omega), up_s]
            congr 1
            exact su_congr (fun u u0 u1 => by rw [up_n (by omega)]))
          rw [su_s x0, if_pos (by omega), ← hv] at this
          exact this
  exact ⟨11, key 11 0 M (fun _ => 0) (by omega) (by omega) (by omega) (fun _ _ _ _ _ _ _ _ => rfl) hS hD (by omega) rfl (fun u _ _ => by omega) (fun φ => by rw [h0]; rfl)⟩
theorem X4_joinSink {r2 r3 n : Int} {M : Mem} {F : (Int → Int) → Int} {post : Mem → Prop} (hr2 : 80 ≤ r2 ∧ r2 < 88) (hr3 : 80 ≤ r3 ∧ r3 < 88) (hn : 0 ≤ n ∧ n ≤ 10) (hα : ∀ v : Int, 0 ≤ v → v < n → (0 ≤ M r2 v ∧ M r2 v ≤ 1000) ∧ 0 ≤ M r3 v ∧ M r3 v ≤ 1000) (hS : NetS 0 M) (hD : NetD 0 M Zπ) (h0 : M (8 + 0) 0 ≤ 220) (hF : ∀ φ : Int → Int, su (M (8 + 0) 0 / 2) φ = F φ)
    (h : ∀ (M' : Mem) (jt : Int → Int), OffB M M' → NetS 0 M' → NetD 0 M' Zπ → M' (8 + 0) 1 = M (8 + 0) 1 → (∀ j a1 a2 a3 a4 : Int, Arc 0 M j a1 a2 a3 a4 → Arc 0 M' j a1 a2 a3 a4) → (∀ v : Int, 0 ≤ v → v < n → M r2 v < M r3 v → Arc 0 M' (jt v) v 21 (M r3 v - M r2 v) 0) → (∀ φ : Int → Int, su (M' (8 + 0) 0 / 2) φ = F φ + su n (fun v => if M r2 v < M r3 v then φ (jt v) else 0)) → post M') : wpX4_joinSink r2 r3 n M post := by
  have l2 : lenX r2 = 10 := by have := lenX_80 (u := r2 - 80) (by omega); rw [show 80 + (r2 - 80) = r2 by omega] at this; exact this
  have l3 : lenX r3 = 10 := by have := lenX_80 (u := r3 - 80) (by omega); rw [show 80 + (r3 - 80) = r3 by omega] at this; exact this
  have key : ∀ (f : Nat) (x : Int) (N : Mem) (jt : Int → Int), 0 ≤ x → x ≤ n → n - x < f → OffB M N → NetS 0 N → NetD 0 N Zπ → N (8 + 0) 0 ≤ 220 + 2 * x → N (8 + 0) 1 = M (8 + 0) 1 → (∀ j a1 a2 a3 a4 : Int, Arc 0 M j a1 a2 a3 a4 → Arc 0 N j a1 a2 a3 a4) → (∀ u : Int, 0 ≤ u → u < x → M r2 u < M r3 u → Arc 0 N (jt u) u 21 (M r3 u - M r2 u) 0) → (∀ φ : Int → Int, su (N (8 + 0) 0 / 2) φ = F φ + su x (fun u => if M r2 u < M r3 u then φ (jt u) else 0)) → lpX4_joinSink_3 r2 r3 post f n x N := by
    intro f
    induction f with
    | zero => intro x N jt _ _ g; omega
    | succ f ih =>
      intro x N jt x0 x1 hf hO hS hD hN hm hP hA hφ
      unfold lpX4_joinSink_3 jbX4_joinSink_41
      have s2 : N r2 = M r2 := hO r2 (by omega) (by omega) (by omega) (by omega) (by omega) (by omega) (by omega)
      have s3 : N r3 = M r3 := hO r3 (by omega) (by omega) (by omega) (by omega) (by omega) (by omega) (by omega)
      rw [s2, s3, l2, l3]
      refine ⟨fun g => ?_, fun g => ?_⟩
      · have e : x = n := by omega
        subst e
        exact h N jt hO hS hD hm hP hA hφ
      · have hb := hα x x0 (by omega)
        refine ⟨by omega, by omega, fun g1 => ⟨by omega, ?_⟩, fun g1 => ⟨by omega, by omega, by omega, ?_⟩⟩
        · exact ih (x + 1) N jt (by omega) (by omega) (by omega) hO hS hD (by omega) hm hP (fun u u0 u1 u2 => hA u u0 (by
            by_cases c : u = x
            · rw [c] at u2; omega
            · omega) u2) (fun φ => by rw [hφ φ, su_s x0, if_neg (by omega), Int.add_zero])
        · refine X5_join (Or.inl rfl) hS hD (by omega) (by omega) (by omega) (by omega) (by omega) (fun _ => by show (0 : Int) ≤ 0 + 0; omega) (fun N1 hj hS1 hD1 => ⟨by omega, ?_⟩)
          exact ih (x + 1) N1 (up jt x (N (8 + 0) 0 / 2)) (by omega) (by omega) (by omega) (offB_jn hO hj) hS1 hD1 (by rw [hj.1]; omega) (by rw [hj.2.1]; exact hm) (fun j a1 a2 a3 a4 q => arc_jn hj (hP j a1 a2 a3 a4 q)) (fun u u0 u1 u2 => by
            by_cases c : u = x
            · rw [c, up_s]; exact arc_new hS hj
            · rw [up_n c]; exact arc_jn hj (hA u u0 (by omega) u2)) (fun φ => by
            rw [sum_jn hS hj, hφ φ, su_s x0, if_pos (by omega), up_s, Int.add_assoc]
            congr 2
            exact su_congr (fun u u0 u1 => by rw [up_n (by omega)]))
  exact ⟨11, key 11 0 M (fun _ => 0) (by omega) (by omega) (by omega) (fun _ _ _ _ _ _ _ _ => rfl) hS hD (by omega) rfl (fun _ _ _ _ _ q => q) (fun u _ _ => by omega) (fun φ => by rw [hF φ, su_0, Int.add_zero])⟩
theorem X4_staying {r1 r2 n : Int} {M : Mem} {post : Int → Mem → Prop} (hr1 : 80 ≤ r1 ∧ r1 < 88) (hr2 : 80 ≤ r2 ∧ r2 < 88) (hn : 0 ≤ n ∧ n ≤ 10) (hα : ∀ v : Int, 0 ≤ v → v < n → (0 ≤ M r1 v ∧ M r1 v ≤ 1000) ∧ 0 ≤ M r2 v ∧ M r2 v ≤ 1000) (h : post (su n (fun v => min (M r1 v) (M r2 v))) M) : wpX4_staying r1 r2 n M post := by
  have l1 : lenX r1 = 10 := by have := lenX_80 (u := r1 - 80) (by omega); rw [show 80 + (r1 - 80) = r1 by omega] at this; exact this
  have l2 : lenX r2 = 10 := by have := lenX_80 (u := r2 - 80) (by omega); rw [show 80 + (r2 - 80) = r2 by omega] at this; exact this
  have key : ∀ (f : Nat) (x : Int), 0 ≤ x → x ≤ n → n - x < f → lpX4_staying_5 r1 r2 post f n (su x (fun v => min (M r1 v) (M r2 v))) x M := by
    intro f
    induction f with
    | zero => intro x _ _ g; omega
    | succ f ih =>
      intro x x0 x1 hf
      unfold lpX4_staying_5
      rw [l1, l2]
      refine ⟨fun g => ?_, fun g => ?_⟩
      · rw [show x = n by omega]; exact h
      · have hb := hα x x0 (by omega)
        have sb := su_bnd (n := x) (B := 1000) (f := fun v => min (M r1 v) (M r2 v)) x0 (fun k a b => by
          have := hα k a (by omega)
          show 0 ≤ min (M r1 k) (M r2 k) ∧ min (M r1 k) (M r2 k) ≤ 1000
          omega)
        refine ⟨by omega, by omega, by omega, fun v hv => ⟨by omega, ?_⟩⟩
        have := ih (x + 1) (by omega) (by omega) (by omega)
        rw [su_s x0, ← hv] at this
        exact this
  exact ⟨11, key 11 0 (by omega) (by omega) (by omega)⟩
/-- the mover's network and what has been pushed through it -/
def MovF (n : Int) (α β : Int → Int) (δ : Int → Int → Int) (M : Mem) (π js : Int → Int) (jm : Int → Int → Int) (jt : Int → Int) : Prop :=
  NetS 0 M ∧ NetD 0 M π ∧ (∀ u : Int, 0 ≤ u → u < n → β u < α u → Arc 0 M (js u) 20 u (α u - β u) 0) ∧ (∀ u v : Int, 0 ≤ u → u < n → 0 ≤ v → v < n → β u < α u → α v < β v → Arc 0 M (jm u v) u v 1000000 (δ u v)) ∧ (∀ v : Int, 0 ≤ v → v < n → α v < β v → Arc 0 M (jt v) v 21 (β v - α v) 0)
  ∧ ∀ φ : Int → Int, su (M (8 + 0) 0 / 2) φ = su n (fun u => if β u < α u then φ (js u) else 0) + su n (fun u => su n (fun v => if β u < α u ∧ α v < β v then φ (jm u v) else 0)) + su n (fun v => if α v < β v then φ (jt v) else 0)
theorem X4_cheapest {r2 r3 n m : Int} {M : Mem} {post : Int → Mem → Prop} (hr2 : 80 ≤ r2 ∧ r2 < 88) (hr3 : 80 ≤ r3 ∧ r3 < 88) (hn : 0 ≤ n ∧ n ≤ 10) (e0 : M 1 0 = n) (hα : ∀ v : Int, 0 ≤ v → v < n → (0 ≤ M r2 v ∧ M r2 v ≤ 1000) ∧ 0 ≤ M r3 v ∧ M r3 v ≤ 1000) (hδ : ∀ u v : Int, 0 ≤ u → u < n → 0 ≤ v → v < n → 0 ≤ M (50 + u) v ∧ M (50 + u) v ≤ 9000) (hm : 0 ≤ m ∧ m ≤ 10000)
    (h : ∀ (M' : Mem) (π js : Int → Int) (jm : Int → Int → Int) (jt : Int → Int), OffB M M' → MovF n (M r2) (M r3) (fun u v => M (50 + u) v) M' π js jm jt → (M' (8 + 0) 1 ≤ m - su n (fun v => min (M r2 v) (M r3 v)) ∨ M' (8 + 0) 1 = 0) → (m - su n (fun v => min (M r2 v) (M r3 v)) ≤ M' (8 + 0) 1 ∨ ∃ ra : Int → Int, FinZ 0 M' π M' ra ∧ 1000000 ≤ M' (36 + 0) 21) → post (M' (8 + 0) 2) M') : wpX4_cheapest r2 r3 m M post := by
  refine X5_empty (fun M1 x0 x1 x2 xO xS xD => ?_)
  have o1 : OffB M M1 := fun k p1 p2 p3 p4 p5 p6 p7 => xO k (by omega)
  have q2 : M1 r2 = M r2 := xO r2 (by omega)
  have q3 : M1 r3 = M r3 := xO r3 (by omega)
  have q1 : M1 1 0 = n := by rw [xO 1 (by omega), e0]
  rw [q1]
  refine X4_joinSource hr2 hr3 hn (by rw [q2, q3]; exact hα) xS xD x0 (fun M2 js yO yS yD yN ym yA yφ => ?_)
  rw [q2, q3] at yA yφ
  have o2 := offB_tr o1 yO
  have hsb := su_bnd (n := n) (B := 1000) (f := fun v => min (M r2 v) (M r3 v)) hn.1 (fun k a b => by
    have := hα k a b
    show 0 ≤ min (M r2 k) (M r3 k) ∧ min (M r2 k) (M r3 k) ≤ 1000
    omega)
  have l2 : lenX r2 = 10 := by have := lenX_80 (u := r2 - 80) (by omega); rw [show 80 + (r2 - 80) = r2 by omega] at this; exact this
  have l3 : lenX r3 = 10 := by have := lenX_80 (u := r3 - 80) (by omega); rw [show 80 + (r3 - 80) = r3 by omega] at this; exact this
  have key : ∀ (f : Nat) (x : Int) (N : Mem) (jm : Int → Int → Int), 0 ≤ x → x ≤ n → n - x < f → OffB M N → NetS 0 N → NetD 0 N Zπ → N (8 + 0) 0 ≤ 20 + 20 * x → N (8 + 0) 1 = 0 → (∀ u : Int, 0 ≤ u → u < n → M r3 u < M r2 u → Arc 0 N (js u) 20 u (M r2 u - M r3 u) 0) → (∀ u v : Int, 0 ≤ u → u < x → 0 ≤ v → v < n → M r3 u < M r2 u → M r2 v < M r3 v → Arc 0 N (jm u v) u v 1000000 (M (50 + u) v)) → (∀ φ : Int → Int, su (N (8 + 0) 0 / 2) φ = su n (fun u => if M r3 u < M r2 u then φ (js u) else 0) + su x (fun u => su n (fun v => if M r3 u < M r2 u ∧ M r2 v < M r3 v then φ (jm u v) else 0))) → lpX4_cheapest_21 r2 r3 post f m x N := by
    intro f
    induction f with
    | zero => intro x N jm _ _ g; omega
    | succ f ih =>
      intro x N jm xx0 xx1 hf hO hS hD hN hm1 hA hB hφ
      have s2 : N r2 = M r2 := hO r2 (by omega) (by omega) (by omega) (by omega) (by omega) (by omega) (by omega)
      have s3 : N r3 = M r3 := hO r3 (by omega) (by omega) (by omega) (by omega) (by omega) (by omega) (by omega)
      have s1 : N 1 0 = n := by rw [hO 1 (by omega) (by omega) (by omega) (by omega) (by omega) (by omega) (by omega), e0]
      unfold lpX4_cheapest_21
      rw [s1]
      refine ⟨fun g => ?_, fun g => ?_⟩
      · have e : x = n := by omega
        subst e
        refine X4_joinSink hr2 hr3 hn (by rw [s2, s3]; exact hα) hS hD (by omega) hφ (fun N1 jt zO zS zD zm zP zA zφ => ?_)
        rw [s2, s3] at zA zφ
        have o3 := offB_tr hO zO
        have u1 : N1 1 0 = x := by rw [o3 1 (by omega) (by omega) (by omega) (by omega) (by omega) (by omega) (by omega), e0]
        have u2 : N1 r2 = M r2 := o3 r2 (by omega) (by omega) (by omega) (by omega) (by omega) (by omega) (by omega)
        have u3 : N1 r3 = M r3 := o3 r3 (by omega) (by omega) (by omega) (by omega) (by omega) (by omega) (by omega)
        rw [u1]
        refine X4_staying hr2 hr3 hn (by rw [u2, u3]; exact hα) ?_
        rw [u2, u3]
        refine ⟨by omega, X5_push (Or.inl rfl) (by omega) zS zD (fun N2 π wO wD wS w1 w2 w3 => ?_)⟩
        have zm0 : N1 (8 + 0) 1 = 0 := by rw [zm, hm1]
        refine h N2 π js jm jt (fun k p1 p2 p3 p4 p5 p6 p7 => by rw [wO.1 k (by omega) (by omega) (by omega) (by omega)]; exact o3 k p1 p2 p3 p4 p5 p6 p7) ⟨wS, wD, fun u a b c => arc_off (Or.inl rfl) wO (zP _ _ _ _ _ (hA u a b c)), fun u v a b c d e f => arc_off (Or.inl rfl) wO (zP _ _ _ _ _ (hB u v a b c d e f)), fun v a b c => arc_off (Or.inl rfl) wO (zA v a b c), fun φ => by rw [wO.2.1, zφ φ]⟩ (by rw [zm0] at w2; exact w2) w3
      · have key2 : ∀ (f2 : Nat) (y : Int) (N : Mem) (jm : Int → Int → Int), 0 ≤ y → y ≤ n → n - y < f2 → OffB M N → NetS 0 N → NetD 0 N Zπ → N (8 + 0) 0 ≤ 20 + 20 * x + 2 * y → N (8 + 0) 1 = 0 → (∀ u : Int, 0 ≤ u → u < n → M r3 u < M r2 u → Arc 0 N (js u) 20 u (M r2 u - M r3 u) 0) → (∀ u v : Int, 0 ≤ u → 0 ≤ v → v < n → (u < x ∨ (u = x ∧ v < y)) → M r3 u < M r2 u → M r2 v < M r3 v → Arc 0 N (jm u v) u v 1000000 (M (50 + u) v)) → (∀ φ : Int → Int, su (N (8 + 0) 0 / 2) φ = su n (fun u => if M r3 u < M r2 u then φ (js u) else 0) + su x (fun u => su n (fun v => if M r3 u < M r2 u ∧ M r2 v < M r3 v then φ (jm u v) else 0)) + su y (fun v => if M r3 x < M r2 x ∧ M r2 v < M r3 v then φ (jm x v) else 0)) → lpX4_cheapest_33 r2 r3 post (fun y4 y5 N => lpX4_cheapest_21 r2 r3 post f y4 y5 N) f2 m x y N := by
          intro f2
          induction f2 with
          | zero => intro y N jm _ _ g; omega
          | succ f2 ih2 =>
            intro y N jm y0 y1 hf2 hO hS hD hN hm1 hA hB hφ
            have s2 : N r2 = M r2 := hO r2 (by omega) (by omega) (by omega) (by omega) (by omega) (by omega) (by omega)
            have s3 : N r3 = M r3 := hO r3 (by omega) (by omega) (by omega) (by omega) (by omega) (by omega) (by omega)
            have s1 : N 1 0 = n := by rw [hO 1 (by omega) (by omega) (by omega) (by omega) (by omega) (by omega) (by omega), e0]
            have s5 : N (50 + x) = M (50 + x) := hO (50 + x) (by omega) (by omega) (by omega) (by omega) (by omega) (by omega) (by omega)
            unfold lpX4_cheapest_33 jbX4_cheapest_87
            rw [s1, s2, s3, s5, l2, l3]
            refine ⟨fun g => ⟨by omega, ?_⟩, fun g => ?_⟩
            · have e : y = n := by omega
              subst e
              exact ih (x + 1) N jm (by omega) (by omega) (by omega) hO hS hD (by omega) hm1 hA (fun u v a b c d => hB u v a c d (by omega)) (fun φ => by rw [hφ φ, su_s xx0, Int.add_assoc])
            · have skip : ¬ (M r3 x < M r2 x ∧ M r2 y < M r3 y) → lpX4_cheapest_33 r2 r3 post (fun y4 y5 N => lpX4_cheapest_21 r2 r3 post f y4 y5 N) f2 m x (y + 1) N := fun hc =>
                ih2 (y + 1) N jm (by omega) (by omega) (by omega) hO hS hD (by omega) hm1 hA (fun u v a b c d e1 e2 => hB u v a b c (by
                  by_cases c1 : u = x ∧ v = y
                  · rw [c1.1] at e1; rw [c1.2] at e2; exact absurd ⟨e1, e2⟩ hc
                  · omega) e1 e2) (fun φ => by rw [hφ φ, su_s y0, if_neg hc, Int.add_zero])
              refine ⟨by omega, by omega, fun g1 => ⟨by omega, skip (fun q => by omega)⟩, fun g1 => ⟨by omega, by omega, fun g2 => ⟨by omega, skip (fun q => by omega)⟩, fun g2 => ⟨by omega, by omega, ?_⟩⟩⟩
              have hd := hδ x y xx0 (by omega) y0 (by omega)
              refine X5_join (Or.inl rfl) hS hD (by omega) (by omega) (by omega) (by omega) (by omega) (fun _ => by show (0 : Int) ≤ 0 + M (50 + x) y; omega) (fun N1 hj hS1 hD1 => ⟨by omega, ?_⟩)
              refine ih2 (y + 1) N1 (fun u v => if u = x ∧ v = y then N (8 + 0) 0 / 2 else jm u v) (by omega) (by omega) (by omega) (offB_jn hO hj) hS1 hD1 (by rw [hj.1]; omega) (by rw [hj.2.1]; exact hm1) (fun u a b c => arc_jn hj (hA u a b c)) (fun u v a b c d e1 e2 => ?_) (fun φ => ?_)
              · by_cases c1 : u = x ∧ v = y
                · rw [if_pos c1, c1.1, c1.2]; exact arc_new hS hj
                · rw [if_neg c1]; exact arc_jn hj (hB u v a b c (by omega) e1 e2)
              · rw [sum_jn hS hj, hφ φ, su_s y0, if_pos ⟨by omega, by omega⟩, if_pos ⟨rfl, rfl⟩]
                rw [su_congr (n := x) (g := fun u => su n (fun v => if M r3 u < M r2 u ∧ M r2 v < M r3 v then φ (jm u v) else 0)) (f := fun u => su n (fun v => if M r3 u < M r2 u ∧ M r2 v < M r3 v then φ (if u = x ∧ v = y then N (8 + 0) 0 / 2 else jm u v) else 0)) (fun u u0 u1 => su_congr (fun v v0 v1 => by rw [if_neg (fun q : u = x ∧ v = y => by omega)]))]
                rw [su_congr (n := y) (g := fun v => if M r3 x < M r2 x ∧ M r2 v < M r3 v then φ (jm x v) else 0) (f := fun v => if M r3 x < M r2 x ∧ M r2 v < M r3 v then φ (if x = x ∧ v = y then N (8 + 0) 0 / 2 else jm x v) else 0) (fun v v0 v1 => by rw [if_neg (fun q : x = x ∧ v = y => by omega)])]
                omega
        exact ⟨11, key2 11 0 N jm (by omega) (by omega) (by omega) hO hS hD (by omega) hm1 hA (fun u v a c d e => hB u v a (by omega) c d) (fun φ => by rw [hφ φ, su_0, Int.add_zero])⟩
  exact ⟨11, key 11 0 M2 (fun _ _ => 0) (by omega) (by omega) (by omega) o2 yS yD (by omega) (by rw [ym, x1]) yA (fun u v a b => by omega) (fun φ => by rw [yφ φ, su_0, Int.add_zero])⟩
