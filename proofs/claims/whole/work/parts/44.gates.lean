/-! the class's network with gates -/
def capG (B : Int → Int) (u : Int) : Int := if B u = -1 then 1000000 else B u
def MovG (n : Int) (α β B : Int → Int) (dir : Int → Int → Int) (M : Mem) (π js jg : Int → Int) (jr : Int → Int → Int) (jt : Int → Int) : Prop :=
  NetS 0 M ∧ NetD 0 M π ∧ (∀ u : Int, 0 ≤ u → u < n → β u < α u → Arc 0 M (js u) 20 u (α u - β u) 0) ∧ (∀ u : Int, 0 ≤ u → u < n → Arc 0 M (jg u) u (10 + u) (capG B u) 0) ∧ (∀ u v : Int, 0 ≤ u → u < n → 0 ≤ v → v < n → dir u v < 1000000 → Arc 0 M (jr u v) (10 + u) v 1000000 (dir u v)) ∧ (∀ v : Int, 0 ≤ v → v < n → α v < β v → Arc 0 M (jt v) v 21 (β v - α v) 0)
  ∧ ∀ φ : Int → Int, su (M (8 + 0) 0 / 2) φ = su n (fun u => if β u < α u then φ (js u) else 0) + su n (fun u => φ (jg u) + su n (fun v => if dir u v < 1000000 then φ (jr u v) else 0)) + su n (fun v => if α v < β v then φ (jt v) else 0)
theorem X4_gates {r2 r3 n : Int} {M : Mem} {post : Int → Mem → Prop} (hr2 : 80 ≤ r2 ∧ r2 < 88) (hr3 : 80 ≤ r3 ∧ r3 < 88) (hn : 0 ≤ n ∧ n ≤ 10) (e0 : M 1 0 = n) (hα : ∀ v : Int, 0 ≤ v → v < n → (0 ≤ M r2 v ∧ M r2 v ≤ 1000) ∧ 0 ≤ M r3 v ∧ M r3 v ≤ 1000) (hB : ∀ v : Int, 0 ≤ v → v < n → -1 ≤ M 18 v ∧ M 18 v ≤ 100000) (hdir : ∀ u v : Int, 0 ≤ u → u < n → 0 ≤ v → v < n → 1 ≤ M (40 + u) v ∧ (M (40 + u) v < 1000000 → M (40 + u) v ≤ 1000)) (hself : ∀ u : Int, 0 ≤ u → u < n → M (40 + u) u = 1000000)
    (h : ∀ (M' : Mem) (π js jg : Int → Int) (jr : Int → Int → Int) (jt : Int → Int), OffB M M' → MovG n (M r2) (M r3) (M 18) (fun u v => M (40 + u) v) M' π js jg jr jt → M' (8 + 0) 1 ≤ su n (fun u => if M r3 u < M r2 u then M r2 u - M r3 u else 0) → (su n (fun u => if M r3 u < M r2 u then M r2 u - M r3 u else 0) ≤ M' (8 + 0) 1 ∨ ∃ ra : Int → Int, FinZ 0 M' π M' ra ∧ 1000000 ≤ M' (36 + 0) 21) → post (if M' (8 + 0) 1 = su n (fun u => if M r3 u < M r2 u then M r2 u - M r3 u else 0) then M' (8 + 0) 2 else -1) M') : wpX4_cheapestThroughGates r2 r3 M post := by
  refine X5_empty (fun M1 x0 x1 x2 xO xS xD => ?_)
  have o1 : OffB M M1 := fun k p1 p2 p3 p4 p5 p6 p7 => xO k (by omega)
  have q2 : M1 r2 = M r2 := xO r2 (by omega)
  have q3 : M1 r3 = M r3 := xO r3 (by omega)
  have q1 : M1 1 0 = n := by rw [xO 1 (by omega), e0]
  rw [q1]
  refine X4_joinSource hr2 hr3 hn (by rw [q2, q3]; exact hα) xS xD x0 (fun M2 js yO yS yD yN ym yA yφ => ?_)
  rw [q2, q3] at yA yφ ⊢
  have o2 := offB_tr o1 yO
  have hlb := su_bnd (n := n) (B := 1000) (f := fun u => if M r3 u < M r2 u then M r2 u - M r3 u else 0) hn.1 (fun k a b => by
    have := hα k a b
    show 0 ≤ (if M r3 k < M r2 k then M r2 k - M r3 k else 0) ∧ (if M r3 k < M r2 k then M r2 k - M r3 k else 0) ≤ 1000
    split <;> omega)
  have key : ∀ (f : Nat) (x : Int) (N : Mem) (jg : Int → Int) (jr : Int → Int → Int), 0 ≤ x → x ≤ n → n - x < f → OffB M N → NetS 0 N → NetD 0 N Zπ → N (8 + 0) 0 ≤ 20 + 20 * x → N (8 + 0) 1 = 0 → (∀ u : Int, 0 ≤ u → u < n → M r3 u < M r2 u → Arc 0 N (js u) 20 u (M r2 u - M r3 u) 0) → (∀ u : Int, 0 ≤ u → u < x → Arc 0 N (jg u) u (10 + u) (capG (M 18) u) 0) → (∀ u v : Int, 0 ≤ u → u < x → 0 ≤ v → v < n → M (40 + u) v < 1000000 → Arc 0 N (jr u v) (10 + u) v 1000000 (M (40 + u) v)) → (∀ φ : Int → Int, su (N (8 + 0) 0 / 2) φ = su n (fun u => if M r3 u < M r2 u then φ (js u) else 0) + su x (fun u => φ (jg u) + su n (fun v => if M (40 + u) v < 1000000 then φ (jr u v) else 0))) → lpX4_cheapestThroughGates_22 r2 r3 post f (su n (fun u => if M r3 u < M r2 u then M r2 u - M r3 u else 0)) x N := by
    intro f
    induction f with
    | zero => intro x N jg jr _ _ g; omega
    | succ f ih =>
      intro x N jg jr xx0 xx1 hf hO hS hD hN hm1 hA hG hB2 hφ
      have s2 : N r2 = M r2 := hO r2 (by omega) (by omega) (by omega) (by omega) (by omega) (by omega) (by omega)
      have s3 : N r3 = M r3 := hO r3 (by omega) (by omega) (by omega) (by omega) (by omega) (by omega) (by omega)
      have s1 : N 1 0 = n := by rw [hO 1 (by omega) (by omega) (by omega) (by omega) (by omega) (by omega) (by omega), e0]
      have s18 : N 18 = M 18 := hO 18 (by omega) (by omega) (by omega) (by omega) (by omega) (by omega) (by omega)
      unfold lpX4_cheapestThroughGates_22
      rw [s1, s18]
      refine ⟨fun g => ?_, fun g => ?_⟩
      · have e : x = n := by omega
        subst e
        refine X4_joinSink hr2 hr3 hn (by rw [s2, s3]; exact hα) hS hD (by omega) hφ (fun N1 jt zO zS zD zm zP zA zφ => ?_)
        rw [s2, s3] at zA zφ
        have o3 := offB_tr hO zO
        refine X5_push (Or.inl rfl) (by omega) zS zD (fun N2 π wO wD wS w1 w2 w3 => ?_)
        have zm0 : N1 (8 + 0) 1 = 0 := by rw [zm, hm1]
        have := h N2 π js jg jr jt (fun k p1 p2 p3 p4 p5 p6 p7 => by rw [wO.1 k (by omega) (by omega) (by omega) (by omega)]; exact o3 k p1 p2 p3 p4 p5 p6 p7) ⟨wS, wD, fun u a b c => arc_off (Or.inl rfl) wO (zP _ _ _ _ _ (hA u a b c)), fun u a b => arc_off (Or.inl rfl) wO (zP _ _ _ _ _ (hG u a b)), fun u v a b c d e => arc_off (Or.inl rfl) wO (zP _ _ _ _ _ (hB2 u v a b c d e)), fun v a b c => arc_off (Or.inl rfl) wO (zA v a b c), fun φ => by rw [wO.2.1, zφ φ]⟩ (by omega) w3
        unfold jbX4_cheapestThroughGates_175
        refine ⟨fun q => ?_, fun q => ?_⟩
        · rw [if_neg q] at this; exact this
        · rw [if_pos q] at this; exact this
      · have hbx := hB x xx0 (by omega)
        have key2 : ∀ (f2 : Nat) (y : Int) (N : Mem) (jr : Int → Int → Int) (g0 : Int), 0 ≤ y → y ≤ n → n - y < f2 → OffB M N → NetS 0 N → NetD 0 N Zπ → N (8 + 0) 0 ≤ 22 + 20 * x + 2 * y - (if x < y then 2 else 0) → N (8 + 0) 1 = 0 → (∀ u : Int, 0 ≤ u → u < n → M r3 u < M r2 u → Arc 0 N (js u) 20 u (M r2 u - M r3 u) 0) → (∀ u : Int, 0 ≤ u → u < x + 1 → Arc 0 N (up jg x g0 u) u (10 + u) (capG (M 18) u) 0) → (∀ u v : Int, 0 ≤ u → 0 ≤ v → v < n → (u < x ∨ (u = x ∧ v < y)) → M (40 + u) v < 1000000 → Arc 0 N (jr u v) (10 + u) v 1000000 (M (40 + u) v)) → (∀ φ : Int → Int, su (N (8 + 0) 0 / 2) φ = su n (fun u => if M r3 u < M r2 u then φ (js u) else 0) + su x (fun u => φ (jg u) + su n (fun v => if M (40 + u) v < 1000000 then φ (jr u v) else 0)) + (φ g0 + su y (fun v => if M (40 + x) v < 1000000 then φ (jr x v) else 0))) → lpX4_cheapestThroughGates_71 r2 r3 post (fun y4 y5 N => lpX4_cheapestThroughGates_22 r2 r3 post f y4 y5 N) f2 (su n (fun u => if M r3 u < M r2 u then M r2 u - M r3 u else 0)) x y N := by
          intro f2
          induction f2 with
          | zero => intro y N jr g0 _ _ g; omega
          | succ f2 ih2 =>
            intro y N jr g0 y0 y1 hf2 hO hS hD hN hm1 hA hG hB2 hφ
            have s1 : N 1 0 = n := by rw [hO 1 (by omega) (by omega) (by omega) (by omega) (by omega) (by omega) (by omega), e0]
            have s4 : N (40 + x) = M (40 + x) := hO (40 + x) (by omega) (by omega) (by omega) (by omega) (by omega) (by omega) (by omega)
            unfold lpX4_cheapestThroughGates_71 jbX4_cheapestThroughGates_121
            rw [s1, s4]
            refine ⟨fun g => ⟨by omega, ?_⟩, fun g => ?_⟩
            · have e : y = n := by omega
              subst e
              rw [if_pos (by omega)] at hN
              refine ih (x + 1) N (up jg x g0) jr (by omega) (by omega) (by omega) hO hS hD (by omega) hm1 hA hG (fun u v a b c d => hB2 u v a c d (by omega)) (fun φ => ?_)
              rw [hφ φ, su_s xx0, up_s, Int.add_assoc]
              congr 2
              exact su_congr (fun u u0 u1 => by rw [up_n (by omega)])
            · have hd := hdir x y xx0 (by omega) y0 (by omega)
              refine ⟨by omega, by omega, fun g1 => ⟨by omega, ?_⟩, fun g1 => ⟨by omega, by omega, by omega, ?_⟩⟩
              · refine ih2 (y + 1) N jr g0 (by omega) (by omega) (by omega) hO hS hD (by split <;> split at hN <;> omega) hm1 hA hG (fun u v a b c d e1 => hB2 u v a b c (by
                  by_cases c1 : u = x ∧ v = y
                  · rw [c1.1, c1.2] at e1; omega
                  · omega) e1) (fun φ => by rw [hφ φ, su_s y0, if_neg (by omega), Int.add_zero])
              · have hxy : x ≠ y := fun q => by subst q; have := hself x xx0 (by omega); omega
                have hN2 : N (8 + 0) 0 ≤ 22 + 20 * x + 2 * y - (if x < y then 2 else 0) := hN
                have hN3 : N (8 + 0) 0 + 2 ≤ 240 := by split at hN2 <;> omega
                refine X5_join (Or.inl rfl) hS hD hN3 (by omega) (by omega) (by omega) (by omega) (fun _ => by show (0 : Int) ≤ 0 + M (40 + x) y; omega) (fun N1 hj hS1 hD1 => ⟨by omega, ?_⟩)
                refine ih2 (y + 1) N1 (fun u v => if u = x ∧ v = y then N (8 + 0) 0 / 2 else jr u v) g0 (by omega) (by omega) (by omega) (offB_jn hO hj) hS1 hD1 (by rw [hj.1]; split <;> split at hN2 <;> omega) (by rw [hj.2.1]; exact hm1) (fun u a b c => arc_jn hj (hA u a b c)) (fun u a b => arc_jn hj (hG u a b)) (fun u v a b c d e1 => ?_) (fun φ => ?_)
                · by_cases c1 : u = x ∧ v = y
                  · rw [if_pos c1, c1.1, c1.2]; exact arc_new hS hj
                  · rw [if_neg c1]; exact arc_jn hj (hB2 u v a b c (by omega) e1)
                · rw [sum_jn hS hj, hφ φ, su_s y0, if_pos (by omega), if_pos ⟨rfl, rfl⟩]
                  rw [su_congr (n := x) (g := fun u => φ (jg u) + su n (fun v => if M (40 + u) v < 1000000 then φ (jr u v) else 0)) (f := fun u => φ (jg u) + su n (fun v => if M (40 + u) v < 1000000 then φ (if u = x ∧ v = y then N (8 + 0) 0 / 2 else jr u v) else 0)) (fun u u0 u1 => by
                    congr 1
                    exact su_congr (fun v v0 v1 => by rw [if_neg (fun q : u = x ∧ v = y => by omega)]))]
                  rw [su_congr (n := y) (g := fun v => if M (40 + x) v < 1000000 then φ (jr x v) else 0) (f := fun v => if M (40 + x) v < 1000000 then φ (if x = x ∧ v = y then N (8 + 0) 0 / 2 else jr x v) else 0) (fun v v0 v1 => by rw [if_neg (fun q : x = x ∧ v = y => by omega)])]
                  omega
        have gate : ∀ c : Int, c = capG (M 18) x → jbX4_cheapestThroughGates_64 r2 r3 post (fun y4 y5 N => lpX4_cheapestThroughGates_22 r2 r3 post f y4 y5 N) (su n (fun u => if M r3 u < M r2 u then M r2 u - M r3 u else 0)) x c (10 + x) x N := fun c hc => by
          have hcb : 0 ≤ c ∧ c ≤ 1000000 := by
            rw [hc]; unfold capG; split <;> omega
          unfold jbX4_cheapestThroughGates_64
          refine X5_join (Or.inl rfl) hS hD (by omega) (by omega) (by omega) hcb (by omega) (fun _ => by show (0 : Int) ≤ 0 + 0; omega) (fun N1 hj hS1 hD1 => ?_)
          refine ⟨11, key2 11 0 N1 jr (N (8 + 0) 0 / 2) (by omega) (by omega) (by omega) (offB_jn hO hj) hS1 hD1 (by rw [hj.1, if_neg (by omega)]; omega) (by rw [hj.2.1]; exact hm1) (fun u a b c => arc_jn hj (hA u a b c)) (fun u a b => ?_) (fun u v a c d e e1 => arc_jn hj (hB2 u v a (by omega) c d e1)) (fun φ => ?_)⟩
          · by_cases c1 : u = x
            · rw [c1, up_s, ← hc]; exact arc_new hS hj
            · rw [up_n c1]; exact arc_jn hj (hG u a (by omega))
          · rw [sum_jn hS hj, hφ φ, su_0]; omega
        refine ⟨by omega, fun w hw => ⟨fun g1 => ⟨by omega, gate w ?_⟩, fun g1 => ⟨by omega, gate _ ?_⟩⟩⟩
        · unfold capG; rw [if_neg (by omega)]; exact hw
        · unfold capG; rw [if_pos (by omega)]
  exact ⟨11, key 11 0 M2 (fun _ => 0) (fun _ _ => 0) (by omega) (by omega) (by omega) o2 yS yD (by omega) (by rw [ym, x1]) yA (fun u a b => by omega) (fun u v a b => by omega) (fun φ => by rw [yφ φ, su_0, Int.add_zero])⟩
