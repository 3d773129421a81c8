/-! the reference's measuring: row 10 alone changes -/
def OffT (M M' : Mem) : Prop := ∀ k i : Int, k ≠ 10 → M' k i = M k i
theorem ix10 {u v x : Int} (h0 : 0 ≤ v) (h1 : v < 10) (h : x = 10 * u + v) : x / 10 = u ∧ x % 10 = v := by omega
theorem ix_ne {u v a b : Int} (h0 : 0 ≤ v) (h1 : v < 10) (h2 : 0 ≤ b) (h3 : b < 10) (h : ¬ (u = a ∧ v = b)) : 10 * u + v ≠ 10 * a + b := by omega
theorem X9_findFar {n r : Int} {U V L : Int → Int} {M : Mem} {post : Mem → Prop} (hn : 0 ≤ n ∧ n ≤ 10) (hr : 0 ≤ r ∧ r ≤ 30) (hR : Rds n r U V L) (e0 : M 0 0 = n) (e1 : M 0 1 = r) (hU : ∀ j : Int, 0 ≤ j → j < r → M 1 j = U j ∧ M 2 j = V j ∧ M 3 j = L j)
    (h : ∀ M' : Mem, OffT M M' → Ds n (dr 1000000000 r U V L) 1000000000 (fun u v => M' 10 (10 * u + v)) → post M') : wpX9_findFar M post := by
  have hdd : ∀ u w : Int, 0 ≤ dr 1000000000 r U V L u w ∧ dr 1000000000 r U V L u w ≤ 1000000000 := fun u w => ⟨by have := dr_pos (K := 1000000000) (by omega) hR u w; omega, dr_le _ _ _ _ _ _ _⟩
  have key3 : ∀ (k : Nat) (x : Int) (N : Mem), 0 ≤ x → x ≤ n → n - x < k → OffT M N → (∀ u v : Int, 0 ≤ u → u < n → 0 ≤ v → v < n → N 10 (10 * u + v) = fw (dr 1000000000 r U V L) x.toNat u v) → lpX9_findFar_137 post k x N := by
    intro k
    induction k with
    | zero => intro x N _ _ q; omega
    | succ k ih =>
      intro x N hx hx1 hk hO hE
      unfold lpX9_findFar_137
      rw [hO 0 0 (by omega), e0]
      refine ⟨fun q => ?_, fun q => ?_⟩
      · refine h N hO ?_
        refine Ds_ext (fun u v a b c d => ?_) (fw_ds hn.1 (by omega) hdd)
        show N 10 (10 * u + v) = _
        rw [hE u v a b c d, show x = n by omega]
      · obtain ⟨b1, b2⟩ := fw_bnd (n := n) (by omega) hdd (k := x.toNat) (by omega)
        have hxx := b2 x hx (by omega)
        have key4 : ∀ (k2 : Nat) (y : Int) (N : Mem), 0 ≤ y → y ≤ n → n - y < k2 → OffT M N → (∀ u v : Int, 0 ≤ u → u < n → 0 ≤ v → v < n → N 10 (10 * u + v) = if u < y then stp x (fw (dr 1000000000 r U V L) x.toNat) u v else fw (dr 1000000000 r U V L) x.toNat u v) → lpX9_findFar_147 post (fun y1 N => lpX9_findFar_137 post k y1 N) k2 x y N := by
          intro k2
          induction k2 with
          | zero => intro y N _ _ q; omega
          | succ k2 ih2 =>
            intro y N hy hy1 hk2 hO hE
            unfold lpX9_findFar_147
            rw [hO 0 0 (by omega), e0]
            refine ⟨fun q => ⟨by omega, ?_⟩, fun q => ?_⟩
            · refine ih (x + 1) N (by omega) (by omega) (by omega) hO (fun u v a b c d => ?_)
              rw [hE u v a b c d, if_pos (by omega), fw_si hx]
            · have key5 : ∀ (k3 : Nat) (z : Int) (N : Mem), 0 ≤ z → z ≤ n → n - z < k3 → OffT M N → (∀ u v : Int, 0 ≤ u → u < n → 0 ≤ v → v < n → N 10 (10 * u + v) = if u < y ∨ (u = y ∧ v < z) then stp x (fw (dr 1000000000 r U V L) x.toNat) u v else fw (dr 1000000000 r U V L) x.toNat u v) → lpX9_findFar_157 post (fun y1 N => lpX9_findFar_137 post k y1 N) (fun y1 y2 N => lpX9_findFar_147 post (fun y1 N => lpX9_findFar_137 post k y1 N) k2 y1 y2 N) k3 x y z N := by
                intro k3
                induction k3 with
                | zero => intro z N _ _ q; omega
                | succ k3 ih3 =>
                  intro z N hz hz1 hk3 hO hE
                  unfold lpX9_findFar_157 jbX9_findFar_232
                  rw [hO 0 0 (by omega), e0]
                  refine ⟨fun q => ⟨by omega, ?_⟩, fun q => ?_⟩
                  · refine ih2 (y + 1) N (by omega) (by omega) (by omega) hO (fun u v a b c d => ?_)
                    rw [hE u v a b c d]
                    by_cases e : u < y + 1
                    · rw [if_pos e, if_pos (by omega)]
                    · rw [if_neg e, if_neg (by omega)]
                  · have c1 := b1 y x hy (by omega) hx (by omega)
                    have c2 := b1 x z hx (by omega) hz (by omega)
                    have c3 := b1 y z hy (by omega) hz (by omega)
                    have r1 : N 10 (10 * y + x) = fw (dr 1000000000 r U V L) x.toNat y x := by
                      rw [hE y x hy (by omega) hx (by omega)]
                      unfold stp; rw [hxx]; split <;> omega
                    have r2 : N 10 (10 * x + z) = fw (dr 1000000000 r U V L) x.toNat x z := by
                      rw [hE x z hx (by omega) hz (by omega)]
                      unfold stp; rw [hxx]; split <;> omega
                    have r3 : N 10 (10 * y + z) = fw (dr 1000000000 r U V L) x.toNat y z := by
                      rw [hE y z hy (by omega) hz (by omega), if_neg (by omega)]
                    rw [r1, r2, r3]
                    have nxt : ∀ (N1 : Mem) (t : Int), t = stp x (fw (dr 1000000000 r U V L) x.toNat) y z → N1 = mset N 10 (10 * y + z) t → lpX9_findFar_157 post (fun y1 N => lpX9_findFar_137 post k y1 N) (fun y1 y2 N => lpX9_findFar_147 post (fun y1 N => lpX9_findFar_137 post k y1 N) k2 y1 y2 N) k3 x y (z + 1) N1 := fun N1 t ht hN1 => by
                      refine ih3 (z + 1) N1 (by omega) (by omega) (by omega) (fun k i hk => by rw [hN1, mset_r hk]; exact hO k i hk) (fun u v a b c d => ?_)
                      by_cases e : u = y ∧ v = z
                      · rw [hN1, e.1, e.2, mset_s, if_pos (by omega), ht]
                      · rw [hN1, mset_i (ix_ne c (by omega) hz (by omega) e), hE u v a b c d]
                        by_cases e2 : u < y ∨ (u = y ∧ v < z)
                        · rw [if_pos e2, if_pos (by omega)]
                        · rw [if_neg e2, if_neg (by omega)]
                    refine ⟨by omega, by omega, by omega, fun t ht => ⟨by omega, fun q2 => ⟨by omega, by omega, by omega, fun N1 hN1 => ⟨by omega, nxt N1 _ ?_ hN1⟩⟩, fun q2 => ⟨by omega, by omega, fun N1 hN1 => ⟨by omega, nxt N1 _ ?_ hN1⟩⟩⟩⟩
                    · unfold stp; omega
                    · unfold stp; omega
              exact ⟨11, key5 11 0 N (by omega) (by omega) (by omega) hO (fun u v a b c d => by
                rw [hE u v a b c d]
                by_cases e : u < y
                · rw [if_pos e, if_pos (by omega)]
                · rw [if_neg e, if_neg (by omega)])⟩
        exact ⟨11, key4 11 0 N (by omega) (by omega) (by omega) hO (fun u v a b c d => by rw [if_neg (by omega)]; exact hE u v a b c d)⟩
  have key2 : ∀ (k : Nat) (x : Int) (N : Mem), 0 ≤ x → x ≤ r → r - x < k → OffT M N → (∀ u v : Int, 0 ≤ u → u < n → 0 ≤ v → v < n → N 10 (10 * u + v) = fwi (dr 1000000000 x U V L) u v) → lpX9_findFar_39 post k x N := by
    intro k
    induction k with
    | zero => intro x N _ _ q; omega
    | succ k ih =>
      intro x N hx hx1 hk hO hE
      unfold lpX9_findFar_39 jbX9_findFar_116
      rw [hO 0 1 (by omega), e1]
      refine ⟨fun q => ?_, fun q => ?_⟩
      · exact ⟨11, key3 11 0 N (by omega) (by omega) (by omega) hO (fun u v a b c d => by rw [hE u v a b c d, show x = r by omega]; rfl)⟩
      · obtain ⟨f1, f2, f3⟩ := hU x hx (by omega)
        obtain ⟨g1, g2, g3, g4, g5, g6, g7⟩ := hR x hx (by omega)
        rw [hO 1 x (by omega), hO 2 x (by omega), hO 3 x (by omega), f1, f2, f3]
        have hs := dr_sym 1000000000 x U V L (U x) (V x)
        have hE1 : N 10 (10 * U x + V x) = dr 1000000000 x U V L (U x) (V x) := by rw [hE _ _ g1 g2 g3 g4]; exact if_neg g5
        have nxt : ∀ (N1 N2 : Mem) (t : Int), t = min (dr 1000000000 x U V L (U x) (V x)) (L x) → N1 = mset N 10 (10 * U x + V x) t → N2 = mset N1 10 (10 * V x + U x) (N1 10 (10 * U x + V x)) → lpX9_findFar_39 post k (x + 1) N2 := fun N1 N2 t ht hN1 hN2 => by
          have hv : N1 10 (10 * U x + V x) = t := by rw [hN1, mset_s]
          rw [hv] at hN2
          refine ih (x + 1) N2 (by omega) (by omega) (by omega) (fun k i hk => by rw [hN2, mset_r hk, hN1, mset_r hk]; exact hO k i hk) (fun u v a b c d => ?_)
          unfold fwi
          by_cases e : u = V x ∧ v = U x
          · rw [hN2, e.1, e.2, mset_s, if_neg (fun q => g5 q.symm), dr_s hx, if_pos (Or.inr ⟨rfl, rfl⟩), ht, hs]
          · rw [hN2, mset_i (ix_ne c (by omega) g1 (by omega) e)]
            by_cases e2 : u = U x ∧ v = V x
            · rw [hN1, e2.1, e2.2, mset_s, if_neg g5, dr_s hx, if_pos (Or.inl ⟨rfl, rfl⟩), ht]
            · have hh : dr 1000000000 (x + 1) U V L u v = dr 1000000000 x U V L u v := by rw [dr_s hx, if_neg (by omega)]
              rw [hN1, mset_i (ix_ne c (by omega) g3 (by omega) e2), hE u v a b c d, hh]
              rfl
        refine ⟨by omega, by omega, by omega, fun p hp => ⟨by omega, by omega, by omega, fun p2 hp2 => ?_⟩⟩
        subst hp; subst hp2
        rw [hE1]
        exact ⟨by omega, by omega, fun q2 => ⟨by omega, by omega, fun N1 hN1 => ⟨by omega, by omega, fun N2 hN2 => ⟨by omega, nxt N1 N2 _ (by omega) hN1 hN2⟩⟩⟩, fun q2 => ⟨by omega, by omega, fun N1 hN1 => ⟨by omega, by omega, fun N2 hN2 => ⟨by omega, nxt N1 N2 _ (by omega) hN1 hN2⟩⟩⟩⟩
  have key : ∀ (k : Nat) (x : Int) (N : Mem), 0 ≤ x → x ≤ 100 → 100 - x < k → OffT M N → (∀ j : Int, 0 ≤ j → j < x → N 10 j = if j / 10 = j % 10 then 0 else 1000000000) → lpX9_findFar_2 post k x N := by
    intro k
    induction k with
    | zero => intro x N _ _ q; omega
    | succ k ih =>
      intro x N hx hx1 hk hO hE
      unfold lpX9_findFar_2 jbX9_findFar_30
      have nxt : ∀ (N1 : Mem) (t : Int), t = (if x / 10 = x % 10 then 0 else 1000000000) → N1 = mset N 10 x t → x < 100 → lpX9_findFar_2 post k (x + 1) N1 := fun N1 t ht hN1 hx2 => by
        refine ih (x + 1) N1 (by omega) (by omega) (by omega) (fun k i hk => by rw [hN1, mset_r hk]; exact hO k i hk) (fun j a b => ?_)
        by_cases e : j = x
        · rw [hN1, e, mset_s, ht]
        · rw [hN1, mset_i e]; exact hE j a (by omega)
      refine ⟨fun q => ?_, fun q => ⟨hx, hx, by omega, by omega, fun q2 => ⟨by omega, fun N1 hN1 => ⟨by omega, nxt N1 _ (by rw [if_neg q2]) hN1 (by omega)⟩⟩, fun q2 => ⟨by omega, fun N1 hN1 => ⟨by omega, nxt N1 _ (by rw [if_pos q2]) hN1 (by omega)⟩⟩⟩⟩
      refine ⟨31, key2 31 0 N (by omega) (by omega) (by omega) hO (fun u v a b c d => ?_)⟩
      rw [hE (10 * u + v) (by omega) (by omega)]
      unfold fwi
      by_cases e : u = v
      · rw [if_pos e, if_pos (by omega)]
      · rw [if_neg e, if_neg (by omega)]; rfl
  exact ⟨101, key 101 0 M (by omega) (by omega) (by omega) (fun _ _ _ => rfl) (fun j a b => by omega)⟩
