/-! the class's measuring -/
theorem lenX_hi {u : Int} (h0 : 0 ≤ u) (h1 : u < 48) : lenX (40 + u) = 10 := by
  unfold lenX
  rw [if_neg (by omega), if_neg (by omega), if_neg (by omega), if_neg (by omega), if_neg (by omega), if_neg (by omega), if_neg (by omega), if_pos (by omega)]
def OffD (M M' : Mem) : Prop := ∀ k i : Int, (k < 40 ∨ 60 ≤ k) → M' k i = M k i
theorem X3_measureRoads {n r : Int} {U V L : Int → Int} {M : Mem} {post : Mem → Prop} (hn : 0 ≤ n ∧ n ≤ 10) (hr : 0 ≤ r ∧ r ≤ 30) (hR : Rds n r U V L) (e0 : M 1 0 = n) (e1 : M 1 1 = r) (hU : ∀ j : Int, 0 ≤ j → j < r → M 15 j = U j ∧ M 16 j = V j ∧ M 17 j = L j)
    (h : ∀ M' : Mem, OffD M M' → (∀ u v : Int, 0 ≤ u → u < n → 0 ≤ v → v < n → M' (40 + u) v = dr 1000000 r U V L u v) → post M') : wpX3_measureRoads M post := by
  have key2 : ∀ (k : Nat) (x : Int) (N : Mem), 0 ≤ x → x ≤ r → r - x < k → OffD M N → (∀ u v : Int, 0 ≤ u → u < n → 0 ≤ v → v < n → N (40 + u) v = dr 1000000 x U V L u v) → lpX3_measureRoads_29 post k x N := by
    intro k
    induction k with
    | zero => intro x N _ _ q; omega
    | succ k ih =>
      intro x N hx hx1 hk hO hD
      unfold lpX3_measureRoads_29
      rw [hO 1 1 (by omega), e1]
      refine ⟨fun q => h N hO (by rw [show r = x by omega]; exact hD), fun q => ?_⟩
      obtain ⟨f1, f2, f3⟩ := hU x hx (by omega)
      obtain ⟨g1, g2, g3, g4, g5, g6, g7⟩ := hR x hx (by omega)
      rw [hO 15 x (by omega), hO 16 x (by omega), hO 17 x (by omega), f1, f2, f3]
      refine ⟨by omega, fun a ha => ⟨by omega, fun b hb => ?_⟩⟩
      subst ha; subst hb
      refine ⟨by omega, by omega, by omega, fun c hc => ⟨by omega, by omega, fun N1 hN1 => ⟨by omega, by omega, fun N2 hN2 => ⟨by omega, ?_⟩⟩⟩⟩
      refine ih (x + 1) N2 (by omega) (by omega) (by omega) (fun k i hk => ?_) (fun u v a1 a2 a3 a4 => ?_)
      · rw [hN2, hN1, mset_r (by omega), mset_r (by omega)]; exact hO k i hk
      · rw [dr_s hx]
        have hs := dr_sym 1000000 x U V L (U x) (V x)
        have hc2 := hD (U x) (V x) g1 g2 g3 g4
        rw [hc2] at hc
        by_cases e : u = V x ∧ v = U x
        · rw [hN2, e.1, e.2, mset_s, if_pos (Or.inr ⟨rfl, rfl⟩), hc, hs]
        · have e' : ¬ (40 + u = 40 + V x ∧ v = U x) := fun q => e ⟨by omega, q.2⟩
          rw [hN2]
          unfold mset
          rw [if_neg e', hN1]
          by_cases e2 : u = U x ∧ v = V x
          · rw [e2.1, e2.2, mset_s, if_pos (Or.inl ⟨rfl, rfl⟩), hc]
          · unfold mset
            rw [if_neg (fun q => e2 ⟨by omega, q.2⟩), if_neg (by omega)]
            exact hD u v a1 a2 a3 a4
  have key : ∀ (k : Nat) (x : Int) (N : Mem), 0 ≤ x → x ≤ n → n - x < k → OffD M N → (∀ u v : Int, 0 ≤ u → u < x → 0 ≤ v → v < 10 → N (40 + u) v = 1000000) → lpX3_measureRoads_2 post k x N := by
    intro k
    induction k with
    | zero => intro x N _ _ q; omega
    | succ k ih =>
      intro x N hx hx1 hk hO hD
      unfold lpX3_measureRoads_2
      rw [hO 1 0 (by omega), e0]
      refine ⟨fun q => ?_, fun q => ⟨by omega, ?_⟩⟩
      · exact ⟨31, key2 31 0 N (by omega) (by omega) (by omega) hO (fun u v a b c d => by rw [hD u v a (by omega) c (by omega)]; rfl)⟩
      · have hl : lenX (40 + x) = 10 := lenX_hi hx (by omega)
        refine J7_fill (by omega) (by omega) ⟨by omega, ?_⟩
        rw [hl]
        refine ih (x + 1) _ (by omega) (by omega) (by omega) (fun k i hk => ?_) (fun u v a b c d => ?_)
        · rw [mfill_r (by omega)]; exact hO k i hk
        · by_cases e : u = x
          · rw [e, mfill_in c d]
          · rw [mfill_r (by omega)]; exact hD u v a (by omega) c d
  exact ⟨11, key 11 0 M (by omega) (by omega) (by omega) (fun _ _ _ => rfl) (fun u v a b => by omega)⟩
/-- rows 50.. change alone -/
def OffE (M M' : Mem) : Prop := ∀ k i : Int, (k < 50 ∨ 60 ≤ k) → M' k i = M k i
theorem X3_shortenBy {n a w : Int} {d : Int → Int → Int} {M : Mem} {post : Mem → Prop} (hn : 0 ≤ n ∧ n ≤ 10) (ha : 0 ≤ a ∧ a < n) (hw : 0 ≤ w ∧ w < n) (e0 : M 1 0 = n)
    (hd : ∀ u v : Int, 0 ≤ u → u < n → 0 ≤ v → v < n → 0 ≤ d u v ∧ d u v ≤ 1000000) (hz : d w w = 0)
    (hD : ∀ u v : Int, 0 ≤ u → u < n → 0 ≤ v → v < n → M (50 + u) v = if u < a then stp w d u v else d u v)
    (h : ∀ M' : Mem, OffE M M' → (∀ u v : Int, 0 ≤ u → u < n → 0 ≤ v → v < n → M' (50 + u) v = if u < a + 1 then stp w d u v else d u v) → post M') : wpX3_shortenBy a w M post := by
  refine ⟨by omega, by omega, fun f hf => ?_⟩
  have hf : f = d a w := by rw [hf, hD a w ha.1 ha.2 hw.1 hw.2, if_neg (by omega)]
  have hrow : ∀ v : Int, 0 ≤ v → v < n → (if w < a then stp w d w v else d w v) = d w v := fun v a1 a2 => by
    have := (hd w v hw.1 hw.2 a1 a2).1
    unfold stp; rw [hz]; split <;> omega
  refine ⟨fun q => ?_, fun q => ?_⟩
  · have key : ∀ (k : Nat) (x : Int) (N : Mem), 0 ≤ x → x ≤ n → n - x < k → OffE M N → (∀ u v : Int, 0 ≤ u → u < n → 0 ≤ v → v < n → N (50 + u) v = if u < a ∨ (u = a ∧ v < x) then stp w d u v else d u v) → lpX3_shortenBy_19 post k a w f x N := by
      intro k
      induction k with
      | zero => intro x N _ _ q; omega
      | succ k ih =>
        intro x N hx hx1 hk hO hE
        unfold lpX3_shortenBy_19 jbX3_shortenBy_66
        rw [hO 1 0 (by omega), e0]
        refine ⟨fun q => h N hO (fun u v a1 a2 a3 a4 => ?_), fun q => ?_⟩
        · rw [hE u v a1 a2 a3 a4]
          by_cases e : u < a + 1
          · rw [if_pos e, if_pos (by omega)]
          · rw [if_neg e, if_neg (by omega)]
        · have r1 : N (50 + w) x = d w x := by
            rw [hE w x hw.1 hw.2 hx (by omega)]
            have h9 := (hd w x hw.1 hw.2 hx (by omega)).1
            unfold stp; rw [hz]; split <;> omega
          have r2 : N (50 + a) x = d a x := by
            rw [hE a x ha.1 ha.2 hx (by omega), if_neg (by omega)]
          have b1 := hd w x hw.1 hw.2 hx (by omega)
          have b2 := hd a w ha.1 ha.2 hw.1 hw.2
          rw [r1, r2]
          refine ⟨by omega, by omega, by omega, fun t ht => ⟨by omega, by omega, fun q2 => ⟨by omega, ?_⟩, fun q2 => ⟨by omega, by omega, fun N1 hN1 => ⟨by omega, ?_⟩⟩⟩⟩
          · refine ih (x + 1) N (by omega) (by omega) (by omega) hO (fun u v a1 a2 a3 a4 => ?_)
            rw [hE u v a1 a2 a3 a4]
            by_cases e : u = a ∧ v = x
            · rw [if_neg (by omega), if_pos (by omega), e.1, e.2]
              unfold stp; omega
            · by_cases e2 : u < a ∨ (u = a ∧ v < x)
              · rw [if_pos e2, if_pos (by omega)]
              · rw [if_neg e2, if_neg (by omega)]
          · refine ih (x + 1) N1 (by omega) (by omega) (by omega) (fun k i hk => by rw [hN1, mset_r (by omega)]; exact hO k i hk) (fun u v a1 a2 a3 a4 => ?_)
            by_cases e : u = a ∧ v = x
            · rw [hN1, if_pos (by omega), e.1, e.2, mset_s]
              unfold stp; omega
            · rw [hN1]
              unfold mset
              rw [if_neg (fun q => e ⟨by omega, q.2⟩), hE u v a1 a2 a3 a4]
              by_cases e2 : u < a ∨ (u = a ∧ v < x)
              · rw [if_pos e2, if_pos (by omega)]
              · rw [if_neg e2, if_neg (by omega)]
    refine ⟨11, key 11 0 M (by omega) (by omega) (by omega) (fun _ _ _ => rfl) (fun u v a1 a2 a3 a4 => ?_)⟩
    rw [hD u v a1 a2 a3 a4]
    by_cases e : u < a
    · rw [if_pos e, if_pos (by omega)]
    · rw [if_neg e, if_neg (by omega)]
  · refine h M (fun _ _ _ => rfl) (fun u v a1 a2 a3 a4 => ?_)
    rw [hD u v a1 a2 a3 a4]
    by_cases e : u < a
    · rw [if_pos e, if_pos (by omega)]
    · rw [if_neg e]
      by_cases e2 : u = a
      · subst e2
        rw [if_pos (by omega)]
        have := hd u v a1 a2 a3 a4
        have := hd w v hw.1 hw.2 a3 a4
        unfold stp
        omega
      · rw [if_neg (by omega)]
theorem fw_bnd {n : Int} {dir : Int → Int → Int} {K : Int} (hK : 0 ≤ K) (hd : ∀ u w : Int, 0 ≤ dir u w ∧ dir u w ≤ K) {k : Nat} (hk : (k : Int) ≤ n) : (∀ u v : Int, 0 ≤ u → u < n → 0 ≤ v → v < n → 0 ≤ fw dir k u v ∧ fw dir k u v ≤ K) ∧ (∀ u : Int, 0 ≤ u → u < n → fw dir k u u = 0) := by
  have := fw_inv (n := n) hK hd k hk
  exact ⟨fun u v a b c d => ⟨(this.2.1 u v a b c d).1, (this.2.1 u v a b c d).2.1⟩, this.1⟩
theorem fw_si {dir : Int → Int → Int} {x : Int} (h : 0 ≤ x) (u v : Int) : fw dir (x + 1).toNat u v = stp x (fw dir x.toNat) u v := by
  rw [show (x + 1).toNat = x.toNat + 1 by omega]
  show stp (x.toNat : Int) (fw dir x.toNat) u v = _
  rw [Int.toNat_of_nonneg h]
theorem X3_measure {n r : Int} {U V L : Int → Int} {M : Mem} {post : Mem → Prop} (hn : 0 ≤ n ∧ n ≤ 10) (hr : 0 ≤ r ∧ r ≤ 30) (hR : Rds n r U V L) (e0 : M 1 0 = n) (e1 : M 1 1 = r) (hU : ∀ j : Int, 0 ≤ j → j < r → M 15 j = U j ∧ M 16 j = V j ∧ M 17 j = L j)
    (h : ∀ M' : Mem, OffD M M' → (∀ u v : Int, 0 ≤ u → u < n → 0 ≤ v → v < n → M' (40 + u) v = dr 1000000 r U V L u v) → Ds n (dr 1000000 r U V L) 1000000 (fun u v => M' (50 + u) v) → post M') : wpX3_measure M post := by
  refine X3_measureRoads hn hr hR e0 e1 hU (fun M1 hO1 hD1 => ?_)
  have hdd : ∀ u w : Int, 0 ≤ dr 1000000 r U V L u w ∧ dr 1000000 r U V L u w ≤ 1000000 := fun u w => ⟨by have := dr_pos (K := 1000000) (by omega) hR u w; omega, dr_le _ _ _ _ _ _ _⟩
  have e01 : M1 1 0 = n := by rw [hO1 1 0 (by omega), e0]
  have key3 : ∀ (k : Nat) (x : Int) (N : Mem), 0 ≤ x → x ≤ n → n - x < k → OffE M1 N → (∀ u v : Int, 0 ≤ u → u < n → 0 ≤ v → v < n → N (50 + u) v = fw (dr 1000000 r U V L) x.toNat u v) → lpX3_measure_52 post k x N := by
    intro k
    induction k with
    | zero => intro x N _ _ q; omega
    | succ k ih =>
      intro x N hx hx1 hk hO hE
      unfold lpX3_measure_52
      rw [hO 1 0 (by omega), e01]
      refine ⟨fun q => ?_, fun q => ?_⟩
      · refine h N (fun k i hk => by rw [hO k i (by omega)]; exact hO1 k i hk) (fun u v a b c d => by rw [hO _ _ (by omega)]; exact hD1 u v a b c d) ?_
        refine Ds_ext (fun u v a b c d => ?_) (fw_ds hn.1 (by omega) hdd)
        show N (50 + u) v = _
        rw [hE u v a b c d, show x = n by omega]
      · obtain ⟨b1, b2⟩ := fw_bnd (n := n) (by omega) hdd (k := x.toNat) (by omega)
        have key4 : ∀ (k2 : Nat) (y : Int) (N : Mem), 0 ≤ y → y ≤ n → n - y < k2 → OffE M1 N → (∀ u v : Int, 0 ≤ u → u < n → 0 ≤ v → v < n → N (50 + u) v = if u < y then stp x (fw (dr 1000000 r U V L) x.toNat) u v else fw (dr 1000000 r U V L) x.toNat u v) → lpX3_measure_62 post (fun y1 N => lpX3_measure_52 post k y1 N) k2 x y N := by
          intro k2
          induction k2 with
          | zero => intro y N _ _ q; omega
          | succ k2 ih2 =>
            intro y N hy hy1 hk2 hO hE
            unfold lpX3_measure_62
            rw [hO 1 0 (by omega), e01]
            refine ⟨fun q => ⟨by omega, ?_⟩, fun q => ?_⟩
            · refine ih (x + 1) N (by omega) (by omega) (by omega) hO (fun u v a b c d => ?_)
              rw [hE u v a b c d, if_pos (by omega), fw_si hx]
            · refine X3_shortenBy (d := fw (dr 1000000 r U V L) x.toNat) hn ⟨hy, by omega⟩ ⟨hx, by omega⟩ (by rw [hO 1 0 (by omega), e01]) b1 (b2 x hx (by omega)) hE (fun N1 hO2 hE2 => ⟨by omega, ?_⟩)
              exact ih2 (y + 1) N1 (by omega) (by omega) (by omega) (fun k i hk => by rw [hO2 k i hk]; exact hO k i hk) hE2
        exact ⟨11, key4 11 0 N (by omega) (by omega) (by omega) hO (fun u v a b c d => by rw [if_neg (by omega)]; exact hE u v a b c d)⟩
  have key : ∀ (k : Nat) (x : Int) (N : Mem), 0 ≤ x → x ≤ n → n - x < k → OffE M1 N → (∀ u v : Int, 0 ≤ u → u < x → 0 ≤ v → v < n → N (50 + u) v = fwi (dr 1000000 r U V L) u v) → lpX3_measure_6 post k x N := by
    intro k
    induction k with
    | zero => intro x N _ _ q; omega
    | succ k ih =>
      intro x N hx hx1 hk hO hE
      unfold lpX3_measure_6
      rw [hO 1 0 (by omega), e01]
      refine ⟨fun q => ?_, fun q => ⟨by omega, by omega, by omega, fun N1 hN1 => ⟨by omega, by omega, fun N2 hN2 => ⟨by omega, ?_⟩⟩⟩⟩
      · exact ⟨11, key3 11 0 N (by omega) (by omega) (by omega) hO (fun u v a b c d => by rw [hE u v a (by omega) c d]; rfl)⟩
      · refine ih (x + 1) N2 (by omega) (by omega) (by omega) (fun k i hk => ?_) (fun u v a b c d => ?_)
        · rw [hN2, mset_r (by omega), hN1]
          unfold mcopy
          rw [msetr_n (by omega)]
          exact hO k i hk
        · by_cases e : u = x
          · subst e
            unfold fwi
            by_cases e2 : u = v
            · subst e2; rw [if_pos rfl, hN2, mset_s]
            · rw [if_neg e2, hN2, mset_i (fun q => e2 q.symm), hN1]
              unfold mcopy
              rw [msetr_s, if_pos ⟨c, d⟩, hO _ _ (by omega)]
              exact hD1 u v hx (by omega) c d
          · rw [hN2, mset_r (by omega), hN1]
            unfold mcopy
            rw [msetr_n (by omega)]
            exact hE u v a (by omega) c d
  exact ⟨11, key 11 0 M1 (by omega) (by omega) (by omega) (fun _ _ _ => rfl) (fun u v a b => by omega)⟩
