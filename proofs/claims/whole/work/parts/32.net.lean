/-! the class's network: search, carry, push -/
theorem row_up (M : Mem) (k i v : Int) : mset M k i v k = up (M k) i v := by
  funext y
  unfold mset up
  by_cases c : y = i
  · rw [if_pos ⟨rfl, c⟩, if_pos c]
  · rw [if_neg (fun q => c q.2), if_neg c]
theorem row_ne {M : Mem} {k i v a : Int} (h : a ≠ k) : mset M k i v a = M a := by
  funext y
  exact mset_r h
def OffS (z : Int) (M M' : Mem) : Prop := ∀ k : Int, k ≠ 36 + z → k ≠ 38 + z → M' k = M k
def NetS (z : Int) (M : Mem) : Prop := (0 ≤ M (8 + z) 0 ∧ M (8 + z) 0 ≤ 240) ∧ ArcOk 22 (M (8 + z) 0) 9000 (M (28 + z)) (M (30 + z)) (M (34 + z)) ∧ PrsOk (M (8 + z) 0) (M (28 + z)) (M (30 + z)) (M (34 + z))
abbrev BfZ (z : Int) (M : Mem) (π : Int → Int) (k j : Int) (M' : Mem) (s q : Int → Int) (t : Int) : Prop := BfI 22 (M (8 + z) 0) 9000 1000000 (M (28 + z)) (M (30 + z)) (M (34 + z)) (M (32 + z)) π (fun x => x = 20) k j (M' (36 + z)) (M' (38 + z)) s q t
abbrev FinZ (z : Int) (M : Mem) (π : Int → Int) (M' : Mem) (ra : Int → Int) : Prop := BfF 22 (M (8 + z) 0) 9000 1000000 (M (28 + z)) (M (30 + z)) (M (34 + z)) (M (32 + z)) π (fun x => x = 20) (M' (36 + z)) (M' (38 + z)) ra
abbrev PotZ (z : Int) (M : Mem) (π : Int → Int) : Prop := PotOk (M (8 + z) 0) (M (28 + z)) (M (30 + z)) (M (34 + z)) (M (32 + z)) π
theorem X5_relax {z k t : Int} {M0 M : Mem} {π s q : Int → Int} {post : Int → Mem → Prop} (hz : z = 0 ∨ z = 1) (hS : NetS z M0) (hπ : PotZ z M0 π) (hπ0 : ∀ x : Int, 0 ≤ x → x < 22 → 0 ≤ π x) (hk : 1 ≤ k) (hO : OffS z M0 M) (H : BfZ z M0 π k 0 M s q t) (hq : ∀ x : Int, 0 ≤ x → x < 22 → q x < k)
    (h : ∀ (c : Int) (M' : Mem) (s q : Int → Int) (t : Int), OffS z M0 M' → BfZ z M0 π k (M0 (8 + z) 0) M' s q t → (c = 0 ∨ c = 1) → (c = 0 → ∀ x : Int, 0 ≤ x → x < 22 → q x < k) → (c = 1 → ∃ x : Int, 0 ≤ x ∧ x < 22 ∧ M' (36 + z) x < 1000000 ∧ q x = k) → post c M') : wpX5_relax z M post := by
  obtain ⟨⟨n0, n1⟩, hA, hP⟩ := hS
  have key : ∀ (f : Nat) (c j : Int) (M : Mem) (s q : Int → Int) (t : Int), 0 ≤ j → j ≤ M0 (8 + z) 0 → M0 (8 + z) 0 - j < f → OffS z M0 M → BfZ z M0 π k j M s q t → (c = 0 ∨ c = 1) → (c = 0 → ∀ x : Int, 0 ≤ x → x < 22 → q x < k) → (c = 1 → ∃ x : Int, 0 ≤ x ∧ x < 22 ∧ M (36 + z) x < 1000000 ∧ q x = k) → lpX5_relax_4 z post f c j M := by
    intro f
    induction f with
    | zero => intro c j M s q t _ _ g; omega
    | succ f ih =>
      intro c j M s q t j0 j1 hf hO H hc hc0 hc1
      unfold lpX5_relax_4 jbX5_relax_94
      have r8 : M (8 + z) = M0 (8 + z) := hO _ (by omega) (by omega)
      have r28 : M (28 + z) = M0 (28 + z) := hO _ (by omega) (by omega)
      have r30 : M (30 + z) = M0 (30 + z) := hO _ (by omega) (by omega)
      have r32 : M (32 + z) = M0 (32 + z) := hO _ (by omega) (by omega)
      have r34 : M (34 + z) = M0 (34 + z) := hO _ (by omega) (by omega)
      rw [r8, r28, r30, r32, r34]
      refine ⟨fun g => ?_, fun g => ?_⟩
      · have e : j = M0 (8 + z) 0 := by omega
        subst e
        exact ⟨hc, h c M s q t hO H hc hc0 hc1⟩
      · obtain ⟨a1, a2, a3, a4, a5, a6⟩ := hA j j0 (by omega)
        have skip : (0 < M0 (32 + z) j → M (36 + z) (M0 (28 + z) j) < 1000000 → M (36 + z) (M0 (30 + z) j) ≤ M (36 + z) (M0 (28 + z) j) + M0 (34 + z) j) → lpX5_relax_4 z post f c (j + 1) M := fun hh =>
          ih c (j + 1) M s q t (by omega) (by omega) (by omega) hO (bf_skip H hh) hc hc0 hc1
        refine ⟨by omega, ⟨a1, a2⟩, fun b hb => ⟨by omega, fun g1 => ⟨by omega, skip (fun q => by omega)⟩, fun g1 => ⟨fun g2 => ⟨by omega, skip (fun _ q => by omega)⟩, fun g2 => ?_⟩⟩⟩
        have lo := (H.1 (M0 (28 + z) j) a1 a2)
        have hb1 : M (36 + z) (M0 (28 + z) j) < 1000000 := by omega
        have bnd := (lo.2.1 hb1).2
        have cb := cn_le (n := 22) (by omega) (fun y => M (36 + z) y < 1000000)
        have low := (lo.2.1 hb1).1
        have low2 := hπ0 _ a1 a2
        refine ⟨by omega, by omega, ⟨a3, a4⟩, by omega, fun g3 => ⟨by omega, skip (fun _ _ => by omega)⟩, fun g3 => ⟨by omega, by omega, ⟨a3, a4⟩, fun M1 e1 => ?_⟩⟩
        have r30' : M1 (30 + z) = M0 (30 + z) := by rw [e1, row_ne (by omega), r30]
        rw [r30']
        refine ⟨by omega, ⟨a3, a4⟩, fun M2 e2 => ⟨by omega, ?_⟩⟩
        obtain ⟨hb2, hb3⟩ := bf_lower (by omega) (by omega) (by omega) hA hπ hk j0 (by omega) H (by omega) hb1 (by omega)
        have d2 : M2 (36 + z) = up (M (36 + z)) (M0 (30 + z) j) (M (36 + z) (M0 (28 + z) j) + M0 (34 + z) j) := by
          rw [e2, row_ne (by omega), e1, row_up, hb]
        have l2 : M2 (38 + z) = up (M (38 + z)) (M0 (30 + z) j) j := by
          rw [e2, row_up, e1, row_ne (by omega)]
        rw [← d2, ← l2] at hb2
        refine ih 1 (j + 1) M2 _ _ _ (by omega) (by omega) (by omega) (fun k p1 p2 => by rw [e2, row_ne p2, e1, row_ne p1]; exact hO k p1 p2) hb2 (Or.inr rfl) (fun q => by omega) (fun _ => ⟨M0 (30 + z) j, a3, a4, by rw [d2, up_s]; exact hb3, up_s _ _ _⟩)
  exact ⟨241, key 241 0 0 M s q t (by omega) (by omega) (by omega) hO H (Or.inl rfl) (fun _ => hq) (fun q => by omega)⟩
/-- the search -/
theorem X5_search {z : Int} {M : Mem} {π : Int → Int} {post : Int → Mem → Prop} (hz : z = 0 ∨ z = 1) (hS : NetS z M) (hπ : PotZ z M π) (hπ0 : ∀ x : Int, 0 ≤ x → x < 22 → 0 ≤ π x) (hπs : π 20 = 0)
    (h : ∀ (c : Int) (M' : Mem) (ra : Int → Int), OffS z M M' → FinZ z M π M' ra → (c = 0 ∨ c = 1) → (c = 1 → M' (36 + z) 21 < 1000000) → (c = 0 → 1000000 ≤ M' (36 + z) 21) → post c M') : wpX5_search z M post := by
  have hA := hS.2.1
  have fin : ∀ (M' : Mem) (ra : Int → Int), OffS z M M' → FinZ z M π M' ra → jbX5_search_49 z post M' := by
    intro M' ra hO F
    unfold jbX5_search_49 wpX5_isReached jbX5_isReached_16
    refine ⟨by omega, fun g => ⟨Or.inl rfl, Or.inl rfl, h 0 M' ra hO F (Or.inl rfl) (fun q => by omega) (fun _ => g)⟩, fun g => ⟨Or.inr rfl, Or.inr rfl, h 1 M' ra hO F (Or.inr rfl) (fun _ => by omega) (fun q => by omega)⟩⟩
  have key : ∀ (f : Nat) (x : Int) (M' : Mem) (s q : Int → Int) (t : Int), 0 ≤ x → x ≤ 22 → 22 - x < f → OffS z M M' → BfZ z M π (x + 1) 0 M' s q t → (∀ y : Int, 0 ≤ y → y < 22 → q y < x + 1) → (1 ≤ x → ∃ y : Int, 0 ≤ y ∧ y < 22 ∧ M' (36 + z) y < 1000000 ∧ q y = x) → lpX5_search_27 z post f x M' := by
    intro f
    induction f with
    | zero => intro x M' s q t _ _ g; omega
    | succ f ih =>
      intro x M' s q t x0 x1 hf hO H hq hx
      unfold lpX5_search_27
      refine ⟨fun g => ?_, fun g => ?_⟩
      · obtain ⟨y, y0, y1, y2, y3⟩ := hx (by omega)
        have := bf_q2 hA hπ H y0 y1 y2
        omega
      · refine X5_relax hz hS hπ hπ0 (by omega) hO H hq (fun c M2 s2 q2 t2 hO2 H2 hc hc0 hc1 => ⟨fun g2 => ⟨by omega, ?_⟩, fun g2 => ?_⟩)
        · have c1 : c = 1 := by
            rcases hc with r | r
            · exact absurd r g2
            · exact r
          refine ih (x + 1) M2 s2 q2 t2 (by omega) (by omega) (by omega) hO2 (bf_round H2) (fun y y0 y1 => ?_) (fun _ => hc1 c1)
          have := (H2.1 y y0 y1).2.2.2.2.1
          omega
        · obtain ⟨ra, F⟩ := bf_end (by omega) (by omega) (by omega) hA hπ H2 (fun y y0 y1 _ => hc0 g2 y y0 y1)
          exact fin M2 ra hO2 F
  have l36 := lenX_36 hz
  have l38 := lenX_38 hz
  refine J7_fill (by omega) (by omega) (J7_fill (by omega) (by omega) (fun M1 e1 => ?_))
  rw [l36, l38] at e1
  have d1 : ∀ x : Int, 0 ≤ x → x < 22 → M1 (36 + z) x = if x = 20 then 0 else 1000000 := fun x x0 x1 => by
    rw [e1, row_up]
    by_cases c : x = 20
    · rw [c, up_s, if_pos rfl]
    · rw [up_n c, if_neg c, mfill_r (by omega), mfill_in x0 x1]
  have a1 : ∀ x : Int, 0 ≤ x → x < 22 → M1 (38 + z) x = -1 := fun x x0 x1 => by
    rw [e1, row_ne (by omega), mfill_in x0 x1]
  have off : OffS z M M1 := fun k p1 p2 => by
    rw [e1, row_ne p1]
    funext i
    rw [mfill_r p2, mfill_r p1]
  exact ⟨23, key 23 0 M1 (fun _ => 0) (fun _ => 0) 1 (by omega) (by omega) (by omega) off (bf_start (by omega) (by omega) (fun x x0 x1 => ⟨fun r => ⟨by rw [d1 x x0 x1, if_pos r], by rw [r, hπs]; exact Int.le_refl _⟩, fun r => by rw [d1 x x0 x1, if_neg r], fun _ => a1 x x0 x1⟩)) (fun y _ _ => by show (0 : Int) < 0 + 1; omega) (fun q => by omega)⟩
/-- the way back from the sink, and what it can carry -/
theorem X5_carry {z most : Int} {M0 M : Mem} {π ra : Int → Int} {post : Mem → Prop} (hz : z = 0 ∨ z = 1) (hS : NetS z M0) (hπ : PotZ z M0 π) (hπ0 : ∀ x : Int, 0 ≤ x → x < 22 → 0 ≤ π x) (hR : ∀ e : Int, 0 ≤ e → e < M0 (8 + z) 0 → 0 ≤ M0 (32 + z) e ∧ M0 (32 + z) e + M0 (32 + z) (pr1 e) ≤ 1000000)
    (hm : 1 ≤ most ∧ most ≤ 10000) (hmv : 0 ≤ M0 (8 + z) 1 ∧ M0 (8 + z) 1 + most ≤ 10000) (hsp : 0 ≤ M0 (8 + z) 2 ∧ M0 (8 + z) 2 ≤ M0 (8 + z) 1 * 198000) (hO : OffS z M0 M) (F : FinZ z M0 π M ra) (ht : M (36 + z) 21 < 1000000)
    (h : ∀ (M' : Mem) (m : Int), 1 ≤ m → m ≤ most → (∀ k : Int, k ≠ 32 + z → k ≠ 8 + z → M' k = M k) → M' (8 + z) 0 = M0 (8 + z) 0 → M' (8 + z) 1 = M0 (8 + z) 1 + m → M' (8 + z) 2 = M0 (8 + z) 2 + m * M (36 + z) 21 → AugI 22 (M0 (8 + z) 0) 1000000 (M0 (28 + z)) (M0 (30 + z)) (M0 (34 + z)) (M0 (32 + z)) π (M (36 + z)) (M (38 + z)) ra 21 (M (36 + z) 21 - π 21) m 20 (M' (32 + z)) → post M') : wpX5_carry z most M post := by
  obtain ⟨⟨n0, n1⟩, hA, hP⟩ := hS
  have r8 : M (8 + z) = M0 (8 + z) := hO _ (by omega) (by omega)
  have r28 : M (28 + z) = M0 (28 + z) := hO _ (by omega) (by omega)
  have r32 : M (32 + z) = M0 (32 + z) := hO _ (by omega) (by omega)
  have nodes := pth_in hA F (t := 21) (by omega) (by omega) ht
  have rb := (F.1 21 (by omega) (by omega)).2.2.2
  -- the second time along it
  have key2 : ∀ (f : Nat) (i : Nat) (m : Int) (N : Mem), 22 - (i : Int) < f → 1 ≤ m → m ≤ most → (∀ k : Nat, k < i → M (38 + z) (pth (M0 (28 + z)) (M (38 + z)) 21 k) ≠ -1) → (∀ k : Nat, (∀ k' : Nat, k' ≤ k → M (38 + z) (pth (M0 (28 + z)) (M (38 + z)) 21 k') ≠ -1) → m ≤ M0 (32 + z) (M (38 + z) (pth (M0 (28 + z)) (M (38 + z)) 21 k))) → (∀ k : Int, k ≠ 32 + z → N k = M k) → AugI 22 (M0 (8 + z) 0) 1000000 (M0 (28 + z)) (M0 (30 + z)) (M0 (34 + z)) (M0 (32 + z)) π (M (36 + z)) (M (38 + z)) ra 21 (M (36 + z) 21 - π 21) m (pth (M0 (28 + z)) (M (38 + z)) 21 i) (N (32 + z)) → lpX5_carry_65 z post f m (M (38 + z) (pth (M0 (28 + z)) (M (38 + z)) 21 i)) i N := by
    intro f
    induction f with
    | zero =>
      intro i m N hf _ _ hl
      have := nodes i hl
      have := F.1 _ this.1 this.2.1
      omega
    | succ f ih =>
      intro i m N hf m1 m2 hl hm hN A
      have nd := nodes i hl
      have ndr := (F.1 _ nd.1 nd.2.1).2.2.2
      unfold lpX5_carry_65
      have s8 : N (8 + z) = M0 (8 + z) := by rw [hN _ (by omega), r8]
      have s36 : N (36 + z) = M (36 + z) := hN _ (by omega)
      have s38 : N (38 + z) = M (38 + z) := hN _ (by omega)
      have s28 : N (28 + z) = M0 (28 + z) := by rw [hN _ (by omega), r28]
      have fin : M (38 + z) (pth (M0 (28 + z)) (M (38 + z)) 21 i) = -1 → jbX5_carry_117 z post m N := fun hl1 => by
        rcases F.2.1 _ nd.1 nd.2.1 nd.2.2.1 with g | g
        · rw [g.2.1] at A
          unfold jbX5_carry_117
          rw [s8]
          have dlo := (F.1 21 (by omega) (by omega)).2.1 ht
          have dlo2 := hπ0 21 (by omega) (by omega)
          have q1 : m * M (36 + z) 21 ≤ m * 198000 := Int.mul_le_mul_of_nonneg_left (by omega) (by omega)
          have q0 : 0 ≤ m * M (36 + z) 21 := Int.mul_nonneg (by omega) (by omega)
          refine ⟨by omega, fun N1 e1 => ?_⟩
          have t36 : N1 (36 + z) = M (36 + z) := by rw [e1, row_ne (by omega), s36]
          have t8 : N1 (8 + z) 2 = M0 (8 + z) 2 := by rw [e1, mset_i (by omega), s8]
          rw [t36, t8]
          refine ⟨by omega, fun N2 e2 => ?_⟩
          refine h N2 m m1 m2 (fun k p1 p2 => by rw [e2, row_ne p2, e1, row_ne p2, hN k p1]) ?_ ?_ ?_ ?_
          · rw [e2, mset_i (by omega), e1, mset_i (by omega), s8]
          · rw [e2, mset_i (by omega), e1, mset_s]
          · rw [e2, mset_s]
          · rw [e2, row_ne (by omega), e1, row_ne (by omega)]; exact A
        · omega
      refine ⟨fun g => by omega, fun g => ⟨fun g1 => fin g1, fun g1 => ?_⟩⟩
      have hmi := hm i (fun k' hk' => by
        by_cases c : k' = i
        · rw [c]; exact g1
        · exact hl k' (by omega))
      obtain ⟨A2, b1, b2, b3, b4⟩ := aug_step hA hP hπ F (by omega) A g1 hmi
      have c1 := hR _ b1 b2
      have c2 := (A.2.1 _ b1 b2)
      obtain ⟨p0, p1⟩ := pr1_in b1 b2 hP.1
      have c3 := (A.2.1 _ p0 p1).1
      refine ⟨by omega, by omega, by omega, fun N1 e1 => ⟨b1, by omega, by omega, ?_⟩⟩
      have v1 : N1 (32 + z) (pr1 (M (38 + z) (pth (M0 (28 + z)) (M (38 + z)) 21 i))) = N (32 + z) (pr1 (M (38 + z) (pth (M0 (28 + z)) (M (38 + z)) 21 i))) := by rw [e1, mset_i (pr1_ne _)]
      rw [v1]
      refine ⟨by omega, fun N2 e2 => ?_⟩
      have v2 : N2 (32 + z) = mv (N (32 + z)) (M (38 + z) (pth (M0 (28 + z)) (M (38 + z)) 21 i)) m := by
        rw [e2, row_up, e1, row_up]
        funext a
        unfold up mv
        by_cases ca : a = pr1 (M (38 + z) (pth (M0 (28 + z)) (M (38 + z)) 21 i))
        · rw [if_pos ca, if_pos ca, ca]
        · rw [if_neg ca, if_neg ca]
          by_cases cb : a = M (38 + z) (pth (M0 (28 + z)) (M (38 + z)) 21 i)
          · rw [if_pos cb, if_pos cb, cb]
          · rw [if_neg cb, if_neg cb]
      have u28 : N2 (28 + z) = M0 (28 + z) := by rw [e2, row_ne (by omega), e1, row_ne (by omega), s28]
      have u38 : N2 (38 + z) = M (38 + z) := by rw [e2, row_ne (by omega), e1, row_ne (by omega), s38]
      rw [u28, u38]
      obtain ⟨a1, a2, _⟩ := hA _ b1 b2
      refine ⟨by omega, ⟨a1, a2⟩, fun v hv => ⟨by omega, ?_⟩⟩
      rw [hv]
      have := ih (i + 1) m N2 (by omega) m1 m2 (fun k hk => by
        by_cases c : k = i
        · rw [c]; exact g1
        · exact hl k (by omega)) hm (fun k hk => by rw [e2, row_ne hk, e1, row_ne hk]; exact hN k hk) (by rw [v2]; exact A2)
      exact this
  have key : ∀ (f : Nat) (i : Nat) (m : Int), 22 - (i : Int) < f → 1 ≤ m → m ≤ most → (∀ k : Nat, k < i → M (38 + z) (pth (M0 (28 + z)) (M (38 + z)) 21 k) ≠ -1) → (∀ k : Nat, k < i → m ≤ M0 (32 + z) (M (38 + z) (pth (M0 (28 + z)) (M (38 + z)) 21 k))) → lpX5_carry_13 z post f m (M (38 + z) (pth (M0 (28 + z)) (M (38 + z)) 21 i)) i M := by
    intro f
    induction f with
    | zero =>
      intro i m hf _ _ hl
      have := nodes i hl
      have := F.1 _ this.1 this.2.1
      omega
    | succ f ih =>
      intro i m hf m1 m2 hl hm
      have nd := nodes i hl
      have ndr := (F.1 _ nd.1 nd.2.1).2.2.2
      unfold lpX5_carry_13
      refine ⟨fun g => by omega, fun g => ⟨fun g1 => ?_, fun g1 => ?_⟩⟩
      · intro v hv
        rw [hv]
        refine ⟨23, ?_⟩
        refine key2 23 0 m M (by omega) m1 m2 (fun k hk => by omega) (fun k hk => ?_) (fun _ _ => rfl) ?_
        · by_cases c : k < i
          · exact hm k c
          · exact absurd g1 (hk i (by omega))
        · rw [r32]
          exact aug_start hπ (fun e e0 e1 => (hR e e0 e1).1) F (by omega) (by omega) ht (Int.le_refl _) (by omega)
      · rcases F.2.1 _ nd.1 nd.2.1 nd.2.2.1 with g2 | ⟨b1, b2, b3, b4, b5, b6, b7⟩
        · exact absurd g2.1 g1
        · obtain ⟨a1, a2, _⟩ := hA _ b1 b2
          rw [r28, r32]
          refine ⟨by omega, fun v hv => ⟨by omega, ⟨a1, a2⟩, fun w hw => ⟨by omega, ?_⟩⟩⟩
          rw [hw]
          exact ih (i + 1) v (by omega) (by omega) (by omega) (fun k hk => by
            by_cases c : k = i
            · rw [c]; exact g1
            · exact hl k (by omega)) (fun k hk => by
            by_cases c : k = i
            · rw [c]; omega
            · have := hm k (by omega); omega)
  intro v hv
  rw [hv]
  exact ⟨23, key 23 0 most (by omega) (by omega) (by omega) (fun k hk => by omega) (fun k hk => by omega)⟩
