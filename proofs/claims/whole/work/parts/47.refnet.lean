/-! the reference's network: arcs in rows 20 to 23, the search's rows 24 and 25 -/
def OffV (M M' : Mem) : Prop := ∀ k : Int, k ≠ 24 → k ≠ 25 → M' k = M k
def RS (M : Mem) : Prop := (0 ≤ M 0 24 ∧ M 0 24 ≤ 200) ∧ ArcOk 22 (M 0 24) 9000 (M 20) (M 21) (M 23) ∧ PrsOk (M 0 24) (M 20) (M 21) (M 23)
abbrev BfV (M : Mem) (π : Int → Int) (k j : Int) (M' : Mem) (s q : Int → Int) (t : Int) : Prop := BfI 22 (M 0 24) 9000 1000000000 (M 20) (M 21) (M 23) (M 22) π (fun x => x = 20) k j (M' 24) (M' 25) s q t
abbrev FinV (M : Mem) (π : Int → Int) (M' : Mem) (ra : Int → Int) : Prop := BfF 22 (M 0 24) 9000 1000000000 (M 20) (M 21) (M 23) (M 22) π (fun x => x = 20) (M' 24) (M' 25) ra
abbrev PotV (M : Mem) (π : Int → Int) : Prop := PotOk (M 0 24) (M 20) (M 21) (M 23) (M 22) π
theorem nw_round {k t : Int} {M0 M : Mem} {π s q : Int → Int} {post : Int → Mem → Prop} {K41 : Int → Mem → Prop} (hS : RS M0) (hπ : PotV M0 π) (hπ0 : ∀ x : Int, 0 ≤ x → x < 22 → 0 ≤ π x) (hk : 1 ≤ k) (hO : OffV M0 M) (H : BfV M0 π k 0 M s q t) (hq : ∀ x : Int, 0 ≤ x → x < 22 → q x < k)
    (h : ∀ (c : Int) (M' : Mem) (s q : Int → Int) (t : Int), OffV M0 M' → BfV M0 π k (M0 0 24) M' s q t → (c = 0 ∨ c = 1) → (c = 0 → ∀ x : Int, 0 ≤ x → x < 22 → q x < k) → (c = 1 → ∃ x : Int, 0 ≤ x ∧ x < 22 ∧ M' 24 x < 1000000000 ∧ q x = k) → K41 c M') : ∃ j, lpX9_hasNetWay_49 post K41 j 0 0 M := by
  obtain ⟨⟨n0, n1⟩, hA, hP⟩ := hS
  have key : ∀ (f : Nat) (c j : Int) (M : Mem) (s q : Int → Int) (t : Int), 0 ≤ j → j ≤ M0 0 24 → M0 0 24 - j < f → OffV M0 M → BfV M0 π k j M s q t → (c = 0 ∨ c = 1) → (c = 0 → ∀ x : Int, 0 ≤ x → x < 22 → q x < k) → (c = 1 → ∃ x : Int, 0 ≤ x ∧ x < 22 ∧ M 24 x < 1000000000 ∧ q x = k) → lpX9_hasNetWay_49 post K41 f c j M := by
    intro f
    induction f with
    | zero => intro c j M s q t _ _ g; omega
    | succ f ih =>
      intro c j M s q t j0 j1 hf hO H hc hc0 hc1
      unfold lpX9_hasNetWay_49 jbX9_hasNetWay_139
      have r0 : M 0 = M0 0 := hO _ (by omega) (by omega)
      have r20 : M 20 = M0 20 := hO _ (by omega) (by omega)
      have r21 : M 21 = M0 21 := hO _ (by omega) (by omega)
      have r22 : M 22 = M0 22 := hO _ (by omega) (by omega)
      have r23 : M 23 = M0 23 := hO _ (by omega) (by omega)
      rw [r0, r20, r21, r22, r23]
      refine ⟨fun g => ?_, fun g => ?_⟩
      · have e : j = M0 0 24 := by omega
        subst e
        exact h c M s q t hO H hc hc0 hc1
      · obtain ⟨a1, a2, a3, a4, a5, a6⟩ := hA j j0 (by omega)
        have skip : (0 < M0 22 j → M 24 (M0 20 j) < 1000000000 → M 24 (M0 21 j) ≤ M 24 (M0 20 j) + M0 23 j) → lpX9_hasNetWay_49 post K41 f c (j + 1) M := fun hh =>
          ih c (j + 1) M s q t (by omega) (by omega) (by omega) hO (bf_skip H hh) hc hc0 hc1
        refine ⟨by omega, ⟨a1, a2⟩, fun b hb => ⟨by omega, fun g1 => ⟨by omega, skip (fun q => by omega)⟩, fun g1 => ⟨fun g2 => ⟨by omega, skip (fun _ q => by omega)⟩, fun g2 => ?_⟩⟩⟩
        have lo := (H.1 (M0 20 j) a1 a2)
        have hb1 : M 24 (M0 20 j) < 1000000000 := by omega
        have bnd := (lo.2.1 hb1).2
        have cb := cn_le (n := 22) (by omega) (fun y => M 24 y < 1000000000)
        have low := (lo.2.1 hb1).1
        have low2 := hπ0 _ a1 a2
        refine ⟨by omega, by omega, ⟨a3, a4⟩, by omega, fun g3 => ⟨by omega, skip (fun _ _ => by omega)⟩, fun g3 => ⟨by omega, by omega, ⟨a3, a4⟩, fun M1 e1 => ?_⟩⟩
        have r21' : M1 21 = M0 21 := by rw [e1, row_ne (by omega), r21]
        rw [r21']
        refine ⟨by omega, ⟨a3, a4⟩, fun M2 e2 => ⟨by omega, ?_⟩⟩
        obtain ⟨hb2, hb3⟩ := bf_lower (by omega) (by omega) (by omega) hA hπ hk j0 (by omega) H (by omega) hb1 (by omega)
        have d2 : M2 24 = up (M 24) (M0 21 j) (M 24 (M0 20 j) + M0 23 j) := by
          rw [e2, row_ne (by omega), e1, row_up, hb]
        have l2 : M2 25 = up (M 25) (M0 21 j) j := by
          rw [e2, row_up, e1, row_ne (by omega)]
        rw [← d2, ← l2] at hb2
        refine ih 1 (j + 1) M2 _ _ _ (by omega) (by omega) (by omega) (fun k p1 p2 => by rw [e2, row_ne p2, e1, row_ne p1]; exact hO k p1 p2) hb2 (Or.inr rfl) (fun q => by omega) (fun _ => ⟨M0 21 j, a3, a4, by rw [d2, up_s]; exact hb3, up_s _ _ _⟩)
  exact ⟨201, key 201 0 0 M s q t (by omega) (by omega) (by omega) hO H (Or.inl rfl) (fun _ => hq) (fun q => by omega)⟩
theorem X9_hasNetWay {M : Mem} {π : Int → Int} {post : Int → Mem → Prop} (hS : RS M) (hπ : PotV M π) (hπ0 : ∀ x : Int, 0 ≤ x → x < 22 → 0 ≤ π x) (hπs : π 20 = 0)
    (h : ∀ (c : Int) (M' : Mem) (ra : Int → Int), OffV M M' → FinV M π M' ra → (c = 0 ∨ c = 1) → (c = 1 → M' 24 21 < 1000000000) → (c = 0 → 1000000000 ≤ M' 24 21) → post c M') : wpX9_hasNetWay M post := by
  have hA := hS.2.1
  have rounds : ∀ (f : Nat) (k : Int) (N : Mem) (s q : Int → Int) (t : Int), 1 ≤ k → 24 - k < f → OffV M N → BfV M π k 0 N s q t → (∀ x : Int, 0 ≤ x → x < 22 → q x < k) → (2 ≤ k → ∃ x : Int, 0 ≤ x ∧ x < 22 ∧ N 24 x < 1000000000 ∧ q x = k - 1) → lpX9_hasNetWay_41 post f 1 N := by
    intro f
    induction f with
    | zero =>
      intro k N s q t k1 hf hO H hq hx
      obtain ⟨x, x0, x1, x2, x3⟩ := hx (by omega)
      have := bf_q2 hA hπ H x0 x1 x2
      omega
    | succ f ih =>
      intro k N s q t k1 hf hO H hq hx
      have hk22 : k ≤ 22 := by
        by_cases c : 2 ≤ k
        · obtain ⟨x, x0, x1, x2, x3⟩ := hx c
          have := bf_q2 hA hπ H x0 x1 x2
          omega
        · omega
      unfold lpX9_hasNetWay_41
      refine ⟨fun q => by omega, fun _ => ?_⟩
      refine nw_round hS hπ hπ0 k1 hO H hq (fun c N2 s2 q2 t2 hO2 H2 hc hc0 hc1 => ?_)
      rcases hc with c1 | c1
      · subst c1
        obtain ⟨ra, F⟩ := bf_end (by omega) (by omega) (by omega) hA hπ H2 (fun y y0 y1 _ => hc0 rfl y y0 y1)
        cases f with
        | zero => omega
        | succ f =>
          show lpX9_hasNetWay_41 post (f + 1) 0 N2
          unfold lpX9_hasNetWay_41 jbX9_hasNetWay_165
          refine ⟨fun _ => ⟨fun g => ⟨Or.inl rfl, h 0 N2 ra hO2 F (Or.inl rfl) (fun q => by omega) (fun _ => g)⟩, fun g => ⟨Or.inr rfl, h 1 N2 ra hO2 F (Or.inr rfl) (fun _ => by omega) (fun q => by omega)⟩⟩, fun q => absurd rfl q⟩
      · subst c1
        refine ih (k + 1) N2 s2 q2 t2 (by omega) (by omega) hO2 (bf_round H2) (fun y y0 y1 => ?_) (fun _ => ?_)
        · have := (H2.1 y y0 y1).2.2.2.2.1
          omega
        · obtain ⟨x, x0, x1, x2, x3⟩ := hc1 rfl
          exact ⟨x, x0, x1, x2, by omega⟩
  have key : ∀ (f : Nat) (x : Int) (N : Mem), 0 ≤ x → x ≤ 22 → 22 - x < f → OffV M N → (∀ u : Int, 0 ≤ u → u < x → N 24 u = (if u = 20 then 0 else 1000000000) ∧ N 25 u = -1) → lpX9_hasNetWay_2 post f x N := by
    intro f
    induction f with
    | zero => intro x N _ _ g; omega
    | succ f ih =>
      intro x N x0 x1 hf hO hI
      unfold lpX9_hasNetWay_2 jbX9_hasNetWay_25
      have nxt : ∀ (t : Int) (N1 N2 : Mem), x < 22 → t = (if x = 20 then 0 else 1000000000) → N1 = mset N 24 x t → N2 = mset N1 25 x (-1) → lpX9_hasNetWay_2 post f (x + 1) N2 := fun t N1 N2 hx ht a1 a2 => by
        refine ih (x + 1) N2 (by omega) (by omega) (by omega) (fun k p1 p2 => by rw [a2, row_ne p2, a1, row_ne p1]; exact hO k p1 p2) (fun u u0 u1 => ?_)
        by_cases c : u = x
        · subst c
          exact ⟨by rw [a2, mset_r (by omega), a1, mset_s, ht], by rw [a2, mset_s]⟩
        · obtain ⟨g1, g2⟩ := hI u u0 (by omega)
          exact ⟨by rw [a2, mset_r (by omega), a1, mset_i c]; exact g1, by rw [a2, mset_i c, a1, mset_r (by omega)]; exact g2⟩
      refine ⟨fun g => ?_, fun g => ⟨fun g1 => ⟨by omega, fun N1 a1 => ⟨by omega, fun N2 a2 => ⟨by omega, nxt _ N1 N2 (by omega) (by rw [if_neg g1]) a1 a2⟩⟩⟩, fun g1 => ⟨by omega, fun N1 a1 => ⟨by omega, fun N2 a2 => ⟨by omega, nxt _ N1 N2 (by omega) (by rw [if_pos g1]) a1 a2⟩⟩⟩⟩⟩
      have e : x = 22 := by omega
      subst e
      refine ⟨25, rounds 25 1 N (fun _ => 0) (fun _ => 0) 1 (by omega) (by omega) hO (bf_start (by omega) (by omega) (fun y y0 y1 => ?_)) (fun _ _ _ => by show (0 : Int) < 1; omega) (fun q => by omega)⟩
      obtain ⟨g1, g2⟩ := hI y y0 y1
      exact ⟨fun r => ⟨by rw [g1, if_pos r], by rw [r, hπs]; exact Int.le_refl _⟩, fun r => by rw [g1, if_neg r], fun _ => g2⟩
  exact ⟨23, key 23 0 M (by omega) (by omega) (by omega) (fun _ _ _ => rfl) (fun u _ _ => by omega)⟩
theorem bff_root {J N B K : Int} {T Q P R π : Int → Int} {root : Int → Prop} {d la ra : Int → Int} (hA : ArcOk J N B T Q P) (F : BfF J N B K T Q P R π root d la ra) : ∀ (m : Nat) (x : Int), 0 ≤ x → x < J → d x < K → ra x < m → ∃ y : Int, la y = -1 ∧ root y ∧ d y = 0 := by
  intro m
  induction m with
  | zero => intro x x0 x1 _ h; have := (F.1 x x0 x1).2.2.2; omega
  | succ m ih =>
    intro x x0 x1 hx hm
    rcases F.2.1 x x0 x1 hx with g | ⟨g1, g2, g3, g4, g5, g6, g7⟩
    · exact ⟨x, g⟩
    · obtain ⟨a1, a2, _⟩ := hA (la x) g1 g2
      exact ih (T (la x)) a1 a2 g5 (by omega)
/-- goods along the way -/
theorem X9_goNet {M0 M : Mem} {π ra : Int → Int} {post : Int → Mem → Prop} (hS : RS M0) (hπ : PotV M0 π) (hR : ∀ e : Int, 0 ≤ e → e < M0 0 24 → 0 ≤ M0 22 e ∧ M0 22 e + M0 22 (pr1 e) ≤ 1000000000) (hO : OffV M0 M) (F : FinV M0 π M ra) (hπs : π 20 = 0) (ht : M 24 21 < 1000000000)
    (h : ∀ (m : Int) (M' : Mem), 1 ≤ m → m ≤ 1000000000 → (∀ k : Int, k ≠ 22 → M' k = M k) → AugI 22 (M0 0 24) 1000000000 (M0 20) (M0 21) (M0 23) (M0 22) π (M 24) (M 25) ra 21 (M 24 21 - π 21) m 20 (M' 22) → post m M') : wpX9_goNet M post := by
  obtain ⟨⟨n0, n1⟩, hA, hP⟩ := hS
  have r20 : M 20 = M0 20 := hO _ (by omega) (by omega)
  have r22 : M 22 = M0 22 := hO _ (by omega) (by omega)
  have nodes := pth_in hA F (t := 21) (by omega) (by omega) ht
  have rb := (F.1 21 (by omega) (by omega)).2.2.2
  have d20 : M 24 20 = 0 := by
    have q20 := F.1 20 (by omega) (by omega)
    have h1 := q20.2.2.1 rfl
    have h2 := q20.2.1 (by omega)
    omega
  -- a node is the source, or has an arc
  have stop : ∀ x : Int, 0 ≤ x → x < 22 → M 24 x < 1000000000 → (x = 20 ∧ M 25 x = -1) ∨ (x ≠ 20 ∧ M 25 x ≠ -1) := fun x x0 x1 hx => by
    by_cases e : x = 20
    · left
      refine ⟨e, ?_⟩
      obtain ⟨y, y1, y2, y3⟩ := bff_root hA F 22 x x0 x1 hx (F.1 x x0 x1).2.2.2.2
      rw [e, ← y2]
      exact y1
    · right
      refine ⟨e, ?_⟩
      rcases F.2.1 x x0 x1 hx with g | g
      · exact absurd g.2.1 e
      · omega
  have key2 : ∀ (f : Nat) (i : Nat) (m : Int) (N : Mem), 22 - (i : Int) < f → 1 ≤ m → m ≤ 1000000000 → (∀ k : Nat, k < i → M 25 (pth (M0 20) (M 25) 21 k) ≠ -1) → (∀ k : Nat, (∀ k' : Nat, k' ≤ k → M 25 (pth (M0 20) (M 25) 21 k') ≠ -1) → m ≤ M0 22 (M 25 (pth (M0 20) (M 25) 21 k))) → (∀ k : Int, k ≠ 22 → N k = M k) → AugI 22 (M0 0 24) 1000000000 (M0 20) (M0 21) (M0 23) (M0 22) π (M 24) (M 25) ra 21 (M 24 21 - π 21) m (pth (M0 20) (M 25) 21 i) (N 22) → lpX9_goNet_61 post f m (pth (M0 20) (M 25) 21 i) N := by
    intro f
    induction f with
    | zero =>
      intro i m N hf _ _ hl
      have := nodes i hl
      have := F.1 _ this.1 this.2.1
      omega
    | succ f ih =>
      intro i m N hf m1 m2 hl hm hN A
      have nd := nodes i hl
      unfold lpX9_goNet_61 jbX9_goNet_103
      have s20 : N 20 = M0 20 := by rw [hN _ (by omega), r20]
      have s25 : N 25 = M 25 := hN _ (by omega)
      rw [s25]
      refine ⟨fun g => ?_, fun g => ?_⟩
      · rw [g] at A
        exact h m N m1 m2 hN A
      · rcases stop _ nd.1 nd.2.1 nd.2.2.1 with g1 | ⟨_, g1⟩
        · exact absurd g1.1 g
        · have hmi := hm i (fun k' hk' => by
            by_cases c : k' = i
            · rw [c]; exact g1
            · exact hl k' (by omega))
          obtain ⟨A2, b1, b2, b3, b4⟩ := aug_step hA hP hπ F (by omega) A g1 hmi
          have c1 := hR _ b1 b2
          have c2 := (A.2.1 _ b1 b2)
          obtain ⟨p0, p1⟩ := pr1_in b1 b2 hP.1
          have c3 := (A.2.1 _ p0 p1).1
          obtain ⟨a1, a2, _⟩ := hA _ b1 b2
          have last : ∀ (t0 : Int) (N1 N2 : Mem), t0 = pr1 (M 25 (pth (M0 20) (M 25) 21 i)) → N1 = mset N 22 (M 25 (pth (M0 20) (M 25) 21 i)) (N 22 (M 25 (pth (M0 20) (M 25) 21 i)) - m) → N2 = mset N1 22 t0 (N1 22 t0 + m) → N1 22 t0 = N 22 (pr1 (M 25 (pth (M0 20) (M 25) 21 i))) ∧ N2 25 = M 25 ∧ N2 20 = M0 20 ∧ lpX9_goNet_61 post f m (M0 20 (M 25 (pth (M0 20) (M 25) 21 i))) N2 := fun t0 N1 N2 et e1 e2 => by
            subst et
            have v2 : N2 22 = mv (N 22) (M 25 (pth (M0 20) (M 25) 21 i)) m := by
              rw [e2, row_up, e1, row_up]
              funext a
              unfold up mv
              by_cases ca : a = pr1 (M 25 (pth (M0 20) (M 25) 21 i))
              · rw [if_pos ca, if_pos ca, if_neg (pr1_ne _), ca]
              · rw [if_neg ca, if_neg ca]
                by_cases cb : a = M 25 (pth (M0 20) (M 25) 21 i)
                · rw [if_pos cb, if_pos cb, cb]
                · rw [if_neg cb, if_neg cb]
            refine ⟨by rw [e1, mset_i (pr1_ne _)], by rw [e2, row_ne (by omega), e1, row_ne (by omega), s25], by rw [e2, row_ne (by omega), e1, row_ne (by omega), s20], ?_⟩
            exact ih (i + 1) m N2 (by omega) m1 m2 (fun k hk => by
              by_cases c : k = i
              · rw [c]; exact g1
              · exact hl k (by omega)) hm (fun k hk => by rw [e2, row_ne hk, e1, row_ne hk]; exact hN k hk) (by rw [v2]; exact A2)
          refine ⟨by omega, fun v hv => ?_⟩
          subst hv
          refine ⟨by omega, by omega, by omega, fun N1 e1 => ⟨b1, by omega, fun g2 => ?_, fun g2 => ?_⟩⟩
          · have et : M 25 (pth (M0 20) (M 25) 21 i) - 1 = pr1 (M 25 (pth (M0 20) (M 25) 21 i)) := by unfold pr1; rw [if_neg g2]
            have q1 := (last _ N1 _ et e1 rfl).1
            rw [← et] at c1 c3 p0 p1 c2
            rw [← et] at q1
            refine ⟨by omega, by omega, by omega, by rw [q1]; omega, fun N2 e2 => ?_⟩
            obtain ⟨_, q2, q3, q4⟩ := last _ N1 N2 et e1 e2
            rw [q2, q3]
            exact ⟨by omega, by omega, fun w hw => by rw [hw]; exact q4⟩
          · have et : M 25 (pth (M0 20) (M 25) 21 i) + 1 = pr1 (M 25 (pth (M0 20) (M 25) 21 i)) := by unfold pr1; rw [if_pos g2]
            have q1 := (last _ N1 _ et e1 rfl).1
            rw [← et] at c1 c3 p0 p1 c2
            rw [← et] at q1
            refine ⟨by omega, by omega, by omega, by rw [q1]; omega, fun N2 e2 => ?_⟩
            obtain ⟨_, q2, q3, q4⟩ := last _ N1 N2 et e1 e2
            rw [q2, q3]
            exact ⟨by omega, by omega, fun w hw => by rw [hw]; exact q4⟩
  have key : ∀ (f : Nat) (i : Nat) (m : Int), 22 - (i : Int) < f → 1 ≤ m → m ≤ 1000000000 → (∀ k : Nat, k < i → M 25 (pth (M0 20) (M 25) 21 k) ≠ -1) → (∀ k : Nat, k < i → m ≤ M0 22 (M 25 (pth (M0 20) (M 25) 21 k))) → lpX9_goNet_6 post f m (pth (M0 20) (M 25) 21 i) M := by
    intro f
    induction f with
    | zero =>
      intro i m hf _ _ hl
      have := nodes i hl
      have := F.1 _ this.1 this.2.1
      omega
    | succ f ih =>
      intro i m hf m1 m2 hl hm
      have nd := nodes i hl
      unfold lpX9_goNet_6 jbX9_goNet_42
      rw [r20, r22]
      refine ⟨fun g => ?_, fun g => ?_⟩
      · have gl : M 25 (pth (M0 20) (M 25) 21 i) = -1 := by
          rcases stop _ nd.1 nd.2.1 nd.2.2.1 with g1 | g1
          · exact g1.2
          · exact absurd g g1.1
        refine ⟨23, ?_⟩
        refine key2 23 0 m M (by omega) m1 m2 (fun k hk => by omega) (fun k hk => ?_) (fun _ _ => rfl) ?_
        · by_cases c : k < i
          · exact hm k c
          · exact absurd gl (hk i (by omega))
        · rw [r22]
          exact aug_start hπ (fun e e0 e1 => (hR e e0 e1).1) F (by omega) (by omega) ht (Int.le_refl _) (by omega)
      · rcases stop _ nd.1 nd.2.1 nd.2.2.1 with g1 | ⟨_, g1⟩
        · exact absurd g1.1 g
        · rcases F.2.1 _ nd.1 nd.2.1 nd.2.2.1 with g2 | ⟨b1, b2, b3, b4, b5, b6, b7⟩
          · exact absurd g2.1 g1
          · have nxt : ∀ m' : Int, 1 ≤ m' → m' ≤ m → m' ≤ M0 22 (M 25 (pth (M0 20) (M 25) 21 i)) → lpX9_goNet_6 post f m' (M0 20 (M 25 (pth (M0 20) (M 25) 21 i))) M := fun m' z1 z2 z3 => ih (i + 1) m' (by omega) z1 (by omega) (fun k hk => by
              by_cases c : k = i
              · rw [c]; exact g1
              · exact hl k (by omega)) (fun k hk => by
              by_cases c : k = i
              · rw [c]; exact z3
              · have := hm k (by omega); omega)
            exact ⟨by omega, by omega, fun g3 => ⟨by omega, by omega, fun w hw => by rw [hw]; exact nxt m m1 (Int.le_refl _) g3⟩, fun g3 => ⟨by omega, by omega, by omega, by omega, fun w hw => by rw [hw]; exact nxt _ (by omega) (by omega) (Int.le_refl _)⟩⟩
  exact ⟨23, key 23 0 1000000000 (by omega) (by omega) (by omega) (fun k hk => by omega) (fun k hk => by omega)⟩
