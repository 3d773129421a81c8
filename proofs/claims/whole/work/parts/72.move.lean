/-! the calls that move: costs -/
theorem som_dir {n : Int} {δ ε : Int → Int → Int} {α β : Int → Int} {m c : Int} (h : ∀ u v : Int, 0 ≤ u → u < n → 0 ≤ v → v < n → δ u v = ε u v) (H : Som n δ α β m c) : Som n ε α β m c := by
  have e : ∀ G : Int → Int → Int, cst n ε G = cst n δ G := fun G => su_congr (fun u a b => su_congr (fun v c d => by rw [h u v a b c d]))
  obtain ⟨⟨G, g1, g2⟩, h2⟩ := H
  exact ⟨⟨G, g1, by rw [e]; exact g2⟩, fun A hA => by rw [e]; exact h2 A hA⟩
theorem offB_qx {M M' : Mem} (h : OffB M M') : Qx M M' := fun k i q => by rw [h k (by omega) (by omega) (by omega) (by omega) (by omega) (by omega) (by omega)]
theorem amt_X {X : Mem} (B : BsX X) {a b : Int} (ha : 0 ≤ a ∧ a < 8) (hb : 0 ≤ b ∧ b < 8) : ∀ v : Int, 0 ≤ v → v < X 1 0 → (0 ≤ X (80 + a) v ∧ X (80 + a) v ≤ 1000) ∧ 0 ≤ X (80 + b) v ∧ X (80 + b) v ≤ 1000 := fun v p q => by
  have w := bsx_wf B
  have h1 := w.2.2.2.2.1 a v ha.1 ha.2 p (by omega)
  have h2 := w.2.2.2.2.1 b v hb.1 hb.2 p (by omega)
  omega
theorem hsu_X {X : Mem} (B : BsX X) {a : Int} (ha : 0 ≤ a ∧ a < 8) : 0 ≤ su (X 1 0) (X (80 + a)) ∧ su (X 1 0) (X (80 + a)) ≤ 10000 := by
  have w := bsx_wf B
  have := su_bnd (n := X 1 0) (B := 1000) (f := X (80 + a)) w.1.1 (fun v p q => (amt_X B ha ha v p q).1)
  omega
theorem ls_X {a b m : Int} {X : Mem} {post : Int → Mem → Prop} (B : BsX X) (J : JnX X) (ha : 0 ≤ a ∧ a < 8) (hb : 0 ≤ b ∧ b < 8) (m0 : 0 ≤ m) (ma : m ≤ su (X 1 0) (X (80 + a))) (mb : m ≤ su (X 1 0) (X (80 + b))) (h : ∀ (c : Int) (X' : Mem), OffB X X' → Som (X 1 0) (dX X) (X (80 + a)) (X (80 + b)) m c → post c X') : wpX4_cheapest (80 + a) (80 + b) m X post := by
  have w := bsx_wf B
  have T := jn_mtr B J
  have e : ∀ u v : Int, 0 ≤ u → u < X 1 0 → 0 ≤ v → v < X 1 0 → X (50 + u) v = dX X u v := fun u v a b _ _ => dX_in (by omega)
  have hα := amt_X B ha hb
  have s := hsu_X B ha
  refine X4_cheapest (by omega) (by omega) w.1 rfl hα (fun u v a b c d => by rw [e u v a b c d]; exact T.2.1 u v a b c d) ⟨m0, by omega⟩ (fun X' π js jm jt hO F h1 h2 => h _ X' hO ?_)
  have T2 : Mtr (X 1 0) (fun u v => X (50 + u) v) := ⟨fun u a b => by show X (50 + u) u = 0; rw [e u u a b a b]; exact T.1 u a b, fun u v a b c d => by show 0 ≤ X (50 + u) v ∧ X (50 + u) v ≤ 9000; rw [e u v a b c d]; exact T.2.1 u v a b c d, fun u x v a b c d p q => by show X (50 + u) v ≤ X (50 + u) x + X (50 + x) v; rw [e u v a b p q, e u x a b c d, e x v c d p q]; exact T.2.2 u x v a b c d p q⟩
  have S := mov_som w.1.2 T2 hα F
  have A := mov_all w.1.2 hα ma mb F h2
  refine som_dir e ?_
  have mn0 : 0 ≤ su (X 1 0) (fun v => min (X (80 + a) v) (X (80 + b) v)) := su_nonneg (fun v p q => by have := hα v p q; show 0 ≤ min _ _; omega)
  rcases h1 with q | q
  · rw [show X' (8 + 0) 1 + su (X 1 0) (fun v => min (X (80 + a) v) (X (80 + b) v)) = m by omega] at S
    exact S
  · rw [q, Int.zero_add] at S
    have z := som_one S (som_stay w.1.1 T2 hα mn0 (Int.le_refl _))
    rw [z]
    exact som_stay w.1.1 T2 hα m0 (by omega)
theorem offQ_kr {M M' : Mem} (h : OffQ M M') : Kr M M' := ⟨fun k i a b => by rw [h k (by omega) (by omega) (by omega) (by omega) (by omega)], fun i _ => by rw [h 0 (by omega) (by omega) (by omega) (by omega) (by omega)]⟩
theorem ls_R {a b m : Int} {X M : Mem} {post : Int → Mem → Prop} (B : BsX X) (J : JnX X) (R : BsR X M) (hE : ∀ u v : Int, 0 ≤ u → u < X 1 0 → 0 ≤ v → v < X 1 0 → M 10 (10 * u + v) = dX X u v) (ha : 0 ≤ a ∧ a < 8) (hb : 0 ≤ b ∧ b < 8) (m0 : 0 ≤ m) (ma : m ≤ su (X 1 0) (X (80 + a))) (mb : m ≤ su (X 1 0) (X (80 + b))) (h : ∀ (c : Int) (M' : Mem), OffQ M M' → Som (X 1 0) (dX X) (X (80 + a)) (X (80 + b)) m c → post c M') : wpX9_solve a b m M post := by
  have w := bsx_wf B
  have T := jn_mtr B J
  refine X9_solve w.1 R.1.1 ha hb (amt_X B ha hb) (fun v p q => ⟨R.2.2.1 a v ha.1 ha.2 p (by omega), R.2.2.1 b v hb.1 hb.2 p (by omega)⟩) (fun u v a b c d => by rw [hE u v a b c d]; exact T.2.1 u v a b c d) m0 ma mb (fun M' π l hO S hs => h _ M' hO ?_)
  have r10 : M' 10 = M 10 := hO 10 (by omega) (by omega) (by omega) (by omega) (by omega)
  have := sol_som w.1 S hs
  rw [r10] at this
  exact som_dir hE this
theorem s_least : St_least Inv := by
  intro a b X M _ _ I
  obtain ⟨B, R, P, Q⟩ := id I
  have w := bsx_wf B
  unfold wpX8_least jbX8_least_21
  refine X8_refusal B (fun q => ⟨fun _ => ?_, fun c => absurd c (by decide)⟩) (fun pa pb q => ⟨fun _ => ?_, fun c => absurd c (by decide)⟩) (fun pa pb J hs => ⟨fun c => absurd rfl c, fun _ => ?_⟩)
  · unfold wpX9_least jbX9_least_26
    exact X9_ref2 B R q ⟨fun c => absurd c (by decide), fun _ => ⟨rfl, I⟩⟩
  · unfold wpX9_least jbX9_least_26
    exact X9_ref4 B R pa pb q (fun M' hO => ⟨fun c => absurd c (by decide), fun _ => ⟨rfl, inv_q I (Qx_refl X) (offT_kr hO)⟩⟩)
  · have ha : 0 ≤ a ∧ a < 8 := by unfold hpX at pa; omega
    have hb : 0 ≤ b ∧ b < 8 := by unfold hpX at pb; omega
    have s0 := hsu_X B ha
    have hs' : su (X 1 0) (X (80 + a)) = su (X 1 0) (X (80 + b)) := hs
    unfold wpX8_leastCost
    refine ⟨ha, hb, tot_X B ha (ls_X B J ha hb s0.1 (by omega) (by omega) (fun c X' hO S => ?_))⟩
    unfold wpX9_least jbX9_least_26
    refine X9_ref0 B R pa pb J hs (fun M' hO' R' hE E => ⟨fun _ => ?_, fun c => absurd rfl c⟩)
    refine tot_R B R' ha (ls_R B J R' hE ha hb s0.1 (by omega) (by omega) (fun e M2 hO2 S2 => ⟨som_one S S2, inv_q I (offB_qx hO) (Kr_trans (offT_kr hO') (offQ_kr hO2))⟩))
theorem s_some : St_some Inv := by
  intro a b m X M _ _ _ I
  obtain ⟨B, R, P, Q⟩ := id I
  have w := bsx_wf B
  unfold wpX8_some jbX8_some_22 jbX8_some_52
  have bad : ¬ (hpX X a ∧ hpX X b) → wpX9_some a b m M (fun r1 MR1 => -2 = r1 ∧ Inv X MR1) := fun q => by
    unfold wpX9_some jbX9_some_16
    refine hp_R B R (fun p0 p1 => ⟨fun c => by omega, fun _ => ?_⟩) (fun _ => ⟨fun _ => ⟨rfl, I⟩, fun c => absurd rfl c⟩)
    exact hp_R B R (fun q0 q1 => absurd ⟨⟨p0, p1⟩, q0, q1⟩ q) (fun _ => ⟨fun c => absurd rfl c, fun _ => ⟨rfl, I⟩⟩)
  refine X2_has (fun p0 p1 => ⟨fun c => by omega, fun _ => ?_⟩) (fun q => ⟨fun _ => bad (fun c => q c.1), fun c => absurd rfl c⟩)
  refine X2_has (fun q0 q1 => ⟨fun _ => ?_, fun c => by omega⟩) (fun q => ⟨fun c => absurd rfl c, fun _ => bad (fun c => q c.2)⟩)
  have ha : 0 ≤ a ∧ a < 8 := by omega
  have hb : 0 ≤ b ∧ b < 8 := by omega
  have sa := hsu_X B ha
  have sb := hsu_X B hb
  have ref : ∀ t : Int, ∀ X' : Mem, Qx X X' → (¬ (0 ≤ m ∧ m ≤ su (X 1 0) (X (80 + a)) ∧ m ≤ su (X 1 0) (X (80 + b))) → t = -3) → ((0 ≤ m ∧ m ≤ su (X 1 0) (X (80 + a)) ∧ m ≤ su (X 1 0) (X (80 + b))) → ¬ JnX X → t = -4) → ((0 ≤ m ∧ m ≤ su (X 1 0) (X (80 + a)) ∧ m ≤ su (X 1 0) (X (80 + b))) → JnX X → Som (X 1 0) (dX X) (X (80 + a)) (X (80 + b)) m t) → wpX9_some a b m M (fun r1 MR1 => t = r1 ∧ Inv X' MR1) := fun t X' hX t3 t4 t0 => by
    unfold wpX9_some
    refine hp_R B R (fun _ _ => ⟨fun c => by omega, fun _ => ?_⟩) (fun c => absurd ⟨p0, p1⟩ c)
    refine hp_R B R (fun _ _ => ⟨fun _ => ?_, fun c => by omega⟩) (fun c => absurd ⟨q0, q1⟩ c)
    have go : ∀ l : Int, (m ≤ l ↔ m ≤ su (X 1 0) (X (80 + a)) ∧ m ≤ su (X 1 0) (X (80 + b))) → jbX9_some_49 (fun r1 MR1 => t = r1 ∧ Inv X' MR1) a b m l 0 m M := fun l hl => by
      unfold jbX9_some_49 jbX9_some_77
      refine X9_in (fun c1 c2 => ⟨fun _ => ?_, fun c => by omega⟩) (fun c => ⟨fun c2 => absurd rfl c2, fun _ => ⟨t3 (fun d => c ⟨d.1, hl.mpr d.2⟩), inv_q I hX (Kr_refl M)⟩⟩)
      have hm := hl.mp c2
      exact jn_R B R (fun M' hO J hE _ => ⟨fun c => by omega, fun _ => ls_R B J (offT_bsr B R hO) hE ha hb c1 hm.1 hm.2 (fun e M2 hO2 S2 => ⟨som_one (t0 ⟨c1, hm⟩ J) S2, inv_q I hX (Kr_trans (offT_kr hO) (offQ_kr hO2))⟩)⟩) (fun M' hO J => ⟨fun _ => ⟨t4 ⟨c1, hm⟩ J, inv_q I hX (offT_kr hO)⟩, fun c => absurd rfl c⟩)
    refine tot_R B R ha (tot_R B R hb ⟨fun c => go _ ⟨fun d => ⟨by omega, d⟩, fun d => d.2⟩, fun c => go _ ⟨fun d => ⟨d, by omega⟩, fun d => d.1⟩⟩)
  refine ⟨fun c => ref (-3) X (Qx_refl X) (fun _ => rfl) (fun d => by omega) (fun d => by omega), fun c => ?_⟩
  refine tot_X B ha (tot_X B hb ⟨fun c2 => ?_, fun c2 => ref (-3) X (Qx_refl X) (fun _ => rfl) (fun d => by omega) (fun d => by omega)⟩)
  refine jn_X B (fun J => ⟨fun _ => ⟨ha, hb, ?_⟩, fun c => by omega⟩) (fun J => ⟨fun c => absurd rfl c, fun _ => ref (-4) X (Qx_refl X) (fun d => by omega) (fun _ _ => rfl) (fun _ d => absurd d J)⟩)
  exact ls_X B J ha hb (by omega) (by omega) (by omega) (fun c X' hO S => ref c X' (offB_qx hO) (fun d => by omega) (fun _ d => absurd J d) (fun _ _ => S))
theorem offA_kr {M M' : Mem} (h : OffA M M') : Kr M M' := ⟨fun k i a b => by rw [h.1 k (by omega) (by omega)], fun i q => h.2 i (by omega)⟩
theorem s_gated : St_gated Inv := by
  intro a b X M _ _ I
  obtain ⟨B, R, P, Q⟩ := id I
  have w := bsx_wf B
  unfold wpX8_gated
  refine X8_refusal B (fun q => ⟨fun c => absurd c (by decide), fun _ => ?_⟩) (fun pa pb q => ⟨fun c => absurd c (by decide), fun _ => ?_⟩) (fun pa pb J hs => ⟨fun _ => ?_, fun c => absurd rfl c⟩)
  · unfold wpX9_gated
    exact X9_ref2 B R q ⟨fun c => absurd c (by decide), fun _ => ⟨rfl, I⟩⟩
  · unfold wpX9_gated
    exact X9_ref4 B R pa pb q (fun M' hO => ⟨fun c => absurd c (by decide), fun _ => ⟨rfl, inv_q I (Qx_refl X) (offT_kr hO)⟩⟩)
  · have ha : 0 ≤ a ∧ a < 8 := by unfold hpX at pa; omega
    have hb : 0 ≤ b ∧ b < 8 := by unfold hpX at pb; omega
    have hα := amt_X B ha hb
    have hR := w.2.2.2.1
    have eD := B.2.2.2.2.1
    refine ⟨ha, hb, X4_gates (by omega) (by omega) w.1 rfl hα (fun v p q => by have := w.2.2.2.2.2 v p (by omega); omega) (fun u v p q c d => ?_) (fun u p q => ?_) (fun X' π js jg jr jt hO F h1 h2 => ?_)⟩
    · rw [eD u v p q c d]
      exact ⟨dr_pos (by omega) hR u v, fun z => ((dr_two (J := 1000000) (by omega) (by omega) hR u v).2 z).2⟩
    · rw [eD u u p q p q]; exact dr_self hR u
    · have G := movg_gat w.1 hα (fun v p q => by have := w.2.2.2.2.2 v p (by omega); omega) hs F h1 h2
      unfold wpX9_gated
      refine X9_ref0 B R pa pb J hs (fun M' hO' R' hE E => ⟨fun _ M2 e2 => ?_, fun c => absurd rfl c⟩)
      have z2 : ∀ k i : Int, (k = 0 → i ≠ 24) → M2 k i = M' k i := fun k i q => by
        rw [e2]
        by_cases z : k = 0
        · exact mset_i (q z)
        · exact mset_r z
      have k2 : Kr M' M2 := ⟨fun k i p q => z2 k i (by omega), fun i q => z2 0 i (by omega)⟩
      have R2 : BsR X M2 := kx_bsr (Qx_kx (Qx_refl X)) k2 w.2.1.1 R'
      have hB : ∀ v : Int, 0 ≤ v → v < X 1 0 → -1 ≤ X 18 v ∧ X 18 v ≤ 100000 := fun v p q => by have := w.2.2.2.2.2 v p (by omega); omega
      refine rg_build (α := X (80 + a)) (β := X (80 + b)) (B := X 18) (U := X 15) (V := X 16) (L := X 17) w.1 w.2.1 ha hb R2.1.1 R2.1.2.1 (by rw [e2, mset_s]) hα (fun v p q => ⟨R2.2.2.1 a v ha.1 ha.2 p (by omega), R2.2.2.1 b v hb.1 hb.2 p (by omega)⟩) (fun v p q => ⟨R2.2.2.2.1 v p (by omega), hB v p q⟩) R2.2.1 hR (fun M3 jg je j1 j2 hO3 hS hD GG => ?_)
      refine rg_loop w.1 w.2.1 hR hα hB hs (fun c M4 hO4 G4 => ⟨?_, inv_q I (offB_qx hO) (Kr_trans (offT_kr hO') (Kr_trans k2 (offA_kr hO4)))⟩) hO3 hS hD GG
      refine gat_one (fun u v p q c d => ?_) G G4
      show (X (40 + u) v < 1000000 ↔ _) ∧ (X (40 + u) v < 1000000 → X (40 + u) v = _)
      rw [eD u v p q c d]
      have z := dr_two (K := 1000000) (J := 1000000000) (by omega) (by omega) hR u v
      exact ⟨z.1, fun y => (z.2 y).1⟩
