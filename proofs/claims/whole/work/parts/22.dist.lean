/-! the shortest single road; distances -/
def rdir (K : Int) (U V L : Int → Int) : Nat → Int → Int → Int
  | 0, _, _ => K
  | i + 1, u, w => if (U i = u ∧ V i = w) ∨ (U i = w ∧ V i = u) then min (rdir K U V L i u w) (L i) else rdir K U V L i u w
theorem rdir_sym (K : Int) (U V L : Int → Int) (i : Nat) (u w : Int) : rdir K U V L i u w = rdir K U V L i w u := by
  induction i with
  | zero => rfl
  | succ i ih =>
    unfold rdir
    rw [ih]
    by_cases h : (U i = u ∧ V i = w) ∨ (U i = w ∧ V i = u)
    · rw [if_pos h, if_pos h.symm]
    · rw [if_neg h, if_neg (fun q => h q.symm)]
theorem rdir_le (K : Int) (U V L : Int → Int) (i : Nat) (u w : Int) : rdir K U V L i u w ≤ K := by
  induction i with
  | zero => exact Int.le_refl _
  | succ i ih => unfold rdir; split <;> omega
theorem rdir_pos {K : Int} {U V L : Int → Int} {i : Nat} (hK : 1 ≤ K) (h : ∀ j : Int, 0 ≤ j → j < i → 1 ≤ L j) (u w : Int) : 1 ≤ rdir K U V L i u w := by
  induction i with
  | zero => exact hK
  | succ i ih =>
    unfold rdir
    have h1 := ih (fun j a b => h j a (by omega))
    have h2 := h i (by omega) (by omega)
    split <;> omega
theorem rdir_le1 {K : Int} {U V L : Int → Int} {i : Nat} {j u w : Int} (h0 : 0 ≤ j) (h1 : j < i) (h : (U j = u ∧ V j = w) ∨ (U j = w ∧ V j = u)) : rdir K U V L i u w ≤ L j := by
  induction i with
  | zero => omega
  | succ i ih =>
    unfold rdir
    by_cases e : j = i
    · subst e; rw [if_pos h]; omega
    · have := ih (by omega); split <;> omega
theorem rdir_at (K : Int) (U V L : Int → Int) (i : Nat) (u w : Int) : rdir K U V L i u w = K ∨ ∃ j : Int, 0 ≤ j ∧ j < i ∧ ((U j = u ∧ V j = w) ∨ (U j = w ∧ V j = u)) ∧ rdir K U V L i u w = L j := by
  induction i with
  | zero => exact Or.inl rfl
  | succ i ih =>
    unfold rdir
    split
    · rename_i hp
      by_cases e : L i < rdir K U V L i u w
      · exact Or.inr ⟨i, by omega, by omega, hp, by omega⟩
      · rw [show min (rdir K U V L i u w) (L i) = rdir K U V L i u w by omega]
        rcases ih with h | ⟨k, a, b, d, e⟩
        · exact Or.inl h
        · exact Or.inr ⟨k, a, by omega, d, e⟩
    · rcases ih with h | ⟨k, a, b, d, e⟩
      · exact Or.inl h
      · exact Or.inr ⟨k, a, by omega, d, e⟩
theorem rdir_ext {K : Int} {U V L U' V' L' : Int → Int} {i : Nat} (h : ∀ j : Int, 0 ≤ j → j < i → U' j = U j ∧ V' j = V j ∧ L' j = L j) (u w : Int) : rdir K U' V' L' i u w = rdir K U V L i u w := by
  induction i with
  | zero => rfl
  | succ i ih =>
    unfold rdir
    obtain ⟨a, b, c⟩ := h i (by omega) (by omega)
    rw [a, b, c, ih (fun j p q => h j p (by omega))]
/-- the roads of a land with n places -/
def Rds (n r : Int) (U V L : Int → Int) : Prop := ∀ j : Int, 0 ≤ j → j < r → 0 ≤ U j ∧ U j < n ∧ 0 ≤ V j ∧ V j < n ∧ U j ≠ V j ∧ 1 ≤ L j ∧ L j ≤ 1000
def dr (K r : Int) (U V L : Int → Int) (u w : Int) : Int := rdir K U V L r.toNat u w
theorem dr_sym (K r : Int) (U V L : Int → Int) (u w : Int) : dr K r U V L u w = dr K r U V L w u := rdir_sym _ _ _ _ _ _ _
theorem dr_le (K r : Int) (U V L : Int → Int) (u w : Int) : dr K r U V L u w ≤ K := rdir_le _ _ _ _ _ _ _
theorem dr_pos {K n r : Int} {U V L : Int → Int} (hK : 1 ≤ K) (h : Rds n r U V L) (u w : Int) : 1 ≤ dr K r U V L u w := rdir_pos hK (fun j a b => (h j a (by omega)).2.2.2.2.2.1) u w
theorem dr_le1 {K r : Int} {U V L : Int → Int} {j u w : Int} (h0 : 0 ≤ j) (h1 : j < r) (h : (U j = u ∧ V j = w) ∨ (U j = w ∧ V j = u)) : dr K r U V L u w ≤ L j := rdir_le1 h0 (by omega) h
theorem dr_at (K r : Int) (U V L : Int → Int) (u w : Int) : dr K r U V L u w = K ∨ ∃ j : Int, 0 ≤ j ∧ j < r ∧ ((U j = u ∧ V j = w) ∨ (U j = w ∧ V j = u)) ∧ dr K r U V L u w = L j := by
  rcases rdir_at K U V L r.toNat u w with h | ⟨j, a, b, c, d⟩
  · exact Or.inl h
  · exact Or.inr ⟨j, a, by omega, c, d⟩
theorem dr_ext {K r : Int} {U V L U' V' L' : Int → Int} (h : ∀ j : Int, 0 ≤ j → j < r → U' j = U j ∧ V' j = V j ∧ L' j = L j) (u w : Int) : dr K r U' V' L' u w = dr K r U V L u w := rdir_ext (fun j a b => h j a (by omega)) u w
theorem dr_s {K r : Int} {U V L : Int → Int} (h : 0 ≤ r) (u w : Int) : dr K (r + 1) U V L u w = if (U r = u ∧ V r = w) ∨ (U r = w ∧ V r = u) then min (dr K r U V L u w) (L r) else dr K r U V L u w := by
  unfold dr
  rw [show (r + 1).toNat = r.toNat + 1 by omega]
  show (if (U (r.toNat : Int) = u ∧ V (r.toNat : Int) = w) ∨ (U (r.toNat : Int) = w ∧ V (r.toNat : Int) = u) then min (rdir K U V L r.toNat u w) (L (r.toNat : Int)) else rdir K U V L r.toNat u w) = _
  rw [Int.toNat_of_nonneg h]
/-- two marks for 'no way' -/
theorem dr_two {K J n r : Int} {U V L : Int → Int} (hK : 1000 < K) (hJ : 1000 < J) (h : Rds n r U V L) (u w : Int) : (dr K r U V L u w < K ↔ dr J r U V L u w < J) ∧ (dr K r U V L u w < K → dr K r U V L u w = dr J r U V L u w ∧ dr K r U V L u w ≤ 1000) := by
  have a := dr_at K r U V L u w
  have b := dr_at J r U V L u w
  rcases a with a | ⟨j, a1, a2, a3, a4⟩
  · rcases b with b | ⟨i, b1, b2, b3, b4⟩
    · exact ⟨by omega, by omega⟩
    · have h1 := dr_le1 (K := K) (L := L) b1 b2 b3
      have h2 := h i b1 b2
      omega
  · have h1 := dr_le1 (K := J) (L := L) a1 a2 a3
    have h2 := h j a1 a2
    rcases b with b | ⟨i, b1, b2, b3, b4⟩
    · omega
    · have h3 := dr_le1 (K := K) (L := L) b1 b2 b3
      have h4 := h i b1 b2
      exact ⟨by omega, by omega⟩
/-! what distances are -/
def Fe (n : Int) (dir : Int → Int → Int) (K : Int) (p : Int → Int) : Prop := ∀ u w : Int, 0 ≤ u → u < n → 0 ≤ w → w < n → dir u w < K → p u ≤ dir u w + p w
def Ds (n : Int) (dir : Int → Int → Int) (K : Int) (d : Int → Int → Int) : Prop :=
  (∀ u : Int, 0 ≤ u → u < n → d u u = 0) ∧ (∀ u v : Int, 0 ≤ u → u < n → 0 ≤ v → v < n → 0 ≤ d u v ∧ d u v ≤ K ∧ (u ≠ v → d u v ≤ dir u v)) ∧ (∀ u x v : Int, 0 ≤ u → u < n → 0 ≤ x → x < n → 0 ≤ v → v < n → d u v ≤ d u x + d x v) ∧ (∀ u v : Int, 0 ≤ u → u < n → 0 ≤ v → v < n → d u v < K → ∀ p : Int → Int, Fe n dir K p → p u - p v ≤ d u v)
/-- one step of the measuring -/
def stp (w : Int) (d : Int → Int → Int) : Int → Int → Int := fun u v => min (d u v) (d u w + d w v)
def fwi (dir : Int → Int → Int) : Int → Int → Int := fun u v => if u = v then 0 else dir u v
def fw (dir : Int → Int → Int) : Nat → Int → Int → Int
  | 0 => fwi dir
  | k + 1 => stp k (fw dir k)
def FwI (n : Int) (dir : Int → Int → Int) (K : Int) (k : Nat) (d : Int → Int → Int) : Prop :=
  (∀ u : Int, 0 ≤ u → u < n → d u u = 0) ∧ (∀ u v : Int, 0 ≤ u → u < n → 0 ≤ v → v < n → 0 ≤ d u v ∧ d u v ≤ K ∧ (u ≠ v → d u v ≤ dir u v)) ∧ (∀ u x v : Int, 0 ≤ u → u < n → 0 ≤ x → x < k → 0 ≤ v → v < n → d u v ≤ d u x + d x v) ∧ (∀ u v : Int, 0 ≤ u → u < n → 0 ≤ v → v < n → d u v < K → ∀ p : Int → Int, Fe n dir K p → p u - p v ≤ d u v)
theorem fw_inv {n : Int} {dir : Int → Int → Int} {K : Int} (hK : 0 ≤ K) (hd : ∀ u w : Int, 0 ≤ dir u w ∧ dir u w ≤ K) : ∀ k : Nat, (k : Int) ≤ n → FwI n dir K k (fw dir k) := by
  intro k
  induction k with
  | zero =>
    intro _
    refine ⟨fun u _ _ => if_pos rfl, fun u v a b c d => ?_, fun u x v _ _ h1 h2 => by omega, fun u v a b c d hl p hp => ?_⟩
    · show 0 ≤ fwi dir u v ∧ fwi dir u v ≤ K ∧ (u ≠ v → fwi dir u v ≤ dir u v)
      unfold fwi
      have := hd u v
      split <;> omega
    · have hl : fwi dir u v < K := hl
      show p u - p v ≤ fwi dir u v
      unfold fwi at hl ⊢
      split at hl
      · rename_i e; rw [if_pos e, e]; omega
      · rename_i e
        rw [if_neg e]
        have := hp u v a b c d hl
        omega
  | succ k ih =>
    intro hk
    obtain ⟨i1, i2, i3, i4⟩ := ih (by omega)
    have hkk : ∀ u : Int, 0 ≤ u → u < n → stp k (fw dir k) u k = fw dir k u k := fun u a b => by
      unfold stp; have := i1 k (by omega) (by omega); omega
    have hkk2 : ∀ u : Int, 0 ≤ u → u < n → stp k (fw dir k) k u = fw dir k k u := fun u a b => by
      unfold stp; have := i1 k (by omega) (by omega); omega
    refine ⟨fun u a b => ?_, fun u v a b c d => ?_, fun u x v a b c d e f => ?_, fun u v a b c d hl p hp => ?_⟩
    · show stp k (fw dir k) u u = 0
      unfold stp
      have h1 := i1 u a b
      have h2 := i2 u k a b (by omega) (by omega)
      have h3 := i2 k u (by omega) (by omega) a b
      omega
    · show 0 ≤ stp k (fw dir k) u v ∧ stp k (fw dir k) u v ≤ K ∧ (u ≠ v → stp k (fw dir k) u v ≤ dir u v)
      unfold stp
      have h1 := i2 u v a b c d
      have h2 := i2 u k a b (by omega) (by omega)
      have h3 := i2 k v (by omega) (by omega) c d
      refine ⟨by omega, by omega, fun q => ?_⟩
      have := h1.2.2 q
      omega
    · show stp k (fw dir k) u v ≤ stp k (fw dir k) u x + stp k (fw dir k) x v
      by_cases e1 : x = k
      · rw [e1, hkk u a b, hkk2 v e f]
        unfold stp
        omega
      · have hx : x < k := by omega
        unfold stp
        have t1 := i3 u x v a b c hx e f
        have t2 := i3 u x k a b c hx (by omega) (by omega)
        have t3 := i3 k x v (by omega) (by omega) c hx e f
        have t4 := i2 k x (by omega) (by omega) c (by omega)
        have t5 := i2 x k c (by omega) (by omega) (by omega)
        omega
    · have hl : stp k (fw dir k) u v < K := hl
      show p u - p v ≤ stp k (fw dir k) u v
      unfold stp at hl ⊢
      have h1 := i2 u k a b (by omega) (by omega)
      have h2 := i2 k v (by omega) (by omega) c d
      by_cases e : fw dir k u v ≤ fw dir k u k + fw dir k k v
      · have := i4 u v a b c d (by omega) p hp
        omega
      · have g1 := i4 u k a b (by omega) (by omega) (by omega) p hp
        have g2 := i4 k v (by omega) (by omega) c d (by omega) p hp
        omega
theorem fw_ds {n : Int} {dir : Int → Int → Int} {K : Int} (hn : 0 ≤ n) (hK : 0 ≤ K) (hd : ∀ u w : Int, 0 ≤ dir u w ∧ dir u w ≤ K) : Ds n dir K (fw dir n.toNat) := by
  obtain ⟨a, b, c, d⟩ := fw_inv (n := n) hK hd n.toNat (by omega)
  exact ⟨a, b, fun u x v p q r s => c u x v p q r (by omega), d⟩
theorem Ds_ext {n : Int} {dir : Int → Int → Int} {K : Int} {d e : Int → Int → Int} (h : ∀ u v : Int, 0 ≤ u → u < n → 0 ≤ v → v < n → e u v = d u v) (H : Ds n dir K d) : Ds n dir K e := by
  obtain ⟨h1, h2, h3, h4⟩ := H
  refine ⟨fun u a b => ?_, fun u v a b c d => ?_, fun u x v a b c d e f => ?_, fun u v a b c d hl p hp => ?_⟩
  · rw [h u u a b a b]; exact h1 u a b
  · rw [h u v a b c d]; exact h2 u v a b c d
  · rw [h u v a b e f, h u x a b c d, h x v c d e f]; exact h3 u x v a b c d e f
  · rw [h u v a b c d] at hl ⊢; exact h4 u v a b c d hl p hp
theorem Fe_ext {n : Int} {d1 d2 : Int → Int → Int} {K : Int} {p : Int → Int} (h : ∀ u v : Int, 0 ≤ u → u < n → 0 ≤ v → v < n → d1 u v = d2 u v) (H : Fe n d1 K p) : Fe n d2 K p := fun u w a b c d e => by
  rw [← h u w a b c d] at e ⊢
  exact H u w a b c d e
theorem Ds_dir {n : Int} {d1 d2 : Int → Int → Int} {K : Int} {d : Int → Int → Int} (h : ∀ u v : Int, 0 ≤ u → u < n → 0 ≤ v → v < n → d1 u v = d2 u v) (H : Ds n d1 K d) : Ds n d2 K d := by
  obtain ⟨h1, h2, h3, h4⟩ := H
  refine ⟨h1, fun u v a b c d => ?_, h3, fun u v a b c d hl p hp => h4 u v a b c d hl p (Fe_ext (fun u v a b c d => (h u v a b c d).symm) hp)⟩
  rw [← h u v a b c d]
  exact h2 u v a b c d
/-- the way's first road -/
theorem Ds_hop {n : Int} {dir : Int → Int → Int} {K : Int} {d : Int → Int → Int} (hd : ∀ u w : Int, 0 ≤ dir u w) (hs : ∀ u : Int, dir u u = K) (H : Ds n dir K d) {u v : Int} (h1 : 0 ≤ u) (h2 : u < n) (h3 : 0 ≤ v) (h4 : v < n) (huv : u ≠ v) (hl : d u v < K) : ∃ w : Int, 0 ≤ w ∧ w < n ∧ dir u w < K ∧ d u v = dir u w + d w v := by
  apply Classical.byContradiction
  intro hc
  obtain ⟨a1, a2, a3, a4⟩ := H
  have tri : ∀ x w : Int, 0 ≤ x → x < n → 0 ≤ w → w < n → dir x w < K → d x v ≤ dir x w + d w v := fun x w b1 b2 b3 b4 b5 => by
    by_cases e : x = w
    · rw [e] at b5; have := hs w; omega
    · have := a3 x w v b1 b2 b3 b4 h3 h4
      have := (a2 x w b1 b2 b3 b4).2.2 e
      omega
  have hp : Fe n dir K (fun x => if x = u then d x v + 1 else d x v) := fun x w b1 b2 b3 b4 b5 => by
    have t := tri x w b1 b2 b3 b4 b5
    show (if x = u then d x v + 1 else d x v) ≤ dir x w + (if w = u then d w v + 1 else d w v)
    by_cases e : x = u
    · subst e
      rw [if_pos rfl]
      have : d x v ≠ dir x w + d w v := fun q => hc ⟨w, b3, b4, b5, q⟩
      split <;> omega
    · rw [if_neg e]
      split <;> omega
  have := a4 u v h1 h2 h3 h4 hl _ hp
  have e1 : (if u = u then d u v + 1 else d u v) - (if v = u then d v v + 1 else d v v) ≤ d u v := this
  rw [if_pos rfl, if_neg (fun q => huv q.symm), a1 v h3 h4] at e1
  omega
theorem Ds_tri {n : Int} {dir : Int → Int → Int} {K : Int} {d : Int → Int → Int} (hs : ∀ u : Int, dir u u = K) (H : Ds n dir K d) {x w v : Int} (b1 : 0 ≤ x) (b2 : x < n) (b3 : 0 ≤ w) (b4 : w < n) (h3 : 0 ≤ v) (h4 : v < n) (b5 : dir x w < K) : d x v ≤ dir x w + d w v := by
  obtain ⟨a1, a2, a3, a4⟩ := H
  by_cases e : x = w
  · rw [e] at b5; have := hs w; omega
  · have := a3 x w v b1 b2 b3 b4 h3 h4
    have := (a2 x w b1 b2 b3 b4).2.2 e
    omega
/-- no distance is above 1000 times the number of nearer places -/
theorem Ds_bnd {n : Int} {dir : Int → Int → Int} {K : Int} {d : Int → Int → Int} (hd : ∀ u w : Int, 1 ≤ dir u w) (hs : ∀ u : Int, dir u u = K) (h1000 : ∀ u w : Int, dir u w < K → dir u w ≤ 1000) (H : Ds n dir K d) {v : Int} (h3 : 0 ≤ v) (h4 : v < n) : ∀ (k : Nat) (u : Int), 0 ≤ u → u < n → d u v < K → d u v < k → d u v ≤ 1000 * cn n (fun x => d x v < d u v) := by
  intro k
  induction k with
  | zero => intro u a b _ h; have := (H.2.1 u v a b h3 h4).1; omega
  | succ k ih =>
    intro u a b hl hk
    by_cases e : u = v
    · subst e
      rw [H.1 u a b]
      have := cn_nonneg n (fun x => d x u < 0)
      omega
    · obtain ⟨w, w0, w1, w2, w3⟩ := Ds_hop (fun u w => by have := hd u w; omega) hs H a b h3 h4 e hl
      have q1 := hd u w
      have q2 := h1000 u w w2
      have q3 := ih w w0 w1 (by omega) (by omega)
      have q4 := cn_lt (n := n) (p := fun x => d x v < d w v) (q := fun x => d x v < d u v) (fun x _ _ q => by omega) w0 w1 (Int.lt_irrefl _) (by omega)
      omega
theorem Ds_9000 {n : Int} {dir : Int → Int → Int} {K : Int} {d : Int → Int → Int} (hn : n ≤ 10) (hd : ∀ u w : Int, 1 ≤ dir u w) (hs : ∀ u : Int, dir u u = K) (h1000 : ∀ u w : Int, dir u w < K → dir u w ≤ 1000) (H : Ds n dir K d) {u v : Int} (h1 : 0 ≤ u) (h2 : u < n) (h3 : 0 ≤ v) (h4 : v < n) (hl : d u v < K) : d u v ≤ 9000 := by
  have h := Ds_bnd hd hs h1000 H h3 h4 ((d u v).toNat + 1) u h1 h2 hl (by omega)
  have h0 := cn_ltn (n := n) (p := fun x => d x v < d u v) h1 h2 (Int.lt_irrefl _)
  omega
theorem Ds_sym {n : Int} {dir : Int → Int → Int} {K : Int} {d : Int → Int → Int} (hy : ∀ u w : Int, dir u w = dir w u) (hs : ∀ u : Int, dir u u = K) (H : Ds n dir K d) {u v : Int} (h1 : 0 ≤ u) (h2 : u < n) (h3 : 0 ≤ v) (h4 : v < n) : d u v = d v u := by
  have half : ∀ u v : Int, 0 ≤ u → u < n → 0 ≤ v → v < n → d v u ≤ d u v := fun u v h1 h2 h3 h4 => by
    by_cases hl : d u v < K
    · have := H.2.2.2 u v h1 h2 h3 h4 hl (fun x => d v x) (fun x w b1 b2 b3 b4 b5 => by
        have t := H.2.2.1 v w x h3 h4 b3 b4 b1 b2
        have e : x ≠ w := fun q => by subst q; have := hs x; omega
        have := (H.2.1 w x b3 b4 b1 b2).2.2 (fun q => e q.symm)
        have := hy x w
        show d v x ≤ dir x w + d v w
        omega)
      have e0 := H.1 v h3 h4
      have e1 : d v u - d v v ≤ d u v := this
      omega
    · have := (H.2.1 v u h3 h4 h1 h2).2.1
      omega
  have := half u v h1 h2 h3 h4
  have := half v u h3 h4 h1 h2
  omega
/-- two measurings of one land agree -/
theorem Ds_two {n : Int} {d1 d2 : Int → Int → Int} {K J : Int} {d e : Int → Int → Int} (hn : n ≤ 10) (hK : 9000 < K) (hJ : 9000 < J) (p1 : ∀ u w : Int, 1 ≤ d1 u w) (p2 : ∀ u w : Int, 1 ≤ d2 u w) (s1 : ∀ u : Int, d1 u u = K) (s2 : ∀ u : Int, d2 u u = J) (t1 : ∀ u w : Int, d1 u w < K → d1 u w ≤ 1000) (t2 : ∀ u w : Int, d2 u w < J → d2 u w ≤ 1000) (hq : ∀ u w : Int, (d1 u w < K ↔ d2 u w < J) ∧ (d1 u w < K → d1 u w = d2 u w)) (H : Ds n d1 K d) (E : Ds n d2 J e) {u v : Int} (h1 : 0 ≤ u) (h2 : u < n) (h3 : 0 ≤ v) (h4 : v < n) : (d u v < K ↔ e u v < J) ∧ (d u v < K → d u v = e u v) := by
  have a1 : d u v < K → e u v ≤ d u v := fun hl => by
    have := H.2.2.2 u v h1 h2 h3 h4 hl (fun x => e x v) (fun x w b1 b2 b3 b4 b5 => by
      have := Ds_tri s2 E b1 b2 b3 b4 h3 h4 ((hq x w).1.mp b5)
      have := (hq x w).2 b5
      show e x v ≤ d1 x w + e w v
      omega)
    have e0 := E.1 v h3 h4
    have e1 : e u v - e v v ≤ d u v := this
    omega
  have a2 : e u v < J → d u v ≤ e u v := fun hl => by
    have := E.2.2.2 u v h1 h2 h3 h4 hl (fun x => d x v) (fun x w b1 b2 b3 b4 b5 => by
      have b6 := (hq x w).1.mpr b5
      have := Ds_tri s1 H b1 b2 b3 b4 h3 h4 b6
      have := (hq x w).2 b6
      show d x v ≤ d2 x w + d w v
      omega)
    have e0 := H.1 v h3 h4
    have e1 : d u v - d v v ≤ e u v := this
    omega
  have b1 : d u v < K → d u v ≤ 9000 := Ds_9000 hn p1 s1 t1 H h1 h2 h3 h4
  have b2 : e u v < J → e u v ≤ 9000 := Ds_9000 hn p2 s2 t2 E h1 h2 h3 h4
  refine ⟨⟨fun q => ?_, fun q => ?_⟩, fun q => ?_⟩
  · have := a1 q; have := b1 q; omega
  · have := a2 q; have := b2 q; omega
  · have := a1 q; have := b1 q; have := a2 (by omega); omega
/-- a place without roads goes -/
theorem Ds_drop {n : Int} {dir : Int → Int → Int} {K : Int} {d : Int → Int → Int} (hi : ∀ u : Int, dir n u = K ∧ dir u n = K) (H : Ds (n + 1) dir K d) : Ds n dir K d := by
  obtain ⟨h1, h2, h3, h4⟩ := H
  refine ⟨fun u a b => h1 u a (by omega), fun u v a b c d => h2 u v a (by omega) c (by omega), fun u x v a b c d e f => h3 u x v a (by omega) c (by omega) e (by omega), fun u v a b c d hl p hp => h4 u v a (by omega) c (by omega) hl p (fun x w b1 b2 b3 b4 b5 => ?_)⟩
  have ex : x ≠ n := fun q => by subst q; have := (hi w).1; omega
  have ew : w ≠ n := fun q => by subst q; have := (hi x).2; omega
  exact hp x w b1 (by omega) b3 (by omega) b5
theorem dr_self {K n r : Int} {U V L : Int → Int} (h : Rds n r U V L) (u : Int) : dr K r U V L u u = K := by
  rcases dr_at K r U V L u u with e | ⟨j, a, b, c, d⟩
  · exact e
  · have := h j a b
    omega
theorem dr_far {K n r : Int} {U V L : Int → Int} (h : Rds n r U V L) {u : Int} (hu : n ≤ u) (w : Int) : dr K r U V L u w = K ∧ dr K r U V L w u = K := by
  rw [dr_sym K r U V L w u]
  rcases dr_at K r U V L u w with e | ⟨j, a, b, c, d⟩
  · exact ⟨e, e⟩
  · have := h j a b
    omega
