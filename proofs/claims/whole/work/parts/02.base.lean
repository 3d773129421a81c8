/-! whole numbers for the machine's ints; the memory of a world: a row of numbers for each cell; the cells' addresses are variables -/
abbrev inR (x : Int) : Prop := -2147483648 ≤ x ∧ x ≤ 2147483647
abbrev i32 (x : Int) : Int32 := Int32.ofInt x
theorem i32_toInt {x : Int} (h : inR x) : (i32 x).toInt = x := Int32.toInt_ofInt_of_le (by have := h.1; omega) (by have := h.2; omega)
theorem inR_toInt (x : Int32) : inR x.toInt := ⟨by have := Int32.le_toInt x; omega, by have := Int32.toInt_lt x; omega⟩
theorem i32_le {x y : Int} (hx : inR x) (hy : inR y) : i32 x ≤ i32 y ↔ x ≤ y := by rw [Int32.le_iff_toInt_le, i32_toInt hx, i32_toInt hy]
theorem i32_lt {x y : Int} (hx : inR x) (hy : inR y) : i32 x < i32 y ↔ x < y := by rw [Int32.lt_iff_toInt_lt, i32_toInt hx, i32_toInt hy]
theorem i32_eq {x y : Int} (hx : inR x) (hy : inR y) : i32 x = i32 y ↔ x = y := by rw [← Int32.toInt_inj, i32_toInt hx, i32_toInt hy]
theorem i32_0 : i32 0 = 0 := rfl
theorem i32_in {x n : Int} (h0 : 0 ≤ x) (h : x < n) (hn : n ≤ 2147483647) : vp_in (i32 x) n.toNat ∧ (i32 x).toNatClampNeg = x.toNat := by
  have hr : inR x := ⟨by omega, by omega⟩
  have hc : (i32 x).toNatClampNeg = x.toNat := Int32.toNatClampNeg_ofInt_of_le (by have := hr.1; omega) (by have := hr.2; omega)
  refine ⟨?_, hc⟩
  rw [vp_in_iff, i32_toInt hr]
  omega
theorem inR_of {x : Int} (h0 : -2147483648 ≤ x) (h1 : x ≤ 2147483647) : inR x := ⟨h0, h1⟩
theorem inR_ix {x n : Int} (h : 0 ≤ x ∧ x < n) (hn : n ≤ 2147483647) : inR x := ⟨by omega, by omega⟩
theorem inR_min {x y : Int} (hx : inR x) (hy : inR y) : inR (min x y) := ⟨by have := hx.1; have := hy.1; omega, by have := hx.2; have := hy.2; omega⟩
theorem i32_min {x y : Int} (hx : inR x) (hy : inR y) : (if i32 y < i32 x then i32 y else i32 x) = i32 (min x y) := by
  by_cases h : y < x
  · rw [if_pos ((i32_lt hy hx).mpr h)]; congr 1; omega
  · rw [if_neg (fun q => h ((i32_lt hy hx).mp q))]; congr 1; omega
theorem i32_div {x y : Int} (hx : inR x) (h0 : 0 ≤ x) (hy : inR y) (hy0 : 0 < y) : i32 x / i32 y = i32 (x / y) := by
  apply Int32.toInt_inj.mp
  have hq : inR (x / y) := by
    have h1 : 0 ≤ x / y := Int.ediv_nonneg h0 (by omega)
    have h2 : x / y ≤ x := Int.ediv_le_self y h0
    have h3 := hx.2
    exact ⟨by omega, by omega⟩
  rw [Int32.toInt_div_of_ne_right _ _ (fun q => by have := (Int32.toInt_inj.mpr q); rw [i32_toInt hy] at this; have e : (-1 : Int32).toInt = -1 := by decide
                                                   rw [e] at this; omega), i32_toInt hx, i32_toInt hy, i32_toInt hq, Int.tdiv_eq_ediv_of_nonneg h0]
theorem i32_rem {x y : Int} (hx : inR x) (h0 : 0 ≤ x) (hy : inR y) (hy0 : 0 < y) : i32 x - i32 x / i32 y * i32 y = i32 (x % y) := by
  rw [i32_div hx h0 hy hy0, ← Int32.ofInt_mul, ← Int32.ofInt_sub, Int.emod_def, Int.mul_comm]
/-- the other one of a pair -/
def pr1 (x : Int) : Int := if x % 2 = 0 then x + 1 else x - 1
theorem i32_xor1 {x : Int} (hx : inR x) (h0 : 0 ≤ x) : i32 x ^^^ i32 1 = i32 (pr1 x) := by
  obtain ⟨n, rfl⟩ := Int.eq_ofNat_of_zero_le h0
  have hn : n < 2 ^ 31 := by have := hx.2; omega
  have e1 : (i32 (n : Int)).toBitVec = BitVec.ofNat 32 n := by simp [i32, Int32.toBitVec_ofInt]
  have e2 : (i32 1).toBitVec = BitVec.ofNat 32 1 := by decide
  have key : pr1 (n : Int) = ((n ^^^ 1 : Nat) : Int) := by
    unfold pr1
    rcases Nat.mod_two_eq_zero_or_one n with h | h
    · have : n ^^^ 1 = n + 1 := by
        apply Nat.eq_of_testBit_eq
        intro i
        rw [Nat.testBit_xor]
        cases i with
        | zero => simp [Nat.testBit_zero, h]; omega
        | succ i => simp [Nat.testBit_succ]; congr 1; omega
      rw [this]
      split <;> omega
    · have : n ^^^ 1 = n - 1 := by
        apply Nat.eq_of_testBit_eq
        intro i
        rw [Nat.testBit_xor]
        cases i with
        | zero => simp [Nat.testBit_zero, h]; omega
        | succ i => simp [Nat.testBit_succ]; congr 1; omega
      rw [this]
      split <;> omega
  rw [key]
  apply Int32.toBitVec.inj
  rw [Int32.toBitVec_xor, e1, e2]
  apply BitVec.eq_of_toNat_eq
  have hx2 : n ^^^ 1 < 2 ^ 32 := Nat.xor_lt_two_pow (by omega) (by omega)
  simp [i32, Int32.toBitVec_ofInt, Nat.mod_eq_of_lt hx2, Nat.mod_eq_of_lt (show n < 4294967296 by omega)]
abbrev Mem : Type := Int → Int → Int
def mset (M : Mem) (k i x : Int) : Mem := fun a j => if a = k ∧ j = i then x else M a j
def msetr (M : Mem) (k : Int) (f : Int → Int) : Mem := fun a j => if a = k then f j else M a j
/-- n places of row r0 over row r1 -/
def mcopy (M : Mem) (r0 r1 n : Int) : Mem := msetr M r1 (fun j => if 0 ≤ j ∧ j < n then M r0 j else M r1 j)
def rowf (M : Mem) (k : Nat) : Nat → Int32 := fun j => i32 (M k j)
def Rng (M : Mem) : Prop := ∀ a j, inR (M a j)
theorem mset_s {M : Mem} {k i x : Int} : mset M k i x k i = x := if_pos ⟨rfl, rfl⟩
theorem mset_r {M : Mem} {k i x a j : Int} (h : a ≠ k) : mset M k i x a j = M a j := if_neg (fun q => h q.1)
theorem mset_i {M : Mem} {k i x a j : Int} (h : j ≠ i) : mset M k i x a j = M a j := if_neg (fun q => h q.2)
theorem msetr_s {M : Mem} {k : Int} {f : Int → Int} {j : Int} : msetr M k f k j = f j := if_pos rfl
theorem msetr_n {M : Mem} {k a : Int} {f : Int → Int} {j : Int} (h : a ≠ k) : msetr M k f a j = M a j := if_neg h
theorem mset_R {M : Mem} {k i x : Int} (h : Rng M) (hx : inR x) : Rng (mset M k i x) := fun a j => by
  unfold mset
  split
  · exact hx
  · exact h a j
theorem msetr_R {M : Mem} {k : Int} {f : Int → Int} (h : Rng M) (hx : ∀ j, inR (f j)) : Rng (msetr M k f) := fun a j => by
  unfold msetr
  split
  · exact hx j
  · exact h a j
theorem rowf_set {M : Mem} {k : Nat} {i x : Int} (h : 0 ≤ i) : rowf (mset M k i x) k = upd (rowf M k) i.toNat (i32 x) := by
  funext j
  unfold rowf upd mset
  by_cases hj : j = i.toNat
  · rw [if_pos hj, if_pos ⟨rfl, by omega⟩]
  · rw [if_neg hj, if_neg (fun q => hj (by have := q.2; omega))]
theorem rowf_ne {M : Mem} {k k2 : Nat} {i x : Int} (h : k2 ≠ k) : rowf (mset M k i x) k2 = rowf M k2 := by
  funext j
  unfold rowf
  rw [mset_r (fun q => h (by omega))]
theorem rowf_setr {M : Mem} {k : Nat} {f : Int → Int} : rowf (msetr M k f) k = fun j : Nat => i32 (f (j : Int)) := by
  funext j
  unfold rowf
  rw [msetr_s]
theorem rowf_ner {M : Mem} {k k2 : Nat} {f : Int → Int} (h : k2 ≠ k) : rowf (msetr M k f) k2 = rowf M k2 := by
  funext j
  unfold rowf
  rw [msetr_n (fun q => h (by omega))]
/-- the cells of a world -/
def gw (N : Nat) (ad : Int → Nat) (cell : Nat → (Nat → Int32) → va_E) (M : Mem) : va_W := (List.range N).map (fun k : Nat => (ad (k : Int), cell k (rowf M k)))
theorem gw_get {N : Nat} {ad : Int → Nat} {cell : Nat → (Nat → Int32) → va_E} {M : Mem} {k : Nat} (h : k < N) : (gw N ad cell M)[k]? = some (ad k, cell k (rowf M k)) := by
  simp [gw, h]
theorem gw_get' {N : Nat} {ad : Int → Nat} {cell : Nat → (Nat → Int32) → va_E} {M : Mem} {k : Nat} {q : Nat × va_E} (h : (gw N ad cell M)[k]? = some q) : k < N ∧ q = (ad k, cell k (rowf M k)) := by
  by_cases hk : k < N
  · rw [gw_get hk] at h
    exact ⟨hk, (Option.some.inj h).symm⟩
  · rw [List.getElem?_eq_none (by simp [gw]; omega)] at h
    cases h
theorem gw_set {N : Nat} {ad : Int → Nat} {cell : Nat → (Nat → Int32) → va_E} {M M' : Mem} {k : Nat} {e : va_E} (h : k < N) (he : e = cell k (rowf M' k)) (ho : ∀ j : Nat, j ≠ k → rowf M' j = rowf M j) : (gw N ad cell M).set k (ad k, e) = gw N ad cell M' := by
  apply List.ext_getElem?
  intro j
  by_cases hj : j = k
  · subst hj
    rw [List.getElem?_set_self (by simp [gw]; exact h), gw_get h, he]
  · rw [List.getElem?_set_ne (Ne.symm hj)]
    by_cases hjN : j < N
    · rw [gw_get hjN, gw_get hjN, ho j hj]
    · rw [List.getElem?_eq_none (by simp [gw]; omega), List.getElem?_eq_none (by simp [gw]; omega)]
def AG (N : Nat) (ad : Int → Nat) (sz : Nat) : Nat → Prop := fun q => (∃ k : Nat, k < N ∧ q = ad k) ∨ sz ≤ q
def InG (D : va_G) (tys : List (ClassId × FieldType)) (N : Nat) (ad : Int → Nat) (cell : Nat → (Nat → Int32) → va_E) (s : State) (M : Mem) (H : Heap) (locs : List Loc) : Prop :=
  va_K D vwCl tys s ∧ va_P D vwCl (gw N ad cell M) H ∧ va_D (AG N ad s.heap.size) (gw N ad cell M) ∧ va_S (AG N ad s.heap.size) s.heap H locs ∧ Rng M
def PreG (D : va_G) (tys : List (ClassId × FieldType)) (N : Nat) (ad : Int → Nat) (cell : Nat → (Nat → Int32) → va_E) (M : Mem) (sz : Nat) (U : State) : Prop :=
  U.heap.size = sz ∧ va_P D vwCl (gw N ad cell M) U.heap ∧ va_K D vwCl tys U ∧ va_D (fun _ => True) (gw N ad cell M) ∧ Rng M
def BG (D : va_G) (tys : List (ClassId × FieldType)) (N : Nat) (ad : Int → Nat) (cell : Nat → (Nat → Int32) → va_E) (sz : Nat) (M : Mem) (t : State) : Prop :=
  va_P D vwCl (gw N ad cell M) t.heap ∧ va_K D vwCl tys t ∧ va_D (AG N ad sz) (gw N ad cell M) ∧ Rng M
/-- a post of whole numbers, of the machine's ints -/
def pI (post : Int → Mem → Prop) : Int32 → Mem → Prop := fun r M => ∃ x, r = i32 x ∧ inR x ∧ post x M
abbrev MetI (l : Launch) (y : MethodName) (ws : List Cond) (rm : Room) (D : va_G) (tys : List (ClassId × FieldType)) (N : Nat) (ad : Int → Nat) (cell : Nat → (Nat → Int32) → va_E) (av : List Value) (M : Mem) (sz : Nat) (post : Int → Mem → Prop) : Prop :=
  Met l y ws rm (va_Pc av (PreG D tys N ad cell M sz)) (va_Qi (pI post) (BG D tys N ad cell sz) (AG N ad sz)) 0 0 (AG N ad sz)
abbrev MetV (l : Launch) (y : MethodName) (ws : List Cond) (rm : Room) (D : va_G) (tys : List (ClassId × FieldType)) (N : Nat) (ad : Int → Nat) (cell : Nat → (Nat → Int32) → va_E) (av : List Value) (M : Mem) (sz : Nat) (post : Mem → Prop) : Prop :=
  Met l y ws rm (va_Pc av (PreG D tys N ad cell M sz)) (va_Qv post (BG D tys N ad cell sz) (AG N ad sz)) 0 0 (AG N ad sz)
abbrev QI (below : List Frame) (args : Array Value) (s : State) (D : va_G) (tys : List (ClassId × FieldType)) (N : Nat) (ad : Int → Nat) (cell : Nat → (Nat → Int32) → va_E) (post : Int → Mem → Prop) : State → Prop :=
  MQ below (va_Qi (pI post) (BG D tys N ad cell s.heap.size) (AG N ad s.heap.size)) args s 0 0 (AG N ad s.heap.size)
abbrev QV (below : List Frame) (args : Array Value) (s : State) (D : va_G) (tys : List (ClassId × FieldType)) (N : Nat) (ad : Int → Nat) (cell : Nat → (Nat → Int32) → va_E) (post : Mem → Prop) : State → Prop :=
  MQ below (va_Qv post (BG D tys N ad cell s.heap.size) (AG N ad s.heap.size)) args s 0 0 (AG N ad s.heap.size)
theorem InG.start {D : va_G} {tys : List (ClassId × FieldType)} {N : Nat} {ad : Int → Nat} {cell : Nat → (Nat → Int32) → va_E} {s : State} {M : Mem} (h : PreG D tys N ad cell M s.heap.size s) : InG D tys N ad cell s M s.heap [] := by
  obtain ⟨-, hP, hK, hD, hR⟩ := h
  refine ⟨hK, hP, ⟨hD.1, fun k q hq => ?_⟩, va_S.rf, hR⟩
  obtain ⟨h1, h2⟩ := gw_get' hq
  exact Or.inl ⟨k, h1, by rw [h2]⟩
theorem PreG.blind {D : va_G} {tys : List (ClassId × FieldType)} {N : Nat} {ad : Int → Nat} {cell : Nat → (Nat → Int32) → va_E} {M : Mem} {sz : Nat} {av : List Value} : FrameBlind (va_Pc av (PreG D tys N ad cell M sz)) := by
  intro a U g mk q
  obtain ⟨q0, q1, qP, qK, qD⟩ := q
  exact ⟨q0, q1, qP, va_K.moved (u := U) (U := U.calling g mk a) (Vm.Alike.refl U.vm) qK, qD⟩
section MB
variable {p : Program} {l : Launch} {e : Env} {R : Room} {s : State} {m : MethodId} {args : Array Value} {below : List Frame} {meth : Method} {c : Code} {H : Heap} {locs : List Loc} {cells slots : Nat} {Q : State → Prop}
variable {cc : ByteArray} {pc : Nat} {ls : Array Slot} {rest : List Value} {D : va_G} {tys : List (ClassId × FieldType)} {N : Nat} {ad : Int → Nat} {cell : Nat → (Nat → Int32) → va_E} {M : Mem}
/-! the machine's arithmetic over whole numbers -/
theorem li_iconst (hx : p.tables.exec = Jvm.exec) (hb : c.code = cc) {n : Int} (hdg : decode cc pc = .ok (.iconst n, 1))
    (k : W p l e R s m args below meth c H locs cells slots Q (F0 m (pc + 1) ls (.int (i32 n) :: rest))) : W p l e R s m args below meth c H locs cells slots Q (F0 m pc ls rest) := lv_iconst hx hb hdg rfl k
theorem li_iadd (hx : p.tables.exec = Jvm.exec) (hb : c.code = cc) {x y : Int} (hdg : decode cc pc = .ok (.iadd, 1))
    (k : W p l e R s m args below meth c H locs cells slots Q (F0 m (pc + 1) ls (.int (i32 (x + y)) :: rest))) : W p l e R s m args below meth c H locs cells slots Q (F0 m pc ls (.int (i32 y) :: .int (i32 x) :: rest)) := lv_iadd hx hb hdg (by rw [← Int32.ofInt_add]; exact k)
theorem li_isub (hx : p.tables.exec = Jvm.exec) (hb : c.code = cc) {x y : Int} (hdg : decode cc pc = .ok (.isub, 1))
    (k : W p l e R s m args below meth c H locs cells slots Q (F0 m (pc + 1) ls (.int (i32 (x - y)) :: rest))) : W p l e R s m args below meth c H locs cells slots Q (F0 m pc ls (.int (i32 y) :: .int (i32 x) :: rest)) := lv_isub hx hb hdg (by rw [← Int32.ofInt_sub]; exact k)
theorem li_imul (hx : p.tables.exec = Jvm.exec) (hb : c.code = cc) {x y : Int} (hdg : decode cc pc = .ok (.imul, 1))
    (k : W p l e R s m args below meth c H locs cells slots Q (F0 m (pc + 1) ls (.int (i32 (x * y)) :: rest))) : W p l e R s m args below meth c H locs cells slots Q (F0 m pc ls (.int (i32 y) :: .int (i32 x) :: rest)) := lv_imul hx hb hdg (by rw [← Int32.ofInt_mul]; exact k)
theorem li_ineg (hx : p.tables.exec = Jvm.exec) (hb : c.code = cc) {x : Int} (hdg : decode cc pc = .ok (.ineg, 1))
    (k : W p l e R s m args below meth c H locs cells slots Q (F0 m (pc + 1) ls (.int (i32 (-x)) :: rest))) : W p l e R s m args below meth c H locs cells slots Q (F0 m pc ls (.int (i32 x) :: rest)) := lv_ineg hx hb hdg (by rw [← Int32.ofInt_neg]; exact k)
theorem li_idiv (hx : p.tables.exec = Jvm.exec) (hb : c.code = cc) {x y : Int} (hdg : decode cc pc = .ok (.idiv, 1)) (hxr : inR x) (h0 : 0 ≤ x) (hyr : inR y) (hy : 0 < y)
    (k : W p l e R s m args below meth c H locs cells slots Q (F0 m (pc + 1) ls (.int (i32 (x / y)) :: rest))) : W p l e R s m args below meth c H locs cells slots Q (F0 m pc ls (.int (i32 y) :: .int (i32 x) :: rest)) :=
  lv_idiv hx hb hdg (fun q => by have := (i32_eq hyr (show inR 0 by decide)).mp q; omega) (by rw [i32_div hxr h0 hyr hy]; exact k)
theorem li_irem (hx : p.tables.exec = Jvm.exec) (hb : c.code = cc) {x y : Int} (hdg : decode cc pc = .ok (.irem, 1)) (hxr : inR x) (h0 : 0 ≤ x) (hyr : inR y) (hy : 0 < y)
    (k : W p l e R s m args below meth c H locs cells slots Q (F0 m (pc + 1) ls (.int (i32 (x % y)) :: rest))) : W p l e R s m args below meth c H locs cells slots Q (F0 m pc ls (.int (i32 y) :: .int (i32 x) :: rest)) :=
  lv_irem hx hb hdg (fun q => by have := (i32_eq hyr (show inR 0 by decide)).mp q; omega) (by rw [i32_rem hxr h0 hyr hy]; exact k)
theorem li_iinc (hx : p.tables.exec = Jvm.exec) (hb : c.code = cc) {i nL k : Nat} {n : Int} {x : Int} {lv lv' : List (Nat × Value)} (hdg : decode cc pc = .ok (.iinc i n, 3)) (h : lv_has ls nL lv) (hk : lv[k]? = some (i, .int (i32 x))) (hn : i < nL) (hl : (i, Value.int (i32 (x + n))) :: lv.filter (fun q => !(q.1 == i) && !(q.1 + 1 == i && q.2.category == 2)) = lv')
    (kk : ∀ ls' : Array Slot, lv_has ls' nL lv' → W p l e R s m args below meth c H locs cells slots Q (F0 m (pc + 3) ls' rest)) : W p l e R s m args below meth c H locs cells slots Q (F0 m pc ls rest) :=
  lv_iinc hx hb hdg h hk (Int32.ofInt_add x n).symm hn hl kk
theorem li_name {x : Int} (k : ∀ y : Int, y = x → W p l e R s m args below meth c H locs cells slots Q (F0 m pc ls (.int (i32 y) :: rest))) : W p l e R s m args below meth c H locs cells slots Q (F0 m pc ls (.int (i32 x) :: rest)) := k x rfl
theorem li_ixor1 (hx : p.tables.exec = Jvm.exec) (hb : c.code = cc) {x : Int} (hdg : decode cc pc = .ok (.ixor, 1)) (hxr : inR x) (h0 : 0 ≤ x)
    (k : W p l e R s m args below meth c H locs cells slots Q (F0 m (pc + 1) ls (.int (i32 (pr1 x)) :: rest))) : W p l e R s m args below meth c H locs cells slots Q (F0 m pc ls (.int (i32 1) :: .int (i32 x) :: rest)) := lv_ixor hx hb hdg (by rw [i32_xor1 hxr h0]; exact k)
/-! branches -/
theorem li_if_eq (hx : p.tables.exec = Jvm.exec) (hb : c.code = cc) {x : Int} {off : Int} {tgt : Nat} (hdg : decode cc pc = .ok (.ifCond .eq off, 3)) (ht : (pc : Int) + off = (tgt : Int)) (hr : inR x)
    (kt : x = 0 → W p l e R s m args below meth c H locs cells slots Q (F0 m tgt ls rest)) (kf : ¬ x = 0 → W p l e R s m args below meth c H locs cells slots Q (F0 m (pc + 3) ls rest)) : W p l e R s m args below meth c H locs cells slots Q (F0 m pc ls (.int (i32 x) :: rest)) :=
  lv_if_eq hx hb hdg ht (fun q => kt ((i32_eq hr (by decide)).mp q)) (fun q => kf (fun z => q ((i32_eq hr (by decide)).mpr z)))
theorem li_if_ne (hx : p.tables.exec = Jvm.exec) (hb : c.code = cc) {x : Int} {off : Int} {tgt : Nat} (hdg : decode cc pc = .ok (.ifCond .ne off, 3)) (ht : (pc : Int) + off = (tgt : Int)) (hr : inR x)
    (kt : ¬ x = 0 → W p l e R s m args below meth c H locs cells slots Q (F0 m tgt ls rest)) (kf : x = 0 → W p l e R s m args below meth c H locs cells slots Q (F0 m (pc + 3) ls rest)) : W p l e R s m args below meth c H locs cells slots Q (F0 m pc ls (.int (i32 x) :: rest)) :=
  lv_if_ne hx hb hdg ht (fun q => kt (fun z => q ((i32_eq hr (by decide)).mpr z))) (fun q => kf ((i32_eq hr (by decide)).mp q))
theorem li_if_lt (hx : p.tables.exec = Jvm.exec) (hb : c.code = cc) {x : Int} {off : Int} {tgt : Nat} (hdg : decode cc pc = .ok (.ifCond .lt off, 3)) (ht : (pc : Int) + off = (tgt : Int)) (hr : inR x)
    (kt : x < 0 → W p l e R s m args below meth c H locs cells slots Q (F0 m tgt ls rest)) (kf : ¬ x < 0 → W p l e R s m args below meth c H locs cells slots Q (F0 m (pc + 3) ls rest)) : W p l e R s m args below meth c H locs cells slots Q (F0 m pc ls (.int (i32 x) :: rest)) :=
  lv_if_lt hx hb hdg ht (fun q => kt ((i32_lt hr (show inR 0 by decide)).mp q)) (fun q => kf (fun z => q ((i32_lt hr (show inR 0 by decide)).mpr z)))
theorem li_if_ge (hx : p.tables.exec = Jvm.exec) (hb : c.code = cc) {x : Int} {off : Int} {tgt : Nat} (hdg : decode cc pc = .ok (.ifCond .ge off, 3)) (ht : (pc : Int) + off = (tgt : Int)) (hr : inR x)
    (kt : 0 ≤ x → W p l e R s m args below meth c H locs cells slots Q (F0 m tgt ls rest)) (kf : ¬ 0 ≤ x → W p l e R s m args below meth c H locs cells slots Q (F0 m (pc + 3) ls rest)) : W p l e R s m args below meth c H locs cells slots Q (F0 m pc ls (.int (i32 x) :: rest)) :=
  lv_if_ge hx hb hdg ht (fun q => kt ((i32_le (show inR 0 by decide) hr).mp q)) (fun q => kf (fun z => q ((i32_le (show inR 0 by decide) hr).mpr z)))
theorem li_if_gt (hx : p.tables.exec = Jvm.exec) (hb : c.code = cc) {x : Int} {off : Int} {tgt : Nat} (hdg : decode cc pc = .ok (.ifCond .gt off, 3)) (ht : (pc : Int) + off = (tgt : Int)) (hr : inR x)
    (kt : 0 < x → W p l e R s m args below meth c H locs cells slots Q (F0 m tgt ls rest)) (kf : ¬ 0 < x → W p l e R s m args below meth c H locs cells slots Q (F0 m (pc + 3) ls rest)) : W p l e R s m args below meth c H locs cells slots Q (F0 m pc ls (.int (i32 x) :: rest)) :=
  lv_if_gt hx hb hdg ht (fun q => kt ((i32_lt (show inR 0 by decide) hr).mp q)) (fun q => kf (fun z => q ((i32_lt (show inR 0 by decide) hr).mpr z)))
theorem li_if_le (hx : p.tables.exec = Jvm.exec) (hb : c.code = cc) {x : Int} {off : Int} {tgt : Nat} (hdg : decode cc pc = .ok (.ifCond .le off, 3)) (ht : (pc : Int) + off = (tgt : Int)) (hr : inR x)
    (kt : x ≤ 0 → W p l e R s m args below meth c H locs cells slots Q (F0 m tgt ls rest)) (kf : ¬ x ≤ 0 → W p l e R s m args below meth c H locs cells slots Q (F0 m (pc + 3) ls rest)) : W p l e R s m args below meth c H locs cells slots Q (F0 m pc ls (.int (i32 x) :: rest)) :=
  lv_if_le hx hb hdg ht (fun q => kt ((i32_le hr (show inR 0 by decide)).mp q)) (fun q => kf (fun z => q ((i32_le hr (show inR 0 by decide)).mpr z)))
theorem li_icmp_eq (hx : p.tables.exec = Jvm.exec) (hb : c.code = cc) {x y : Int} {off : Int} {tgt : Nat} (hdg : decode cc pc = .ok (.if_icmp .eq off, 3)) (ht : (pc : Int) + off = (tgt : Int)) (hr : inR x) (hq : inR y)
    (kt : x = y → W p l e R s m args below meth c H locs cells slots Q (F0 m tgt ls rest)) (kf : ¬ x = y → W p l e R s m args below meth c H locs cells slots Q (F0 m (pc + 3) ls rest)) : W p l e R s m args below meth c H locs cells slots Q (F0 m pc ls (.int (i32 y) :: .int (i32 x) :: rest)) :=
  lv_icmp_eq hx hb hdg ht (fun q => kt ((i32_eq hr hq).mp q)) (fun q => kf (fun z => q ((i32_eq hr hq).mpr z)))
theorem li_icmp_ne (hx : p.tables.exec = Jvm.exec) (hb : c.code = cc) {x y : Int} {off : Int} {tgt : Nat} (hdg : decode cc pc = .ok (.if_icmp .ne off, 3)) (ht : (pc : Int) + off = (tgt : Int)) (hr : inR x) (hq : inR y)
    (kt : ¬ x = y → W p l e R s m args below meth c H locs cells slots Q (F0 m tgt ls rest)) (kf : x = y → W p l e R s m args below meth c H locs cells slots Q (F0 m (pc + 3) ls rest)) : W p l e R s m args below meth c H locs cells slots Q (F0 m pc ls (.int (i32 y) :: .int (i32 x) :: rest)) :=
  lv_icmp_ne hx hb hdg ht (fun q => kt (fun z => q ((i32_eq hr hq).mpr z))) (fun q => kf ((i32_eq hr hq).mp q))
theorem li_icmp_lt (hx : p.tables.exec = Jvm.exec) (hb : c.code = cc) {x y : Int} {off : Int} {tgt : Nat} (hdg : decode cc pc = .ok (.if_icmp .lt off, 3)) (ht : (pc : Int) + off = (tgt : Int)) (hr : inR x) (hq : inR y)
    (kt : x < y → W p l e R s m args below meth c H locs cells slots Q (F0 m tgt ls rest)) (kf : ¬ x < y → W p l e R s m args below meth c H locs cells slots Q (F0 m (pc + 3) ls rest)) : W p l e R s m args below meth c H locs cells slots Q (F0 m pc ls (.int (i32 y) :: .int (i32 x) :: rest)) :=
  lv_icmp_lt hx hb hdg ht (fun q => kt ((i32_lt hr hq).mp q)) (fun q => kf (fun z => q ((i32_lt hr hq).mpr z)))
theorem li_icmp_ge (hx : p.tables.exec = Jvm.exec) (hb : c.code = cc) {x y : Int} {off : Int} {tgt : Nat} (hdg : decode cc pc = .ok (.if_icmp .ge off, 3)) (ht : (pc : Int) + off = (tgt : Int)) (hr : inR x) (hq : inR y)
    (kt : y ≤ x → W p l e R s m args below meth c H locs cells slots Q (F0 m tgt ls rest)) (kf : ¬ y ≤ x → W p l e R s m args below meth c H locs cells slots Q (F0 m (pc + 3) ls rest)) : W p l e R s m args below meth c H locs cells slots Q (F0 m pc ls (.int (i32 y) :: .int (i32 x) :: rest)) :=
  lv_icmp_ge hx hb hdg ht (fun q => kt ((i32_le hq hr).mp q)) (fun q => kf (fun z => q ((i32_le hq hr).mpr z)))
theorem li_icmp_gt (hx : p.tables.exec = Jvm.exec) (hb : c.code = cc) {x y : Int} {off : Int} {tgt : Nat} (hdg : decode cc pc = .ok (.if_icmp .gt off, 3)) (ht : (pc : Int) + off = (tgt : Int)) (hr : inR x) (hq : inR y)
    (kt : y < x → W p l e R s m args below meth c H locs cells slots Q (F0 m tgt ls rest)) (kf : ¬ y < x → W p l e R s m args below meth c H locs cells slots Q (F0 m (pc + 3) ls rest)) : W p l e R s m args below meth c H locs cells slots Q (F0 m pc ls (.int (i32 y) :: .int (i32 x) :: rest)) :=
  lv_icmp_gt hx hb hdg ht (fun q => kt ((i32_lt hq hr).mp q)) (fun q => kf (fun z => q ((i32_lt hq hr).mpr z)))
theorem li_icmp_le (hx : p.tables.exec = Jvm.exec) (hb : c.code = cc) {x y : Int} {off : Int} {tgt : Nat} (hdg : decode cc pc = .ok (.if_icmp .le off, 3)) (ht : (pc : Int) + off = (tgt : Int)) (hr : inR x) (hq : inR y)
    (kt : x ≤ y → W p l e R s m args below meth c H locs cells slots Q (F0 m tgt ls rest)) (kf : ¬ x ≤ y → W p l e R s m args below meth c H locs cells slots Q (F0 m (pc + 3) ls rest)) : W p l e R s m args below meth c H locs cells slots Q (F0 m pc ls (.int (i32 y) :: .int (i32 x) :: rest)) :=
  lv_icmp_le hx hb hdg ht (fun q => kt ((i32_le hr hq).mp q)) (fun q => kf (fun z => q ((i32_le hr hq).mpr z)))
/-! a table of branches: out of it, or at the place k of it -/
theorem li_tabOut (hx : p.tables.exec = Jvm.exec) (hb : c.code = cc) {dflt lo hi : Int} {offs : Array Int} {len : Nat} {x : Int} {tgt : Nat} (hdg : decode cc pc = .ok (.tableswitch dflt lo hi offs, len)) (hr : inR x) (h : x < lo ∨ hi < x) (ht : (pc : Int) + dflt = (tgt : Int))
    (k : W p l e R s m args below meth c H locs cells slots Q (F0 m tgt ls rest)) : W p l e R s m args below meth c H locs cells slots Q (F0 m pc ls (.int (i32 x) :: rest)) :=
  lv_tableOut hx hb hdg (by rw [i32_toInt hr]; exact h) ht k
theorem li_tabIn (hx : p.tables.exec = Jvm.exec) (hb : c.code = cc) {dflt lo hi : Int} {offs : Array Int} {len : Nat} {x : Int} {off : Int} {tgt : Nat} (hdg : decode cc pc = .ok (.tableswitch dflt lo hi offs, len)) (v : Int) (hr : inR v) (h : x = v) (h1 : ¬ v < lo) (h2 : ¬ hi < v) (ho : offs[(v - lo).toNat]? = some off) (ht : (pc : Int) + off = (tgt : Int))
    (k : W p l e R s m args below meth c H locs cells slots Q (F0 m tgt ls rest)) : W p l e R s m args below meth c H locs cells slots Q (F0 m pc ls (.int (i32 x) :: rest)) := by
  subst h
  exact lv_tableIn hx hb hdg (by rw [i32_toInt hr]; exact h1) (by rw [i32_toInt hr]; exact h2) (by rw [i32_toInt hr]; exact ho) ht k
/-! the world: kept over a call -/
theorem InG.pre (I : InG D tys N ad cell s M H locs) {U : State} (hU : U.heap = H) (hW : s.WarmedH U.vm) : PreG D tys N ad cell M H.size U :=
  ⟨by rw [hU], by rw [hU]; exact I.2.1, va_K.moved hW.alike I.1, I.2.2.1.weaken (fun _ _ _ _ => trivial), I.2.2.2.2⟩
theorem InG.rng (I : InG D tys N ad cell s M H locs) (a j : Int) : inR (M a j) := I.2.2.2.2 a j
theorem InG.sub (I : InG D tys N ad cell s M H locs) : ∀ q, AG N ad H.size q → AG N ad s.heap.size q := by
  intro q h
  rcases h with h | h
  · exact Or.inl h
  · exact Or.inr (Nat.le_trans I.2.2.2.1.1 h)
theorem InG.back (I : InG D tys N ad cell s M H locs) {M' : Mem} {t : State} {H1 : Heap} {locs1 : List Loc} (ht : t.heap = H1) (hB : BG D tys N ad cell H.size M' t) (hS : va_S (AG N ad s.heap.size) s.heap H1 locs1) : InG D tys N ad cell s M' H1 locs1 := by
  obtain ⟨hP, hK, hD, hR⟩ := hB
  rw [ht] at hP
  exact ⟨I.1, hP, hD.weaken (fun k q _ h => I.sub _ h), hS, hR⟩
theorem g_iald (hx : p.tables.exec = Jvm.exec) (hb : c.code = cc) (I : InG D tys N ad cell s M H locs) (r : Int) (t0 : Nat) {cA : ClassId} {n : Int} (hr0 : 0 ≤ r) (hr : r < N) (hc : ∀ f, cell r.toNat f = .inl (cA, n.toNat, .inl f)) (hn : n ≤ 2147483647) (ht : tys[t0]? = some (cA, .int)) {i : Int} (hin : 0 ≤ i ∧ i < n) (hdg : decode cc pc = .ok (.iaload, 1))
    (kk : W p l e R s m args below meth c H locs cells slots Q (F0 m (pc + 1) ls (.int (i32 (M r i)) :: rest))) : W p l e R s m args below meth c H locs cells slots Q (F0 m pc ls (.int (i32 i) :: .ref (ad r) :: rest)) := by
  obtain ⟨h1, h2⟩ := i32_in hin.1 hin.2 hn
  have er : ((r.toNat : Nat) : Int) = r := Int.toNat_of_nonneg hr0
  refine va_iald (f := rowf M r.toNat) hx hb I.1 I.2.1 r.toNat t0 (by rw [gw_get (by omega), hc, er]) ht h1 hdg ?_
  have e : rowf M r.toNat (i32 i).toNatClampNeg = i32 (M r i) := by
    unfold rowf
    rw [h2, er, Int.toNat_of_nonneg hin.1]
  rw [e]
  exact kk
theorem g_iast (hx : p.tables.exec = Jvm.exec) (hb : c.code = cc) (I : InG D tys N ad cell s M H locs) (r : Int) (t0 : Nat) {cA : ClassId} {n : Int} (hr0 : 0 ≤ r) (hr : r < N) (hc : ∀ f, cell r.toNat f = .inl (cA, n.toNat, .inl f)) (hn : n ≤ 2147483647) (ht : tys[t0]? = some (cA, .int)) {i x : Int} (hin : 0 ≤ i ∧ i < n) (hxr : inR x) (hdg : decode cc pc = .ok (.iastore, 1))
    (kk : ∀ (H1 : Heap) (locs1 : List Loc), InG D tys N ad cell s (mset M r i x) H1 locs1 → W p l e R s m args below meth c H1 locs1 cells slots Q (F0 m (pc + 1) ls rest)) : W p l e R s m args below meth c H locs cells slots Q (F0 m pc ls (.int (i32 x) :: .int (i32 i) :: .ref (ad r) :: rest)) := by
  obtain ⟨h1, h2⟩ := i32_in hin.1 hin.2 hn
  have er : ((r.toNat : Nat) : Int) = r := Int.toNat_of_nonneg hr0
  refine va_iast (f := rowf M r.toNat) hx hb I.1 I.2.1 I.2.2.1 I.2.2.2.1 r.toNat t0 (by rw [gw_get (by omega), hc, er]) ht h1 hdg (fun H1 locs1 hP hD hS => ?_)
  rw [h2] at hP hD
  have hset : (gw N ad cell M).set r.toNat (ad r, .inl (cA, n.toNat, .inl (upd (rowf M r.toNat) i.toNat (i32 x)))) = gw N ad cell (mset M r i x) := by
    have := gw_set (N := N) (ad := ad) (cell := cell) (M := M) (M' := mset M (r.toNat : Nat) i x) (k := r.toNat) (by omega) rfl (fun j hj => rowf_ne hj)
    rw [rowf_set hin.1, hc, er] at this
    exact this
  rw [hset] at hP hD
  exact kk H1 locs1 ⟨I.1, hP, hD, hS, mset_R I.2.2.2.2 hxr⟩
theorem g_zald (hx : p.tables.exec = Jvm.exec) (hb : c.code = cc) (I : InG D tys N ad cell s M H locs) (r : Int) (t0 : Nat) {cA : ClassId} {n : Int} (hr0 : 0 ≤ r) (hr : r < N) (hc : ∀ f, cell r.toNat f = .inl (cA, n.toNat, .inl f)) (hn : n ≤ 2147483647) (ht : tys[t0]? = some (cA, .boolean)) {i : Int} (hin : 0 ≤ i ∧ i < n) (hdg : decode cc pc = .ok (.baload, 1))
    (kk : W p l e R s m args below meth c H locs cells slots Q (F0 m (pc + 1) ls (.int (i32 (M r i)) :: rest))) : W p l e R s m args below meth c H locs cells slots Q (F0 m pc ls (.int (i32 i) :: .ref (ad r) :: rest)) := by
  obtain ⟨h1, h2⟩ := i32_in hin.1 hin.2 hn
  have er : ((r.toNat : Nat) : Int) = r := Int.toNat_of_nonneg hr0
  refine va_zald (f := rowf M r.toNat) hx hb I.1 I.2.1 r.toNat t0 (by rw [gw_get (by omega), hc, er]) ht h1 hdg ?_
  have e : rowf M r.toNat (i32 i).toNatClampNeg = i32 (M r i) := by
    unfold rowf
    rw [h2, er, Int.toNat_of_nonneg hin.1]
  rw [e]
  exact kk
theorem g_zast (hx : p.tables.exec = Jvm.exec) (hb : c.code = cc) (I : InG D tys N ad cell s M H locs) (r : Int) (t0 : Nat) {cA : ClassId} {n : Int} (hr0 : 0 ≤ r) (hr : r < N) (hc : ∀ f, cell r.toNat f = .inl (cA, n.toNat, .inl f)) (hn : n ≤ 2147483647) (ht : tys[t0]? = some (cA, .boolean)) {i x : Int} (hin : 0 ≤ i ∧ i < n) (hxr : x = 0 ∨ x = 1) (hdg : decode cc pc = .ok (.bastore, 1))
    (kk : ∀ (H1 : Heap) (locs1 : List Loc), InG D tys N ad cell s (mset M r i x) H1 locs1 → W p l e R s m args below meth c H1 locs1 cells slots Q (F0 m (pc + 1) ls rest)) : W p l e R s m args below meth c H locs cells slots Q (F0 m pc ls (.int (i32 x) :: .int (i32 i) :: .ref (ad r) :: rest)) := by
  obtain ⟨h1, h2⟩ := i32_in hin.1 hin.2 hn
  have er : ((r.toNat : Nat) : Int) = r := Int.toNat_of_nonneg hr0
  refine va_zast (f := rowf M r.toNat) hx hb I.1 I.2.1 I.2.2.1 I.2.2.2.1 r.toNat t0 (by rw [gw_get (by omega), hc, er]) ht h1 hdg (fun H1 locs1 hP hD hS => ?_)
  have hnar : vp_nar .boolean (i32 x) = i32 x := by rcases hxr with rfl | rfl <;> decide
  rw [h2, hnar] at hP hD
  have hset : (gw N ad cell M).set r.toNat (ad r, .inl (cA, n.toNat, .inl (upd (rowf M r.toNat) i.toNat (i32 x)))) = gw N ad cell (mset M r i x) := by
    have := gw_set (N := N) (ad := ad) (cell := cell) (M := M) (M' := mset M (r.toNat : Nat) i x) (k := r.toNat) (by omega) rfl (fun j hj => rowf_ne hj)
    rw [rowf_set hin.1, hc, er] at this
    exact this
  rw [hset] at hP hD
  exact kk H1 locs1 ⟨I.1, hP, hD, hS, mset_R I.2.2.2.2 (by rcases hxr with rfl | rfl <;> decide)⟩
theorem g_alen (hx : p.tables.exec = Jvm.exec) (hb : c.code = cc) (I : InG D tys N ad cell s M H locs) (r : Int) (t0 : Nat) {cA : ClassId} {n : Int} {ty : FieldType} (hr0 : 0 ≤ r) (hr : r < N) (hc : ∀ f, cell r.toNat f = .inl (cA, n.toNat, .inl f)) (hn0 : 0 ≤ n) (ht : tys[t0]? = some (cA, ty)) (hdg : decode cc pc = .ok (.arraylength, 1))
    (kk : W p l e R s m args below meth c H locs cells slots Q (F0 m (pc + 1) ls (.int (i32 n) :: rest))) : W p l e R s m args below meth c H locs cells slots Q (F0 m pc ls (.ref (ad r) :: rest)) := by
  have er : ((r.toNat : Nat) : Int) = r := Int.toNat_of_nonneg hr0
  refine va_alen (x := (n.toNat, .inl (rowf M r.toNat))) (v := i32 n) hx hb I.1 I.2.1 r.toNat t0 (by rw [gw_get (by omega), hc, er]) ht ?_ hdg kk
  show Int32.ofNat n.toNat = i32 n
  rw [← Int32.ofInt_eq_ofNat, Int.toNat_of_nonneg hn0]
theorem g_aald (hx : p.tables.exec = Jvm.exec) (hb : c.code = cc) (I : InG D tys N ad cell s M H locs) (r : Int) (t0 : Nat) {cA : ClassId} {n b0 : Int} {ty : FieldType} (hr0 : 0 ≤ r) (hr : r < N) (hc : ∀ f, cell r.toNat f = .inl (cA, n.toNat, .inr (.inr (.inr (.inr (fun i => if i < n.toNat then some (ad (b0 + (i : Int))) else none)))))) (hn : n ≤ 2147483647) (ht : tys[t0]? = some (cA, .array ty)) {i : Int} (hin : 0 ≤ i ∧ i < n) (hdg : decode cc pc = .ok (.aaload, 1))
    (kk : W p l e R s m args below meth c H locs cells slots Q (F0 m (pc + 1) ls (.ref (ad (b0 + i)) :: rest))) : W p l e R s m args below meth c H locs cells slots Q (F0 m pc ls (.int (i32 i) :: .ref (ad r) :: rest)) := by
  obtain ⟨h1, h2⟩ := i32_in hin.1 hin.2 hn
  have er : ((r.toNat : Nat) : Int) = r := Int.toNat_of_nonneg hr0
  have hlt : (i32 i).toNatClampNeg < n.toNat := by rw [h2]; omega
  have ha : (gw N ad cell M)[r.toNat]? = some (ad r, .inl (cA, n.toNat, .inr (.inr (.inr (.inr (fun i => if i < n.toNat then some (ad (b0 + (i : Int))) else none)))))) := by rw [gw_get (by omega), hc, er]
  refine W.aald (v := .ref (ad (b0 + i))) (ty := .array ty) hx hb (I.2.1 r.toNat _ ha) ((I.1.2 t0 _ ht).1 n.toNat (fun j => va_rf (if j < n.toNat then some (ad (b0 + (j : Int))) else none))) rfl (fun q => by cases q) (by show ¬ (i32 i < 0 ∨ (arrV _ _ _).slots.size ≤ _); rw [arrV_size]; exact h1) (by show (arrV _ _ _).slots[_]? = _; rw [arrV_read _ _ hlt]; show some (va_rf (if (i32 i).toNatClampNeg < n.toNat then some (ad (b0 + (((i32 i).toNatClampNeg : Nat) : Int))) else none)) = _; rw [if_pos hlt, h2, Int.toNat_of_nonneg hin.1]; rfl) rfl rfl hdg kk
theorem g_get (hx : p.tables.exec = Jvm.exec) (hb : c.code = cc) {own C : String} {T : u_T} {n ci index : Nat} {Ts : List Cond} (hts : ∀ w ∈ Ts, w.before args s = true) (hin : ∀ w ∈ u_ws C T n, w ∈ Ts) (hown : s.vm.findClass own = some m.cls) (I : InG D tys N ad cell s M H locs) (o : Int) (ho0 : 0 ≤ o) (ho : o < N) {fs : List Value} (he : cell o.toNat (rowf M o.toNat) = .inr (ci, fs)) (hc : vwCl[ci]? = some (C, T, n)) (k : Nat) (hk : k < n) (hlink : Cond.fieldLink own index (T k).1 (T k).2.1 (T k).2.2.1 ∈ Ts) {v : Value} (hv : fs[k]? = some v) (hdg : decode cc pc = .ok (.getfield index, 3))
    (kk : W p l e R s m args below meth c H locs cells slots Q (F0 m (pc + 3) ls (v :: rest))) : W p l e R s m args below meth c H locs cells slots Q (F0 m pc ls (.ref (ad o) :: rest)) :=
  va_get hx hb hts hin hown I.1 I.2.1 o.toNat (by rw [gw_get (by omega), he, Int.toNat_of_nonneg ho0]) hc k hk (hts _ hlink) (fun _ h9 => h9) hv hdg kk
theorem g_put (hx : p.tables.exec = Jvm.exec) (hb : c.code = cc) {own C : String} {T : u_T} {n ci index : Nat} {Ts : List Cond} (hts : ∀ w ∈ Ts, w.before args s = true) (hin : ∀ w ∈ u_ws C T n, w ∈ Ts) (ty0 : Nat → FieldType) (hty : ∀ k, k < n → parseFieldDescriptor (T k).2.2.1 = some (ty0 k)) (hnm : ∀ a, a < n → ∀ b, b < n → a ≠ b → (T a).2.1 ≠ (T b).2.1) (hown : s.vm.findClass own = some m.cls) (I : InG D tys N ad cell s M H locs) (o : Int) (ho0 : 0 ≤ o) (ho : o < N) {fs : List Value} (he : cell o.toNat (rowf M o.toNat) = .inr (ci, fs)) (hc : vwCl[ci]? = some (C, T, n)) (k : Nat) (hk : k < n) (hlink : Cond.fieldLink own index (T k).1 (T k).2.1 (T k).2.2.1 ∈ Ts) (hfin : (T k).2.2.2 = false) {x : Int} (hxr : inR x) (hd : ty0 k = .int) (hl : k < fs.length) (hset : cell o.toNat (upd (rowf M o.toNat) k (i32 x)) = .inr (ci, fs.set k (.int (i32 x)))) (hdg : decode cc pc = .ok (.putfield index, 3))
    (kk : ∀ (H1 : Heap) (locs1 : List Loc), InG D tys N ad cell s (mset M o k x) H1 locs1 → W p l e R s m args below meth c H1 locs1 cells slots Q (F0 m (pc + 3) ls rest)) : W p l e R s m args below meth c H locs cells slots Q (F0 m pc ls (.int (i32 x) :: .ref (ad o) :: rest)) := by
  have eo : ((o.toNat : Nat) : Int) = o := Int.toNat_of_nonneg ho0
  refine va_put (ty := .int) hx hb hts hin ty0 hty hnm hown I.1 I.2.1 I.2.2.1 I.2.2.2.1 o.toNat (by rw [gw_get (by omega), he, eo]) hc k hk (hts _ hlink) (fun _ h9 => h9) hfin (by rw [hty k hk, hd]) rfl rfl hl hdg (fun H1 locs1 hP hD hS => ?_)
  have hs2 : (gw N ad cell M).set o.toNat (ad o, .inr (ci, fs.set k (.int (i32 x)))) = gw N ad cell (mset M o k x) := by
    have := gw_set (N := N) (ad := ad) (cell := cell) (M := M) (M' := mset M (o.toNat : Nat) k x) (k := o.toNat) (by omega) rfl (fun j hj => rowf_ne hj)
    rw [rowf_set (by omega), Int.toNat_natCast, hset, eo] at this
    exact this
  rw [hs2] at hP hD
  exact kk H1 locs1 ⟨I.1, hP, hD, hS, mset_R I.2.2.2.2 hxr⟩
theorem g_iret {post : Int → Mem → Prop} {r : Int} (hx : p.tables.exec = Jvm.exec) (hb : c.code = cc) (hr : meth.sig.returnType = some .int) (hlk : meth.locks = false) (I : InG D tys N ad cell s M H locs) (hrr : inR r) (hp : post r M) (hdg : decode cc pc = .ok (.ireturn, 1)) : W p l e R s m args below meth c H locs 0 0 (QI below args s D tys N ad cell post) (F0 m pc ls [.int (i32 r)]) :=
  W.iret (v := i32 r) hx hb hr (fun t ht hW => ⟨⟨i32 r, M, rfl, ⟨r, rfl, hrr, hp⟩, by rw [ht]; exact I.2.1, va_K.moved hW.alike I.1, I.2.2.1, I.2.2.2.2⟩, I.2.2.2.1.F ht⟩) I.2.2.2.1.2.2 hdg hlk
theorem g_zret {post : Int → Mem → Prop} {r : Int} (hx : p.tables.exec = Jvm.exec) (hb : c.code = cc) (hr : meth.sig.returnType = some .boolean) (hlk : meth.locks = false) (I : InG D tys N ad cell s M H locs) (hrr : r = 0 ∨ r = 1) (hp : post r M) (hdg : decode cc pc = .ok (.ireturn, 1)) : W p l e R s m args below meth c H locs 0 0 (QI below args s D tys N ad cell post) (F0 m pc ls [.int (i32 r)]) :=
  W.zret (v := i32 r) hx hb hr (by rcases hrr with rfl | rfl <;> decide) (fun t ht hW => ⟨⟨i32 r, M, rfl, ⟨r, rfl, by rcases hrr with rfl | rfl <;> decide, hp⟩, by rw [ht]; exact I.2.1, va_K.moved hW.alike I.1, I.2.2.1, I.2.2.2.2⟩, I.2.2.2.1.F ht⟩) I.2.2.2.1.2.2 hdg hlk
theorem g_vret {post : Mem → Prop} (hx : p.tables.exec = Jvm.exec) (hb : c.code = cc) (hr : meth.sig.returnType = none) (hlk : meth.locks = false) (I : InG D tys N ad cell s M H locs) (hp : post M) (hdg : decode cc pc = .ok (.return_, 1)) : W p l e R s m args below meth c H locs 0 0 (QV below args s D tys N ad cell post) (F0 m pc ls []) :=
  W.vret hx hb hr (fun t ht hW => ⟨⟨M, rfl, hp, by rw [ht]; exact I.2.1, va_K.moved hW.alike I.1, I.2.2.1, I.2.2.2.2⟩, I.2.2.2.1.F ht⟩) I.2.2.2.1.2.2 hdg hlk
theorem g_mmin (hx : p.tables.exec = Jvm.exec) (hb : c.code = cc) (hml : c.maxLocals = ls.size) {own : String} {index : Nat} {Ts : List Cond} (hts : ∀ w ∈ Ts, w.before args s = true) (hown : s.vm.findClass own = some m.cls) (h1 : Cond.methodLink own index Lib.Math.min.name ∈ Ts) (h2 : Cond.static Lib.Math.min.name ∈ Ts) (h3 : Cond.initialized "java/lang/Math" ∈ Ts) (h4 : Cond.code Lib.Math.min.name Lib.Math.min.code 2 (some .int) ∈ Ts)
    (hframes : 1 ≤ R.frames) (hlocals : (rest.map fun v => v.category).sum + 13 ≤ R.locals) (hc : cells ≤ R.cells) (hs : slots ≤ R.slots) {x y : Int} (hxr : inR x) (hyr : inR y) (hdg : decode cc pc = .ok (.invokestatic index, 3))
    (kk : W p l e R s m args below meth c H locs cells slots Q (F0 m (pc + 3) ls (.int (i32 (min x y)) :: rest))) : W p l e R s m args below meth c H locs cells slots Q (F0 m pc ls (.int (i32 y) :: .int (i32 x) :: rest)) :=
  va_mmin hx hb hml hown (hts _ h1) (hts _ h2) (hts _ h3) (hts _ h4) hframes hlocals hc hs hdg (by rw [i32_min hxr hyr]; exact kk)
variable {y : MethodName} {bytes : ByteArray} {maxL n index : Nat} {ret : Option FieldType} {wsc : List Cond} {rm : Room} {Ts : List Cond} {own C : String}
theorem g_callVi {post : Int → Mem → Prop} {As : List Value} {st0 : List Value} {o : Int} {nL : Nat} (S : CallFix p m c cc nL s args Ts own) (I : InG D tys N ad cell s M H locs) (hM : MetI l y wsc rm D tys N ad cell (.ref (ad o) :: As) M H.size post) (cw : CallW R s args own C index y bytes maxL ret wsc rm 0 0 n)
    (ho0 : 0 ≤ o) (ho : o < N) {ci : Nat} {fs : List Value} {T : u_T} {nn : Nat} (he : cell o.toNat (rowf M o.toNat) = .inr (ci, fs)) (hc : vwCl[ci]? = some (C, T, nn)) (hn : As.length = n) (hsize : ls.size = nL) (hst : st0 = As.reverse ++ .ref (ad o) :: rest) (hcat : (rest.map fun v => v.category).sum ≤ 8) (hdg : decode cc pc = .ok (.invokevirtual index, 3)) (hf : cells ≤ R.cells ∧ slots ≤ R.slots)
    (kk : ∀ (r : Int) (M' : Mem) (H1 : Heap) (locs1 : List Loc), inR r → post r M' → InG D tys N ad cell s M' H1 locs1 → W p l e R s m args below meth c H1 locs1 cells slots Q (F0 m (pc + 3) ls (.int (i32 r) :: rest))) : W p l e R s m args below meth c H locs cells slots Q (F0 m pc ls st0) := by
  refine va_calli (va_runV (As := As) (rest := rest) (g := F0 m pc ls st0) S hM cw ⟨PreG.blind, va_recv I.1 I.2.1 hc (q0 := o.toNat) (by rw [gw_get (by omega), he, Int.toNat_of_nonneg ho0]), fun U hU hW => ⟨rfl, I.pre hU hW⟩⟩ rfl hn hsize hst (lv_room hcat) hdg hf) I.2.2.2.1 (fun q _ h => I.sub q h) I.sub (fun r M' t H1 locs1 ht hvm hw hB hz1 hk1 hS => ?_)
  obtain ⟨x, rfl, hxr, hp⟩ := hw
  exact kk x M' H1 locs1 hxr hp (I.back ht hB hS)
theorem g_callVv {post : Mem → Prop} {As : List Value} {st0 : List Value} {o : Int} {nL : Nat} (S : CallFix p m c cc nL s args Ts own) (I : InG D tys N ad cell s M H locs) (hM : MetV l y wsc rm D tys N ad cell (.ref (ad o) :: As) M H.size post) (cw : CallW R s args own C index y bytes maxL ret wsc rm 0 0 n)
    (ho0 : 0 ≤ o) (ho : o < N) {ci : Nat} {fs : List Value} {T : u_T} {nn : Nat} (he : cell o.toNat (rowf M o.toNat) = .inr (ci, fs)) (hc : vwCl[ci]? = some (C, T, nn)) (hn : As.length = n) (hsize : ls.size = nL) (hst : st0 = As.reverse ++ .ref (ad o) :: rest) (hcat : (rest.map fun v => v.category).sum ≤ 8) (hdg : decode cc pc = .ok (.invokevirtual index, 3)) (hf : cells ≤ R.cells ∧ slots ≤ R.slots)
    (kk : ∀ (M' : Mem) (H1 : Heap) (locs1 : List Loc), post M' → InG D tys N ad cell s M' H1 locs1 → W p l e R s m args below meth c H1 locs1 cells slots Q (F0 m (pc + 3) ls rest)) : W p l e R s m args below meth c H locs cells slots Q (F0 m pc ls st0) := by
  refine va_callv (va_runV (As := As) (rest := rest) (g := F0 m pc ls st0) S hM cw ⟨PreG.blind, va_recv I.1 I.2.1 hc (q0 := o.toNat) (by rw [gw_get (by omega), he, Int.toNat_of_nonneg ho0]), fun U hU hW => ⟨rfl, I.pre hU hW⟩⟩ rfl hn hsize hst (lv_room hcat) hdg hf) I.2.2.2.1 (fun q _ h => I.sub q h) I.sub (fun M' t H1 locs1 ht hvm hw hB hz1 hk1 hS => ?_)
  exact kk M' H1 locs1 hw (I.back ht hB hS)
theorem g_callSi {post : Int → Mem → Prop} {As : List Value} {st0 : List Value} {nL : Nat} (S : CallFix p m c cc nL s args Ts own) (I : InG D tys N ad cell s M H locs) (hM : MetI l y wsc rm D tys N ad cell As M H.size post) (cw : CallB R s args own index y bytes maxL ret wsc rm 0 0 n ∧ (Cond.static y).before args s = true)
    (hn : As.length = n) (hsize : ls.size = nL) (hst : st0 = As.reverse ++ rest) (hcat : (rest.map fun v => v.category).sum ≤ 8) (hdg : decode cc pc = .ok (.invokestatic index, 3)) (hf : cells ≤ R.cells ∧ slots ≤ R.slots)
    (kk : ∀ (r : Int) (M' : Mem) (H1 : Heap) (locs1 : List Loc), inR r → post r M' → InG D tys N ad cell s M' H1 locs1 → W p l e R s m args below meth c H1 locs1 cells slots Q (F0 m (pc + 3) ls (.int (i32 r) :: rest))) : W p l e R s m args below meth c H locs cells slots Q (F0 m pc ls st0) := by
  refine va_calli (va_runS (As := As) (rest := rest) (g := F0 m pc ls st0) S hM cw ⟨PreG.blind, fun U hU hW => ⟨rfl, I.pre hU hW⟩⟩ rfl hn hsize hst (lv_room hcat) hdg hf) I.2.2.2.1 (fun q _ h => I.sub q h) I.sub (fun r M' t H1 locs1 ht hvm hw hB hz1 hk1 hS => ?_)
  obtain ⟨x, rfl, hxr, hp⟩ := hw
  exact kk x M' H1 locs1 hxr hp (I.back ht hB hS)
theorem g_callSv {post : Mem → Prop} {As : List Value} {st0 : List Value} {nL : Nat} (S : CallFix p m c cc nL s args Ts own) (I : InG D tys N ad cell s M H locs) (hM : MetV l y wsc rm D tys N ad cell As M H.size post) (cw : CallB R s args own index y bytes maxL ret wsc rm 0 0 n ∧ (Cond.static y).before args s = true)
    (hn : As.length = n) (hsize : ls.size = nL) (hst : st0 = As.reverse ++ rest) (hcat : (rest.map fun v => v.category).sum ≤ 8) (hdg : decode cc pc = .ok (.invokestatic index, 3)) (hf : cells ≤ R.cells ∧ slots ≤ R.slots)
    (kk : ∀ (M' : Mem) (H1 : Heap) (locs1 : List Loc), post M' → InG D tys N ad cell s M' H1 locs1 → W p l e R s m args below meth c H1 locs1 cells slots Q (F0 m (pc + 3) ls rest)) : W p l e R s m args below meth c H locs cells slots Q (F0 m pc ls st0) := by
  refine va_callv (va_runS (As := As) (rest := rest) (g := F0 m pc ls st0) S hM cw ⟨PreG.blind, fun U hU hW => ⟨rfl, I.pre hU hW⟩⟩ rfl hn hsize hst (lv_room hcat) hdg hf) I.2.2.2.1 (fun q _ h => I.sub q h) I.sub (fun M' t H1 locs1 ht hvm hw hB hz1 hk1 hS => ?_)
  exact kk M' H1 locs1 hw (I.back ht hB hS)
end MB
