/-! the law's own world: the class's and the reference's, side by side -/
def LwIn (g g2 : GP) (s : State) (MX MR : Mem) (H : Heap) (locs : List Loc) : Prop :=
  va_K g.1 vwCl (tyX g) s ∧ va_K g2.1 vwCl (tyR g2) s ∧ va_P g.1 vwCl (gw 88 g.2.2.2 (cellX g) MX) H ∧ va_P g2.1 vwCl (gw 26 g2.2.2.2 (cellR g2) MR) H ∧ va_D (fun q => s.heap.size ≤ q) (gw 88 g.2.2.2 (cellX g) MX) ∧ va_D (fun q => s.heap.size ≤ q) (gw 26 g2.2.2.2 (cellR g2) MR) ∧ (∀ i j : Nat, i < 88 → j < 26 → g.2.2.2 i ≠ g2.2.2.2 j) ∧ va_S (fun q => s.heap.size ≤ q) s.heap H locs ∧ Rng MX ∧ Rng MR
theorem AG_new {N : Nat} {ad : Int → Nat} {cell : Nat → (Nat → Int32) → va_E} {M : Mem} {s : State} {H : Heap} {locs : List Loc} (hD : va_D (fun q => s.heap.size ≤ q) (gw N ad cell M)) (hS : va_S (fun q => s.heap.size ≤ q) s.heap H locs) : ∀ q, AG N ad H.size q → s.heap.size ≤ q := by
  intro q h
  rcases h with ⟨k, hk, rfl⟩ | h
  · exact hD.2 k _ (gw_get hk)
  · exact Nat.le_trans hS.1 h
theorem kept_other {N N2 : Nat} {ad ad2 : Int → Nat} {cell2 : Nat → (Nat → Int32) → va_E} {M2 : Mem} {D : va_G} {H H1 : Heap} (hP : va_P D vwCl (gw N2 ad2 cell2 M2) H) (hap : ∀ i j : Nat, i < N → j < N2 → ad i ≠ ad2 j) (hk : ∀ q : Nat, q < H.size → ¬ AG N ad H.size q → H1[q]? = H[q]?) : va_P D vwCl (gw N2 ad2 cell2 M2) H1 := by
  refine hP.kept (fun k x hx => ?_)
  have hl := (hP k x hx).lt
  obtain ⟨h1, h2⟩ := gw_get' hx
  refine hk x.1 hl (fun h => ?_)
  rcases h with ⟨i, hi, e⟩ | h
  · rw [h2] at e
    exact hap i k hi h1 e.symm
  · omega
section ML
variable {p : Program} {l : Launch} {e : Env} {R : Room} {s : State} {m : MethodId} {args : Array Value} {below : List Frame} {meth : Method} {c : Code} {H : Heap} {locs : List Loc} {cells slots : Nat} {Q : State → Prop}
variable {cc : ByteArray} {pc : Nat} {ls : Array Slot} {rest : List Value} {g g2 : GP} {MX MR : Mem}
variable {y : MethodName} {bytes : ByteArray} {maxL n index : Nat} {ret : Option FieldType} {wsc : List Cond} {rm : Room} {Ts : List Cond} {own : String}
theorem lw_callX {post : Int → Mem → Prop} {As : List Value} {st0 : List Value} {nL : Nat} (S : CallFix p m c cc nL s args Ts own) (I : LwIn g g2 s MX MR H locs) (hM : MIX l y wsc rm g (.ref (g.2.2.2 0) :: As) MX H.size post) (cw : CallW R s args own RX8 index y bytes maxL ret wsc rm 0 0 n)
    (hn : As.length = n) (hsize : ls.size = nL) (hst : st0 = As.reverse ++ .ref (g.2.2.2 0) :: rest) (hcat : (rest.map fun v => v.category).sum ≤ 8) (hdg : decode cc pc = .ok (.invokevirtual index, 3)) (hf : cells ≤ R.cells ∧ slots ≤ R.slots)
    (kk : ∀ (r : Int) (M' : Mem) (H1 : Heap) (locs1 : List Loc), inR r → post r M' → LwIn g g2 s M' MR H1 locs1 → W p l e R s m args below meth c H1 locs1 cells slots Q (F0 m (pc + 3) ls (.int (i32 r) :: rest))) : W p l e R s m args below meth c H locs cells slots Q (F0 m pc ls st0) := by
  obtain ⟨hK, hK2, hP, hP2, hD, hD2, hap, hS, hR, hR2⟩ := I
  have hsub := AG_new hD hS
  refine va_calli (va_runV (As := As) (rest := rest) (g := F0 m pc ls st0) S hM cw ⟨PreG.blind, va_recv hK hP (ci := 8) (q0 := 0) (q := (RX8, TX8, 12)) rfl (gw_get (by decide)), fun U hU hW => ⟨rfl, by rw [hU], by rw [hU]; exact hP, va_K.moved hW.alike hK, hD.weaken (fun _ _ _ _ => trivial), hR⟩⟩ rfl hn hsize hst (lv_room hcat) hdg hf) hS (fun q _ h => hsub q h) hsub (fun r M' t H1 locs1 ht hvm hw hB hz1 hk1 hS1 => ?_)
  obtain ⟨x, rfl, hxr, hp⟩ := hw
  obtain ⟨bP, bK, bD, bR⟩ := hB
  rw [ht] at bP
  exact kk x M' H1 locs1 hxr hp ⟨hK, hK2, bP, kept_other hP2 hap hk1, bD.weaken (fun k q _ h => hsub _ h), hD2, hap, hS1, bR, hR2⟩
theorem lw_callR {post : Int → Mem → Prop} {As : List Value} {st0 : List Value} {nL : Nat} (S : CallFix p m c cc nL s args Ts own) (I : LwIn g g2 s MX MR H locs) (hM : MIR l y wsc rm g2 (.ref (g2.2.2.2 0) :: As) MR H.size post) (cw : CallW R s args own RX9 index y bytes maxL ret wsc rm 0 0 n)
    (hn : As.length = n) (hsize : ls.size = nL) (hst : st0 = As.reverse ++ .ref (g2.2.2.2 0) :: rest) (hcat : (rest.map fun v => v.category).sum ≤ 8) (hdg : decode cc pc = .ok (.invokevirtual index, 3)) (hf : cells ≤ R.cells ∧ slots ≤ R.slots)
    (kk : ∀ (r : Int) (M' : Mem) (H1 : Heap) (locs1 : List Loc), inR r → post r M' → LwIn g g2 s MX M' H1 locs1 → W p l e R s m args below meth c H1 locs1 cells slots Q (F0 m (pc + 3) ls (.int (i32 r) :: rest))) : W p l e R s m args below meth c H locs cells slots Q (F0 m pc ls st0) := by
  obtain ⟨hK, hK2, hP, hP2, hD, hD2, hap, hS, hR, hR2⟩ := I
  have hsub := AG_new hD2 hS
  refine va_calli (va_runV (As := As) (rest := rest) (g := F0 m pc ls st0) S hM cw ⟨PreG.blind, va_recv hK2 hP2 (ci := 9) (q0 := 0) (q := (RX9, TX9, 31)) rfl (gw_get (by decide)), fun U hU hW => ⟨rfl, by rw [hU], by rw [hU]; exact hP2, va_K.moved hW.alike hK2, hD2.weaken (fun _ _ _ _ => trivial), hR2⟩⟩ rfl hn hsize hst (lv_room hcat) hdg hf) hS (fun q _ h => hsub q h) hsub (fun r M' t H1 locs1 ht hvm hw hB hz1 hk1 hS1 => ?_)
  obtain ⟨x, rfl, hxr, hp⟩ := hw
  obtain ⟨bP, bK, bD, bR⟩ := hB
  rw [ht] at bP
  exact kk x M' H1 locs1 hxr hp ⟨hK, hK2, kept_other hP (fun i j hi hj q => hap j i hj hi q.symm) hk1, bP, hD, bD.weaken (fun k q _ h => hsub _ h), hap, hS1, hR, bR⟩
/-- a number of the script -/
theorem lw_sld (hx : p.tables.exec = Jvm.exec) (hb : c.code = cc) {b L : Nat} {xs : Nat → Int32} (hX : va_X b L xs s s.heap) (hbl : b < s.heap.size) (I : LwIn g g2 s MX MR H locs) {i : Int} (hin : 0 ≤ i ∧ i < L) (hL : L ≤ 2560) (hdg : decode cc pc = .ok (.iaload, 1))
    (kk : W p l e R s m args below meth c H locs cells slots Q (F0 m (pc + 1) ls (.int (i32 (xs i.toNat).toInt) :: rest))) : W p l e R s m args below meth c H locs cells slots Q (F0 m pc ls (.int (i32 i) :: .ref b :: rest)) := by
  obtain ⟨h1, h2⟩ := i32_in hin.1 hin.2 (by omega)
  refine va_sld (A := fun q => s.heap.size ≤ q) hx hb hX hbl (Nat.not_le.mpr hbl) I.2.2.2.2.2.2.2.1 (by rw [Int.toNat_natCast] at h1; exact h1) hdg ?_
  rw [h2, ← Int32.ofInt_toInt (xs i.toNat)]
  rw [Int32.ofInt_toInt]
  rw [i32, Int32.ofInt_toInt] at kk
  exact kk
theorem lw_slen (hx : p.tables.exec = Jvm.exec) (hb : c.code = cc) {b L : Nat} {xs : Nat → Int32} (hX : va_X b L xs s s.heap) (hbl : b < s.heap.size) (I : LwIn g g2 s MX MR H locs) (hdg : decode cc pc = .ok (.arraylength, 1))
    (kk : W p l e R s m args below meth c H locs cells slots Q (F0 m (pc + 1) ls (.int (i32 (L : Int)) :: rest))) : W p l e R s m args below meth c H locs cells slots Q (F0 m pc ls (.ref b :: rest)) := by
  refine va_slen (A := fun q => s.heap.size ≤ q) hx hb hX hbl (Nat.not_le.mpr hbl) I.2.2.2.2.2.2.2.1 hdg ?_
  rw [← Int32.ofInt_eq_ofNat]
  exact kk
end ML
