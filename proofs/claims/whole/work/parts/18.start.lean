/-! the worlds as the constructors leave them -/
def M0R : Mem := fun a j => if a = 5 ∧ 0 ≤ j ∧ j < 10 then -1 else 0
def M0X : Mem := fun a j => if a = 18 ∧ 0 ≤ j ∧ j < 10 then -1 else if a = 0 ∧ 7 ≤ j ∧ j ≤ 10 then -1 else 0
theorem M0R_R : Rng M0R := fun a j => by unfold M0R; split <;> decide
theorem M0X_R : Rng M0X := fun a j => by unfold M0X; split; decide; split <;> decide
theorem rowR0 {k : Nat} (h : k ≠ 5) : rowf M0R k = fun _ => 0 := by
  funext j
  unfold rowf M0R
  rw [if_neg (fun q => h (by have := q.1; omega))]
  rfl
theorem rowR5 : rowf M0R 5 = c_bnd 10 := by
  funext j
  unfold rowf M0R c_bnd
  by_cases h : j < 10
  · rw [if_pos h, if_pos ⟨by decide, by omega, by omega⟩]
  · rw [if_neg h, if_neg (by omega)]
    rfl
theorem rowX0 {k : Nat} (h : k ≠ 18) (h0 : k ≠ 0) : rowf M0X k = fun _ => 0 := by
  funext j
  unfold rowf M0X
  rw [if_neg (fun q => h (by have := q.1; omega)), if_neg (fun q => h0 (by have := q.1; omega))]
  rfl
theorem rowX18 : rowf M0X 18 = c_bnd 10 := by
  funext j
  unfold rowf M0X c_bnd
  by_cases h : j < 10
  · rw [if_pos h, if_pos ⟨by decide, by omega, by omega⟩]
  · rw [if_neg h, if_neg (by omega), if_neg (by omega)]
    rfl
def adR (h : Nat) (u : SX9) : Int → Nat := fun k => if k = 0 then h else u (k.toNat - 1)
set_option maxRecDepth 100000 in
theorem gwR0 (D : va_G) (cI cG cZ : ClassId) (h : Nat) (u : SX9) : gw 26 (adR h u) (cellR (D, cI, cZ, adR h u)) M0R = cwX9 cI cG cZ h u := by
  obtain ⟨g, hg⟩ : ∃ g : GP, g = (D, cI, cZ, adR h u) := ⟨_, rfl⟩
  have e : gw 26 (adR h u) (cellR g) M0R = [(adR h u 0, cellR g 0 (rowf M0R 0)), (adR h u 1, cellR g 1 (rowf M0R 1)), (adR h u 2, cellR g 2 (rowf M0R 2)), (adR h u 3, cellR g 3 (rowf M0R 3)), (adR h u 4, cellR g 4 (rowf M0R 4)), (adR h u 5, cellR g 5 (rowf M0R 5)), (adR h u 6, cellR g 6 (rowf M0R 6)), (adR h u 7, cellR g 7 (rowf M0R 7)), (adR h u 8, cellR g 8 (rowf M0R 8)), (adR h u 9, cellR g 9 (rowf M0R 9)), (adR h u 10, cellR g 10 (rowf M0R 10)), (adR h u 11, cellR g 11 (rowf M0R 11)), (adR h u 12, cellR g 12 (rowf M0R 12)), (adR h u 13, cellR g 13 (rowf M0R 13)), (adR h u 14, cellR g 14 (rowf M0R 14)), (adR h u 15, cellR g 15 (rowf M0R 15)), (adR h u 16, cellR g 16 (rowf M0R 16)), (adR h u 17, cellR g 17 (rowf M0R 17)), (adR h u 18, cellR g 18 (rowf M0R 18)), (adR h u 19, cellR g 19 (rowf M0R 19)), (adR h u 20, cellR g 20 (rowf M0R 20)), (adR h u 21, cellR g 21 (rowf M0R 21)), (adR h u 22, cellR g 22 (rowf M0R 22)), (adR h u 23, cellR g 23 (rowf M0R 23)), (adR h u 24, cellR g 24 (rowf M0R 24)), (adR h u 25, cellR g 25 (rowf M0R 25))] := rfl
  rw [← hg, e, rowR0 (show 0 ≠ 5 by decide), rowR0 (show 1 ≠ 5 by decide), rowR0 (show 2 ≠ 5 by decide), rowR0 (show 3 ≠ 5 by decide), rowR0 (show 4 ≠ 5 by decide), rowR5, rowR0 (show 6 ≠ 5 by decide), rowR0 (show 7 ≠ 5 by decide), rowR0 (show 8 ≠ 5 by decide), rowR0 (show 9 ≠ 5 by decide), rowR0 (show 10 ≠ 5 by decide), rowR0 (show 11 ≠ 5 by decide), rowR0 (show 12 ≠ 5 by decide), rowR0 (show 13 ≠ 5 by decide), rowR0 (show 14 ≠ 5 by decide), rowR0 (show 15 ≠ 5 by decide), rowR0 (show 16 ≠ 5 by decide), rowR0 (show 17 ≠ 5 by decide), rowR0 (show 18 ≠ 5 by decide), rowR0 (show 19 ≠ 5 by decide), rowR0 (show 20 ≠ 5 by decide), rowR0 (show 21 ≠ 5 by decide), rowR0 (show 22 ≠ 5 by decide), rowR0 (show 23 ≠ 5 by decide), rowR0 (show 24 ≠ 5 by decide), rowR0 (show 25 ≠ 5 by decide)]
  subst hg
  rfl
