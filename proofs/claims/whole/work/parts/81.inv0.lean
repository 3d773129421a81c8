/-! at the start -/
theorem inv0 : Inv M0X M0R := by
  have x18 : ∀ p : Int, 0 ≤ p → p < 10 → M0X 18 p = -1 := fun p a b => if_pos ⟨rfl, a, b⟩
  have x0 : ∀ k i : Int, k ≠ 18 → k ≠ 0 → M0X k i = 0 := fun k i a b => by
    unfold M0X
    rw [if_neg (fun z => a z.1), if_neg (fun z => b z.1)]
  have r0 : ∀ k i : Int, k ≠ 5 → M0R k i = 0 := fun k i a => if_neg (fun z => a z.1)
  have r5 : ∀ p : Int, 0 ≤ p → p < 10 → M0R 5 p = -1 := fun p a b => if_pos ⟨rfl, a, b⟩
  have e10 := x0 1 0 (by omega) (by omega)
  have e11 := x0 1 1 (by omega) (by omega)
  have e20 := x0 2 0 (by omega) (by omega)
  have e30 := x0 3 0 (by omega) (by omega)
  have e31 := x0 3 1 (by omega) (by omega)
  have e011 : M0X 0 11 = 0 := by
    unfold M0X
    rw [if_neg (by omega), if_neg (by omega)]
  refine ⟨?_, ?_, Or.inl ?_, Or.inl ?_⟩
  · unfold BsX
    rw [e30, e31, e10, e11]
    refine ⟨?_, by omega, by omega, fun u v a b c d => by rw [x0 (60 + u) v (by omega) (by omega)]; exact ⟨by omega, fun _ => rfl⟩, fun u v a b => by omega, ⟨fun u a b => by omega, fun u v a b => by omega, fun u x v a b => by omega, fun u v a b => by omega⟩⟩
    refine wf_X e10 e11 e20 (by omega) (by omega) (by omega) (fun j a b => by omega) (fun g p a b c d => by rw [x0 (80 + g) p (by omega) (by omega)]; exact ⟨by omega, by omega, fun _ => rfl⟩) (fun p a b => by rw [x18 p a b]; exact ⟨by omega, by omega, fun _ => rfl⟩)
  · unfold BsR
    rw [e10, e11, e20, e30, e011]
    exact ⟨⟨r0 0 0 (by omega), r0 0 1 (by omega), r0 0 5 (by omega), r0 0 9 (by omega), r0 0 10 (by omega)⟩, fun j a b => by omega, fun g p a b c d => by rw [r0 4 _ (by omega), x0 (80 + g) p (by omega) (by omega)], fun p a b => by rw [r5 p a b, x18 p a b], fun u v a b c d => by rw [r0 6 _ (by omega), x0 (60 + u) v (by omega) (by omega)], fun i a b => by omega⟩
  · unfold M0X
    rw [if_neg (by omega), if_pos ⟨rfl, by omega, by omega⟩]
  · unfold M0X
    rw [if_neg (by omega), if_pos ⟨rfl, by omega, by omega⟩]
