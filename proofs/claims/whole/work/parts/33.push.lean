/-! the class's push -/
def NetD (z : Int) (M : Mem) (π : Int → Int) : Prop :=
  (∀ e : Int, 0 ≤ e → e < M (8 + z) 0 → 0 ≤ M (32 + z) e ∧ M (32 + z) e + M (32 + z) (pr1 e) ≤ 1000000) ∧ PotZ z M π ∧ (∀ x : Int, 0 ≤ x → x < 22 → 0 ≤ π x) ∧ π 20 = 0
  ∧ (∀ w : Int → Int, fs (M (8 + z) 0) (M (32 + z)) (fun e => w (M (28 + z) e) - w (M (30 + z) e)) = M (8 + z) 1 * (w 20 - w 21))
  ∧ fs (M (8 + z) 0) (M (32 + z)) (M (34 + z)) = M (8 + z) 2 ∧ (0 ≤ M (8 + z) 1 ∧ 0 ≤ M (8 + z) 2 ∧ M (8 + z) 2 ≤ M (8 + z) 1 * 198000)
  ∧ ∀ e : Int, 0 ≤ e → e < M (8 + z) 0 → e % 2 = 1 → M (32 + z) e ≤ M (8 + z) 1
def OffN (z : Int) (M M' : Mem) : Prop := (∀ k : Int, k ≠ 32 + z → k ≠ 8 + z → k ≠ 36 + z → k ≠ 38 + z → M' k = M k) ∧ M' (8 + z) 0 = M (8 + z) 0 ∧ ∀ e : Int, 0 ≤ e → e < M (8 + z) 0 → M' (32 + z) e + M' (32 + z) (pr1 e) = M (32 + z) e + M (32 + z) (pr1 e)
theorem X5_push {z want : Int} {M0 : Mem} {π0 : Int → Int} {post : Mem → Prop} (hz : z = 0 ∨ z = 1) (hw : want ≤ 10000) (hS : NetS z M0) (hD : NetD z M0 π0)
    (h : ∀ (M' : Mem) (π : Int → Int), OffN z M0 M' → NetD z M' π → NetS z M' → M0 (8 + z) 1 ≤ M' (8 + z) 1 → (M' (8 + z) 1 ≤ want ∨ M' (8 + z) 1 = M0 (8 + z) 1) → (want ≤ M' (8 + z) 1 ∨ ∃ ra : Int → Int, FinZ z M' π M' ra ∧ 1000000 ≤ M' (36 + z) 21) → post M') : wpX5_push z want M0 post := by
  have key : ∀ (f : Nat) (x : Int) (M : Mem) (π : Int → Int), 0 ≤ x → x ≤ 10000 → 10000 - x < f → x ≤ M (8 + z) 1 → OffN z M0 M → NetD z M π → NetS z M → M0 (8 + z) 1 ≤ M (8 + z) 1 → (M (8 + z) 1 ≤ want ∨ M (8 + z) 1 = M0 (8 + z) 1) → lpX5_push_2 z post f want x M := by
    intro f
    induction f with
    | zero => intro x M π _ _ g; omega
    | succ f ih =>
      intro x M π x0 x1 hf xm hO hD hS hm hm2
      unfold lpX5_push_2 jbX5_push_40
      refine ⟨fun g => h M π hO hD hS hm hm2 (Or.inl (by omega)), fun g => ⟨fun g1 => h M π hO hD hS hm hm2 (Or.inl g1), fun g1 => ?_⟩⟩
      obtain ⟨d1, d2, d3, d4, d5, d6, ⟨d7, d8, d9⟩, dx⟩ := hD
      refine X5_search hz hS d2 d3 d4 (fun c M1 ra hO1 F hc hc1 hc0 => ?_)
      have s8 : M1 (8 + z) = M (8 + z) := hO1 _ (by omega) (by omega)
      have s28 : M1 (28 + z) = M (28 + z) := hO1 _ (by omega) (by omega)
      have s30 : M1 (30 + z) = M (30 + z) := hO1 _ (by omega) (by omega)
      have s32 : M1 (32 + z) = M (32 + z) := hO1 _ (by omega) (by omega)
      have s34 : M1 (34 + z) = M (34 + z) := hO1 _ (by omega) (by omega)
      refine ⟨fun g2 => ?_, fun g2 => ?_⟩
      · refine h M1 π ⟨fun k p1 p2 p3 p4 => by rw [hO1 k p3 p4]; exact hO.1 k p1 p2 p3 p4, by rw [s8]; exact hO.2.1, fun e e0 e1 => by rw [s32]; exact hO.2.2 e e0 e1⟩ ?_ ?_ (by rw [s8]; exact hm) (by rw [s8]; exact hm2) (Or.inr ⟨ra, ?_, hc0 g2⟩)
        · unfold NetD PotZ
          rw [s8, s28, s30, s32, s34]
          exact ⟨d1, d2, d3, d4, d5, d6, ⟨d7, d8, d9⟩, dx⟩
        · unfold NetS
          rw [s8, s28, s30, s34]
          exact hS
        · unfold FinZ
          rw [s8, s28, s30, s32, s34]
          exact F
      · have c1 : c = 1 := by
          rcases hc with r | r
          · exact absurd r g2
          · exact r
        have ht := hc1 c1
        rw [s8]
        refine ⟨by omega, X5_carry hz hS d2 d3 d1 (by omega) (by omega) ⟨d8, d9⟩ hO1 F ht (fun M2 m m1 m2 hO2 e0 e1 e2 A => ⟨by omega, ?_⟩)⟩
        have t28 : M2 (28 + z) = M (28 + z) := by rw [hO2 _ (by omega) (by omega), s28]
        have t30 : M2 (30 + z) = M (30 + z) := by rw [hO2 _ (by omega) (by omega), s30]
        have t34 : M2 (34 + z) = M (34 + z) := by rw [hO2 _ (by omega) (by omega), s34]
        obtain ⟨A1, A2, A3, A4, A5, A6, A7⟩ := A
        have p21 := (F.1 21 (by omega) (by omega)).2.1 ht
        have q20 := F.1 20 (by omega) (by omega)
        have z20 : M1 (36 + z) 20 = 0 := by
          have h1 := q20.2.2.1 rfl
          have h2 := q20.2.1 (by omega)
          omega
        refine ih (x + 1) M2 (nπ 1000000 π (M1 (36 + z)) (M1 (36 + z) 21 - π 21)) (by omega) (by omega) (by omega) (by omega) ⟨fun k p1 p2 p3 p4 => by rw [hO2 k p1 p2, hO1 k p3 p4]; exact hO.1 k p1 p2 p3 p4, by rw [e0]; exact hO.2.1, fun e g0 g1 => ?_⟩ ?_ ?_ (by omega) (Or.inl (by omega))
        · rw [(A2 e g0 (by rw [hO.2.1]; exact g1)).2.1]
          exact hO.2.2 e g0 g1
        · refine ⟨fun e g0 g1 => ?_, fun e g0 g1 g2 => ?_, fun x x0 x1 => ?_, ?_, fun w => ?_, ?_, ?_, fun e g0 g1 g2 => ?_⟩
          · rw [e0] at g1
            obtain ⟨b1, b2, b3⟩ := A2 e g0 g1
            rw [b2]
            exact ⟨b1, (d1 e g0 g1).2⟩
          · rw [e0] at g1
            rw [t28, t30, t34]
            exact (A2 e g0 g1).2.2 g2
          · have u1 := F.1 x x0 x1
            have u2 := d3 x x0 x1
            unfold nπ
            split
            · rename_i c3
              have := u1.2.1 c3
              omega
            · omega
          · unfold nπ
            rw [z20, d4, if_pos (by omega)]
            omega
          · rw [e0, t28, t30, A4 w, d5 w, e1, Int.add_mul]
          · rw [e0, t34, A5, d6, e2, z20, Int.sub_zero]
          · rw [e1, e2]
            have v1 : m * M1 (36 + z) 21 ≤ m * 198000 := Int.mul_le_mul_of_nonneg_left (by omega) (by omega)
            have v2 : 0 ≤ m * M1 (36 + z) 21 := Int.mul_nonneg (by omega) (by have := d3 21 (by omega) (by omega); omega)
            omega
          · rw [e0] at g1
            rw [e1]
            have := A6 e g0 g1
            have := dx e g0 g1 g2
            omega
        · unfold NetS
          rw [e0, t28, t30, t34]
          exact hS
  exact ⟨10001, key 10001 0 M0 π0 (by omega) (by omega) (by omega) hD.2.2.2.2.2.2.1.1 ⟨fun _ _ _ _ _ => rfl, rfl, fun _ _ _ => rfl⟩ hD hS (Int.le_refl _) (Or.inr rfl)⟩
