def jbX0_keep_82 (post : Mem → Prop) (M : Mem) : Prop := post M
def wpX0_keep (a1 a2 a3 a4 : Int) (M : Mem) (post : Mem → Prop) : Prop := inR ((M 3 1) + (M 3 0)) ∧ (0 ≤ ((M 3 1) + (M 3 0)) ∧ (inR (((M 3 1) + (M 3 0)) % 30) ∧ (∀ v12_5 : Int, v12_5 = (((M 3 1) + (M 3 0)) % 30) → ((0 ≤ v12_5 ∧ v12_5 < 30) ∧ (∀ M21_7 : Mem, M21_7 = mset M 19 v12_5 a1 → ((0 ≤ v12_5 ∧ v12_5 < 30) ∧ (∀ M29_9 : Mem, M29_9 = mset M21_7 20 v12_5 a2 → ((0 ≤ v12_5 ∧ v12_5 < 30) ∧ (∀ M37_11 : Mem, M37_11 = mset M29_9 21 v12_5 a3 → ((0 ≤ v12_5 ∧ v12_5 < 30) ∧ (∀ M46_13 : Mem, M46_13 = mset M37_11 22 v12_5 a4 → ((30 ≤ (M46_13 3 0) → (inR ((M46_13 3 1) + 1) ∧ (0 ≤ ((M46_13 3 1) + 1) ∧ (inR (((M46_13 3 1) + 1) % 30) ∧ (∀ M79_20 : Mem, M79_20 = mset M46_13 3 1 (((M46_13 3 1) + 1) % 30) → (jbX0_keep_82 post M79_20)))))) ∧ (¬ 30 ≤ (M46_13 3 0) → (inR ((M46_13 3 0) + 1) ∧ (∀ M63_23 : Mem, M63_23 = mset M46_13 3 0 ((M46_13 3 0) + 1) → (jbX0_keep_82 post M63_23))))))))))))))))
def wpX0_dropLatest (M : Mem) (post : Int → Mem → Prop) : Prop := inR ((M 3 0) - 1) ∧ (∀ M7_2 : Mem, M7_2 = mset M 3 0 ((M 3 0) - 1) → (inR ((M7_2 3 1) + (M7_2 3 0)) ∧ (0 ≤ ((M7_2 3 1) + (M7_2 3 0)) ∧ (inR (((M7_2 3 1) + (M7_2 3 0)) % 30) ∧ (post (((M7_2 3 1) + (M7_2 3 0)) % 30) M7_2)))))
def lpJ7_fill_53178_5 (r0 : Int) (post : Mem → Prop) : Nat → Int → Int → Int → Mem → Prop
  | 0, _, _, _, _ => False
  | n + 1, x1, x2, x3, M => (x3 ≤ x2 → (post M)) ∧ (¬ x3 ≤ x2 → ((0 ≤ x2 ∧ x2 < (lenX r0)) ∧ (∀ M13_2 : Mem, M13_2 = mset M r0 x2 x1 → (inR (x2 + 1) ∧ (lpJ7_fill_53178_5 r0 post n x1 (x2 + 1) x3 M13_2)))))
def wpJ7_fill_53178 (r0 : Int) (a1 : Int) (M : Mem) (post : Mem → Prop) : Prop := 0 < (lenX r0) ∧ (∀ v4_1 : Int, v4_1 = (lenX r0) → (∃ j, lpJ7_fill_53178_5 r0 post j a1 0 v4_1 M))
def lpX1_wipe_2 (post : Mem → Prop) : Nat → Int → Mem → Prop
  | 0, _, _ => False
  | n + 1, x1, M => (10 ≤ x1 → (post M)) ∧ (¬ 10 ≤ x1 → ((0 ≤ x1 ∧ x1 < 10) ∧ (wpJ7_fill_53178 (60 + x1) 0 M (fun M15_2 => inR (x1 + 1) ∧ (lpX1_wipe_2 post n (x1 + 1) M15_2)))))
def wpX1_wipe (M : Mem) (post : Mem → Prop) : Prop := ∃ j, lpX1_wipe_2 post j 0 M
def lpX1_wipePlace_2 (post : Mem → Prop) : Nat → Int → Int → Mem → Prop
  | 0, _, _, _ => False
  | n + 1, x1, x2, M => (10 ≤ x2 → (post M)) ∧ (¬ 10 ≤ x2 → ((0 ≤ x1 ∧ x1 < 10) ∧ ((0 ≤ x2 ∧ x2 < 10) ∧ (∀ M16_3 : Mem, M16_3 = mset M (60 + x1) x2 0 → ((0 ≤ x2 ∧ x2 < 10) ∧ ((0 ≤ x1 ∧ x1 < 10) ∧ (∀ M25_6 : Mem, M25_6 = mset M16_3 (60 + x2) x1 0 → (inR (x2 + 1) ∧ (lpX1_wipePlace_2 post n x1 (x2 + 1) M25_6)))))))))
def wpX1_wipePlace (a1 : Int) (M : Mem) (post : Mem → Prop) : Prop := ∃ j, lpX1_wipePlace_2 post j a1 0 M
def jbX1_others_32 (post : Int → Mem → Prop) (k4 : Int → Int → Mem → Prop) (k12 : Int → Int → Int → Mem → Prop) (x1 x2 x3 : Int) (M : Mem) : Prop := inR (x3 + 1) ∧ (k12 x1 x2 (x3 + 1) M)
def lpX1_others_12 (post : Int → Mem → Prop) (k4 : Int → Int → Mem → Prop) : Nat → Int → Int → Int → Mem → Prop
  | 0, _, _, _, _ => False
  | n + 1, x1, x2, x3, M => (10 ≤ x3 → (inR (x2 + 1) ∧ (k4 x1 (x2 + 1) M))) ∧ (¬ 10 ≤ x3 → ((0 ≤ x2 ∧ x2 < 10) ∧ ((0 ≤ x3 ∧ x3 < 10) ∧ (((M (60 + x2) x3) = 0 → (jbX1_others_32 post k4 (fun y1 y2 y3 N => lpX1_others_12 post k4 n y1 y2 y3 N) x1 x2 x3 M)) ∧ (¬ (M (60 + x2) x3) = 0 → (inR (x1 + 1) ∧ (jbX1_others_32 post k4 (fun y1 y2 y3 N => lpX1_others_12 post k4 n y1 y2 y3 N) (x1 + 1) x2 x3 M)))))))
def lpX1_others_4 (post : Int → Mem → Prop) : Nat → Int → Int → Mem → Prop
  | 0, _, _, _ => False
  | n + 1, x1, x2, M => (10 ≤ x2 → (post x1 M)) ∧ (¬ 10 ≤ x2 → (∃ j, lpX1_others_12 post (fun y1 y2 N => lpX1_others_4 post n y1 y2 N) j x1 x2 0 M))
def wpX1_others (M : Mem) (post : Int → Mem → Prop) : Prop := ∃ j, lpX1_others_4 post j 0 0 M
def lpX1_firstWrongFrom_13 (r2 : Int) (post : Int → Mem → Prop) (k2 : Int → Int → Mem → Prop) : Nat → Int → Int → Int → Int → Mem → Prop
  | 0, _, _, _, _, _ => False
  | n + 1, x1, x3, x4, x5, M => (x1 ≤ x5 → ((0 ≤ x3 ∧ x3 < (lenX r2)) ∧ ((x4 = (M r2 x3) → (inR (x3 + 1) ∧ (k2 x1 (x3 + 1) M))) ∧ (¬ x4 = (M r2 x3) → (post x3 M))))) ∧ (¬ x1 ≤ x5 → ((0 ≤ x3 ∧ x3 < 10) ∧ ((0 ≤ x5 ∧ x5 < 10) ∧ (inR (x4 + (M (60 + x3) x5)) ∧ (∀ v31_9 : Int, v31_9 = (x4 + (M (60 + x3) x5)) → (inR (x5 + 1) ∧ (lpX1_firstWrongFrom_13 r2 post k2 n x1 x3 v31_9 (x5 + 1) M)))))))
def lpX1_firstWrongFrom_2 (r2 : Int) (post : Int → Mem → Prop) : Nat → Int → Int → Mem → Prop
  | 0, _, _, _ => False
  | n + 1, x1, x3, M => (x1 ≤ x3 → (post (-1) M)) ∧ (¬ x1 ≤ x3 → (∃ j, lpX1_firstWrongFrom_13 r2 post (fun y1 y3 N => lpX1_firstWrongFrom_2 r2 post n y1 y3 N) j x1 x3 0 0 M))
def wpX1_firstWrongFrom (r2 : Int) (a1 : Int) (M : Mem) (post : Int → Mem → Prop) : Prop := ∃ j, lpX1_firstWrongFrom_2 r2 post j a1 0 M
def lpX1_firstWrongTo_13 (r2 : Int) (post : Int → Mem → Prop) (k2 : Int → Int → Mem → Prop) : Nat → Int → Int → Int → Int → Mem → Prop
  | 0, _, _, _, _, _ => False
  | n + 1, x1, x3, x4, x5, M => (x1 ≤ x5 → ((0 ≤ x3 ∧ x3 < (lenX r2)) ∧ ((x4 = (M r2 x3) → (inR (x3 + 1) ∧ (k2 x1 (x3 + 1) M))) ∧ (¬ x4 = (M r2 x3) → (post x3 M))))) ∧ (¬ x1 ≤ x5 → ((0 ≤ x5 ∧ x5 < 10) ∧ ((0 ≤ x3 ∧ x3 < 10) ∧ (inR (x4 + (M (60 + x5) x3)) ∧ (∀ v31_9 : Int, v31_9 = (x4 + (M (60 + x5) x3)) → (inR (x5 + 1) ∧ (lpX1_firstWrongTo_13 r2 post k2 n x1 x3 v31_9 (x5 + 1) M)))))))
def lpX1_firstWrongTo_2 (r2 : Int) (post : Int → Mem → Prop) : Nat → Int → Int → Mem → Prop
  | 0, _, _, _ => False
  | n + 1, x1, x3, M => (x1 ≤ x3 → (post (-1) M)) ∧ (¬ x1 ≤ x3 → (∃ j, lpX1_firstWrongTo_13 r2 post (fun y1 y3 N => lpX1_firstWrongTo_2 r2 post n y1 y3 N) j x1 x3 0 0 M))
def wpX1_firstWrongTo (r2 : Int) (a1 : Int) (M : Mem) (post : Int → Mem → Prop) : Prop := ∃ j, lpX1_firstWrongTo_2 r2 post j a1 0 M
def lpX1_cost_15 (post : Int → Mem → Prop) (k4 : Int → Int → Mem → Prop) : Nat → Int → Int → Int → Mem → Prop
  | 0, _, _, _, _ => False
  | n + 1, x2, x3, x4, M => ((M 1 0) ≤ x4 → (inR (x3 + 1) ∧ (k4 x2 (x3 + 1) M))) ∧ (¬ (M 1 0) ≤ x4 → ((0 ≤ x3 ∧ x3 < 10) ∧ ((0 ≤ x4 ∧ x4 < 10) ∧ ((0 ≤ x3 ∧ x3 < 10) ∧ ((0 ≤ x4 ∧ x4 < 10) ∧ (inR (x2 + ((M (60 + x3) x4) * (M (50 + x3) x4))) ∧ (∀ v45_10 : Int, v45_10 = (x2 + ((M (60 + x3) x4) * (M (50 + x3) x4))) → (inR (x4 + 1) ∧ (lpX1_cost_15 post k4 n v45_10 x3 (x4 + 1) M)))))))))
def lpX1_cost_4 (post : Int → Mem → Prop) : Nat → Int → Int → Mem → Prop
  | 0, _, _, _ => False
  | n + 1, x2, x3, M => ((M 1 0) ≤ x3 → (post x2 M)) ∧ (¬ (M 1 0) ≤ x3 → (∃ j, lpX1_cost_15 post (fun y2 y3 N => lpX1_cost_4 post n y2 y3 N) j x2 x3 0 M))
def wpX1_cost (M : Mem) (post : Int → Mem → Prop) : Prop := ∃ j, lpX1_cost_4 post j 0 0 M
def jbX2_has_17 (post : Int → Mem → Prop) (t0 : Int) (M : Mem) : Prop := (t0 = 0 ∨ t0 = 1) ∧ (post t0 M)
def jbX2_has_16 (post : Int → Mem → Prop) (M : Mem) : Prop := jbX2_has_17 post 0 M
def wpX2_has (a1 : Int) (M : Mem) (post : Int → Mem → Prop) : Prop := (a1 < 0 → (jbX2_has_16 post M)) ∧ (¬ a1 < 0 → (((M 2 0) ≤ a1 → (jbX2_has_16 post M)) ∧ (¬ (M 2 0) ≤ a1 → (jbX2_has_17 post 1 M))))
def lpX2_total_4 (post : Int → Mem → Prop) : Nat → Int → Int → Int → Mem → Prop
  | 0, _, _, _, _ => False
  | n + 1, x1, x2, x3, M => (10 ≤ x3 → (post x2 M)) ∧ (¬ 10 ≤ x3 → ((0 ≤ x1 ∧ x1 < 8) ∧ ((0 ≤ x3 ∧ x3 < 10) ∧ (inR (x2 + (M (80 + x1) x3)) ∧ (∀ v20_5 : Int, v20_5 = (x2 + (M (80 + x1) x3)) → (inR (x3 + 1) ∧ (lpX2_total_4 post n x1 v20_5 (x3 + 1) M)))))))
def wpX2_total (a1 : Int) (M : Mem) (post : Int → Mem → Prop) : Prop := ∃ j, lpX2_total_4 post j a1 0 0 M
def jbX3_has_17 (post : Int → Mem → Prop) (t0 : Int) (M : Mem) : Prop := (t0 = 0 ∨ t0 = 1) ∧ (post t0 M)
def jbX3_has_16 (post : Int → Mem → Prop) (M : Mem) : Prop := jbX3_has_17 post 0 M
def wpX3_has (a1 : Int) (M : Mem) (post : Int → Mem → Prop) : Prop := (a1 < 0 → (jbX3_has_16 post M)) ∧ (¬ a1 < 0 → (((M 1 0) ≤ a1 → (jbX3_has_16 post M)) ∧ (¬ (M 1 0) ≤ a1 → (jbX3_has_17 post 1 M))))
def lpX3_measureRoads_29 (post : Mem → Prop) : Nat → Int → Mem → Prop
  | 0, _, _ => False
  | n + 1, x1, M => ((M 1 1) ≤ x1 → (post M)) ∧ (¬ (M 1 1) ≤ x1 → ((0 ≤ x1 ∧ x1 < 30) ∧ (∀ v43_4 : Int, v43_4 = (M 15 x1) → ((0 ≤ x1 ∧ x1 < 30) ∧ (∀ v50_7 : Int, v50_7 = (M 16 x1) → ((0 ≤ v43_4 ∧ v43_4 < 10) ∧ ((0 ≤ v50_7 ∧ v50_7 < 10) ∧ ((0 ≤ x1 ∧ x1 < 30) ∧ (∀ v68_13 : Int, v68_13 = (min (M (40 + v43_4) v50_7) (M 17 x1)) → ((0 ≤ v43_4 ∧ v43_4 < 10) ∧ ((0 ≤ v50_7 ∧ v50_7 < 10) ∧ (∀ M79_16 : Mem, M79_16 = mset M (40 + v43_4) v50_7 v68_13 → ((0 ≤ v50_7 ∧ v50_7 < 10) ∧ ((0 ≤ v43_4 ∧ v43_4 < 10) ∧ (∀ M89_19 : Mem, M89_19 = mset M79_16 (40 + v50_7) v43_4 v68_13 → (inR (x1 + 1) ∧ (lpX3_measureRoads_29 post n (x1 + 1) M89_19)))))))))))))))))
def lpX3_measureRoads_2 (post : Mem → Prop) : Nat → Int → Mem → Prop
  | 0, _, _ => False
  | n + 1, x1, M => ((M 1 0) ≤ x1 → (∃ j, lpX3_measureRoads_29 post j 0 M)) ∧ (¬ (M 1 0) ≤ x1 → ((0 ≤ x1 ∧ x1 < 10) ∧ (wpJ7_fill_53178 (40 + x1) 1000000 M (fun M18_3 => inR (x1 + 1) ∧ (lpX3_measureRoads_2 post n (x1 + 1) M18_3)))))
def wpX3_measureRoads (M : Mem) (post : Mem → Prop) : Prop := ∃ j, lpX3_measureRoads_2 post j 0 M
def jbX3_shortenBy_66 (post : Mem → Prop) (k19 : Int → Int → Int → Int → Mem → Prop) (x1 x2 x3 x4 : Int) (M : Mem) : Prop := inR (x4 + 1) ∧ (k19 x1 x2 x3 (x4 + 1) M)
def lpX3_shortenBy_19 (post : Mem → Prop) : Nat → Int → Int → Int → Int → Mem → Prop
  | 0, _, _, _, _, _ => False
  | n + 1, x1, x2, x3, x4, M => ((M 1 0) ≤ x4 → (post M)) ∧ (¬ (M 1 0) ≤ x4 → ((0 ≤ x2 ∧ x2 < 10) ∧ ((0 ≤ x4 ∧ x4 < 10) ∧ (inR (x3 + (M (50 + x2) x4)) ∧ (∀ v39_6 : Int, v39_6 = (x3 + (M (50 + x2) x4)) → ((0 ≤ x1 ∧ x1 < 10) ∧ ((0 ≤ x4 ∧ x4 < 10) ∧ (((M (50 + x1) x4) ≤ v39_6 → (jbX3_shortenBy_66 post (fun y1 y2 y3 y4 N => lpX3_shortenBy_19 post n y1 y2 y3 y4 N) x1 x2 x3 x4 M)) ∧ (¬ (M (50 + x1) x4) ≤ v39_6 → ((0 ≤ x1 ∧ x1 < 10) ∧ ((0 ≤ x4 ∧ x4 < 10) ∧ (∀ M65_13 : Mem, M65_13 = mset M (50 + x1) x4 v39_6 → (jbX3_shortenBy_66 post (fun y1 y2 y3 y4 N => lpX3_shortenBy_19 post n y1 y2 y3 y4 N) x1 x2 x3 x4 M65_13)))))))))))))
def wpX3_shortenBy (a1 a2 : Int) (M : Mem) (post : Mem → Prop) : Prop := (0 ≤ a1 ∧ a1 < 10) ∧ ((0 ≤ a2 ∧ a2 < 10) ∧ (∀ v8_3 : Int, v8_3 = (M (50 + a1) a2) → ((¬ v8_3 = 1000000 → (∃ j, lpX3_shortenBy_19 post j a1 a2 v8_3 0 M)) ∧ (v8_3 = 1000000 → (post M)))))
def lpX3_measure_62 (post : Mem → Prop) (k52 : Int → Mem → Prop) : Nat → Int → Int → Mem → Prop
  | 0, _, _, _ => False
  | n + 1, x1, x2, M => ((M 1 0) ≤ x2 → (inR (x1 + 1) ∧ (k52 (x1 + 1) M))) ∧ (¬ (M 1 0) ≤ x2 → (wpX3_shortenBy x2 x1 M (fun M73_3 => inR (x2 + 1) ∧ (lpX3_measure_62 post k52 n x1 (x2 + 1) M73_3))))
def lpX3_measure_52 (post : Mem → Prop) : Nat → Int → Mem → Prop
  | 0, _, _ => False
  | n + 1, x1, M => ((M 1 0) ≤ x1 → (post M)) ∧ (¬ (M 1 0) ≤ x1 → (∃ j, lpX3_measure_62 post (fun y1 N => lpX3_measure_52 post n y1 N) j x1 0 M))
def lpX3_measure_6 (post : Mem → Prop) : Nat → Int → Mem → Prop
  | 0, _, _ => False
  | n + 1, x1, M => ((M 1 0) ≤ x1 → (∃ j, lpX3_measure_52 post j 0 M)) ∧ (¬ (M 1 0) ≤ x1 → ((0 ≤ x1 ∧ x1 < 10) ∧ ((0 ≤ x1 ∧ x1 < 10) ∧ ((0 ≤ (M 1 0) ∧ (M 1 0) ≤ 10) ∧ (∀ M32_6 : Mem, M32_6 = mcopy M (40 + x1) (50 + x1) (M 1 0) → ((0 ≤ x1 ∧ x1 < 10) ∧ ((0 ≤ x1 ∧ x1 < 10) ∧ (∀ M43_9 : Mem, M43_9 = mset M32_6 (50 + x1) x1 0 → (inR (x1 + 1) ∧ (lpX3_measure_6 post n (x1 + 1) M43_9))))))))))
def wpX3_measure (M : Mem) (post : Mem → Prop) : Prop := wpX3_measureRoads M (fun M1_0 => ∃ j, lpX3_measure_6 post j 0 M1_0)
def wpX3_addPlace (M : Mem) (post : Int → Mem → Prop) : Prop := ∀ v4_1 : Int, v4_1 = (M 1 0) → (inR ((M 1 0) + 1) ∧ (∀ M12_4 : Mem, M12_4 = mset M 1 0 ((M 1 0) + 1) → (wpX3_measure M12_4 (fun M16_5 => post v4_1 M16_5))))
def wpX3_dropPlace (M : Mem) (post : Mem → Prop) : Prop := inR ((M 1 0) - 1) ∧ (∀ M7_2 : Mem, M7_2 = mset M 1 0 ((M 1 0) - 1) → (post M7_2))
def wpX3_addRoad (a1 a2 a3 : Int) (M : Mem) (post : Int → Mem → Prop) : Prop := ∀ v4_1 : Int, v4_1 = (M 1 1) → ((0 ≤ v4_1 ∧ v4_1 < 30) ∧ (∀ M13_3 : Mem, M13_3 = mset M 15 v4_1 a1 → ((0 ≤ v4_1 ∧ v4_1 < 30) ∧ (∀ M21_5 : Mem, M21_5 = mset M13_3 16 v4_1 a2 → ((0 ≤ v4_1 ∧ v4_1 < 30) ∧ (∀ M29_7 : Mem, M29_7 = mset M21_5 17 v4_1 a3 → (inR ((M29_7 1 1) + 1) ∧ (∀ M37_10 : Mem, M37_10 = mset M29_7 1 1 ((M29_7 1 1) + 1) → (wpX3_measure M37_10 (fun M41_11 => post v4_1 M41_11))))))))))
def wpX3_dropRoad (M : Mem) (post : Mem → Prop) : Prop := inR ((M 1 1) - 1) ∧ (∀ M7_2 : Mem, M7_2 = mset M 1 1 ((M 1 1) - 1) → (wpX3_measure M7_2 (fun M11_3 => post M11_3)))
def jbX3_gates_25 (post : Int → Mem → Prop) (k4 : Int → Int → Mem → Prop) (x1 x2 : Int) (M : Mem) : Prop := inR (x2 + 1) ∧ (k4 x1 (x2 + 1) M)
def lpX3_gates_4 (post : Int → Mem → Prop) : Nat → Int → Int → Mem → Prop
  | 0, _, _, _ => False
  | n + 1, x1, x2, M => ((M 1 0) ≤ x2 → (post x1 M)) ∧ (¬ (M 1 0) ≤ x2 → ((0 ≤ x2 ∧ x2 < 10) ∧ (((M 18 x2) = (-1) → (jbX3_gates_25 post (fun y1 y2 N => lpX3_gates_4 post n y1 y2 N) x1 x2 M)) ∧ (¬ (M 18 x2) = (-1) → (inR (x1 + 1) ∧ (jbX3_gates_25 post (fun y1 y2 N => lpX3_gates_4 post n y1 y2 N) (x1 + 1) x2 M))))))
def wpX3_gates (M : Mem) (post : Int → Mem → Prop) : Prop := ∃ j, lpX3_gates_4 post j 0 0 M
def lpX3_isJoined_2 (post : Int → Mem → Prop) : Nat → Int → Mem → Prop
  | 0, _, _ => False
  | n + 1, x1, M => ((M 1 0) ≤ x1 → (post 1 M)) ∧ (¬ (M 1 0) ≤ x1 → ((0 ≤ x1 ∧ x1 < 10) ∧ ((¬ (M (50 + 0) x1) = 1000000 → (inR (x1 + 1) ∧ (lpX3_isJoined_2 post n (x1 + 1) M))) ∧ ((M (50 + 0) x1) = 1000000 → (post 0 M)))))
def wpX3_isJoined (M : Mem) (post : Int → Mem → Prop) : Prop := ∃ j, lpX3_isJoined_2 post j 0 M
def jbX3_placeBehind_18 (post : Int → Mem → Prop) (M : Mem) : Prop := post (-1) M
def lpX3_placeBehind_22 (post : Int → Mem → Prop) : Nat → Int → Int → Int → Mem → Prop
  | 0, _, _, _, _ => False
  | n + 1, x1, x2, x3, M => ((M 1 0) ≤ x3 → (post (-1) M)) ∧ (¬ (M 1 0) ≤ x3 → ((0 ≤ x1 ∧ x1 < 10) ∧ ((0 ≤ x3 ∧ x3 < 10) ∧ ((0 ≤ x3 ∧ x3 < 10) ∧ ((0 ≤ x2 ∧ x2 < 10) ∧ ((0 ≤ x1 ∧ x1 < 10) ∧ ((0 ≤ x2 ∧ x2 < 10) ∧ (inR ((M (40 + x1) x3) + (M (50 + x3) x2)) ∧ ((¬ ((M (40 + x1) x3) + (M (50 + x3) x2)) = (M (50 + x1) x2) → (inR (x3 + 1) ∧ (lpX3_placeBehind_22 post n x1 x2 (x3 + 1) M))) ∧ (((M (40 + x1) x3) + (M (50 + x3) x2)) = (M (50 + x1) x2) → (post x3 M)))))))))))
def wpX3_placeBehind (a1 a2 : Int) (M : Mem) (post : Int → Mem → Prop) : Prop := (a1 = a2 → (jbX3_placeBehind_18 post M)) ∧ (¬ a1 = a2 → ((0 ≤ a1 ∧ a1 < 10) ∧ ((0 ≤ a2 ∧ a2 < 10) ∧ ((¬ (M (50 + a1) a2) = 1000000 → (∃ j, lpX3_placeBehind_22 post j a1 a2 0 M)) ∧ ((M (50 + a1) a2) = 1000000 → (jbX3_placeBehind_18 post M))))))
def wpX5_empty (z : Int) (M : Mem) (post : Mem → Prop) : Prop := ∀ M2_0 : Mem, M2_0 = mset M (8 + z) 0 0 → (∀ M7_1 : Mem, M7_1 = mset M2_0 (8 + z) 1 0 → (∀ M12_2 : Mem, M12_2 = mset M7_1 (8 + z) 2 0 → (post M12_2)))
def wpX5_addArc (z : Int) (a1 a2 a3 a4 : Int) (M : Mem) (post : Mem → Prop) : Prop := (0 ≤ (M (8 + z) 0) ∧ (M (8 + z) 0) < 240) ∧ (∀ M9_2 : Mem, M9_2 = mset M (28 + z) (M (8 + z) 0) a1 → ((0 ≤ (M9_2 (8 + z) 0) ∧ (M9_2 (8 + z) 0) < 240) ∧ (∀ M19_5 : Mem, M19_5 = mset M9_2 (30 + z) (M9_2 (8 + z) 0) a2 → ((0 ≤ (M19_5 (8 + z) 0) ∧ (M19_5 (8 + z) 0) < 240) ∧ (∀ M29_8 : Mem, M29_8 = mset M19_5 (32 + z) (M19_5 (8 + z) 0) a3 → ((0 ≤ (M29_8 (8 + z) 0) ∧ (M29_8 (8 + z) 0) < 240) ∧ (∀ M40_11 : Mem, M40_11 = mset M29_8 (34 + z) (M29_8 (8 + z) 0) a4 → (inR ((M40_11 (8 + z) 0) + 1) ∧ (∀ M48_14 : Mem, M48_14 = mset M40_11 (8 + z) 0 ((M40_11 (8 + z) 0) + 1) → (post M48_14))))))))))
def wpX5_join (z : Int) (a1 a2 a3 a4 : Int) (M : Mem) (post : Mem → Prop) : Prop := inR ((M (8 + z) 0) + 2) ∧ ((((M (8 + z) 0) + 2) ≤ 240 → (wpX5_addArc z a1 a2 a3 a4 M (fun M19_3 => inR (-a4) ∧ (wpX5_addArc z a2 a1 0 (-a4) M19_3 (fun M29_5 => post M29_5))))) ∧ (¬ ((M (8 + z) 0) + 2) ≤ 240 → (post M)))
def jbX4_joinSource_58 (r2 : Int) (r3 : Int) (post : Int → Mem → Prop) (k6 : Int → Int → Int → Mem → Prop) (x1 x4 x5 : Int) (M : Mem) : Prop := inR (x5 + 1) ∧ (k6 x1 x4 (x5 + 1) M)
def lpX4_joinSource_6 (r2 : Int) (r3 : Int) (post : Int → Mem → Prop) : Nat → Int → Int → Int → Mem → Prop
  | 0, _, _, _, _ => False
  | n + 1, x1, x4, x5, M => (x1 ≤ x5 → (post x4 M)) ∧ (¬ x1 ≤ x5 → ((0 ≤ x5 ∧ x5 < (lenX r2)) ∧ ((0 ≤ x5 ∧ x5 < (lenX r3)) ∧ (((M r2 x5) ≤ (M r3 x5) → (jbX4_joinSource_58 r2 r3 post (fun y1 y4 y5 N => lpX4_joinSource_6 r2 r3 post n y1 y4 y5 N) x1 x4 x5 M)) ∧ (¬ (M r2 x5) ≤ (M r3 x5) → ((0 ≤ x5 ∧ x5 < (lenX r2)) ∧ ((0 ≤ x5 ∧ x5 < (lenX r3)) ∧ (inR ((M r2 x5) - (M r3 x5)) ∧ (wpX5_join 0 20 x5 ((M r2 x5) - (M r3 x5)) 0 M (fun M41_11 => (0 ≤ x5 ∧ x5 < (lenX r2)) ∧ ((0 ≤ x5 ∧ x5 < (lenX r3)) ∧ (inR (x4 + ((M41_11 r2 x5) - (M41_11 r3 x5))) ∧ (∀ v56_17 : Int, v56_17 = (x4 + ((M41_11 r2 x5) - (M41_11 r3 x5))) → (jbX4_joinSource_58 r2 r3 post (fun y1 y4 y5 N => lpX4_joinSource_6 r2 r3 post n y1 y4 y5 N) x1 v56_17 x5 M41_11))))))))))))))
def wpX4_joinSource (r2 : Int) (r3 : Int) (a1 : Int) (M : Mem) (post : Int → Mem → Prop) : Prop := ∃ j, lpX4_joinSource_6 r2 r3 post j a1 0 0 M
def jbX4_joinSink_41 (r2 : Int) (r3 : Int) (post : Mem → Prop) (k3 : Int → Int → Mem → Prop) (x1 x4 : Int) (M : Mem) : Prop := inR (x4 + 1) ∧ (k3 x1 (x4 + 1) M)
def lpX4_joinSink_3 (r2 : Int) (r3 : Int) (post : Mem → Prop) : Nat → Int → Int → Mem → Prop
  | 0, _, _, _ => False
  | n + 1, x1, x4, M => (x1 ≤ x4 → (post M)) ∧ (¬ x1 ≤ x4 → ((0 ≤ x4 ∧ x4 < (lenX r2)) ∧ ((0 ≤ x4 ∧ x4 < (lenX r3)) ∧ (((M r3 x4) ≤ (M r2 x4) → (jbX4_joinSink_41 r2 r3 post (fun y1 y4 N => lpX4_joinSink_3 r2 r3 post n y1 y4 N) x1 x4 M)) ∧ (¬ (M r3 x4) ≤ (M r2 x4) → ((0 ≤ x4 ∧ x4 < (lenX r3)) ∧ ((0 ≤ x4 ∧ x4 < (lenX r2)) ∧ (inR ((M r3 x4) - (M r2 x4)) ∧ (wpX5_join 0 x4 21 ((M r3 x4) - (M r2 x4)) 0 M (fun M38_11 => jbX4_joinSink_41 r2 r3 post (fun y1 y4 N => lpX4_joinSink_3 r2 r3 post n y1 y4 N) x1 x4 M38_11))))))))))
def wpX4_joinSink (r2 : Int) (r3 : Int) (a1 : Int) (M : Mem) (post : Mem → Prop) : Prop := ∃ j, lpX4_joinSink_3 r2 r3 post j a1 0 M
def lpX4_staying_5 (r1 : Int) (r2 : Int) (post : Int → Mem → Prop) : Nat → Int → Int → Int → Mem → Prop
  | 0, _, _, _, _ => False
  | n + 1, x0, x3, x4, M => (x0 ≤ x4 → (post x3 M)) ∧ (¬ x0 ≤ x4 → ((0 ≤ x4 ∧ x4 < (lenX r1)) ∧ ((0 ≤ x4 ∧ x4 < (lenX r2)) ∧ (inR (x3 + (min (M r1 x4) (M r2 x4))) ∧ (∀ v24_6 : Int, v24_6 = (x3 + (min (M r1 x4) (M r2 x4))) → (inR (x4 + 1) ∧ (lpX4_staying_5 r1 r2 post n x0 v24_6 (x4 + 1) M)))))))
def wpX4_staying (r1 : Int) (r2 : Int) (a0 : Int) (M : Mem) (post : Int → Mem → Prop) : Prop := ∃ j, lpX4_staying_5 r1 r2 post j a0 0 0 M
def jbX5_relax_94 (z : Int) (post : Int → Mem → Prop) (k4 : Int → Int → Mem → Prop) (x1 x2 : Int) (M : Mem) : Prop := inR (x2 + 1) ∧ (k4 x1 (x2 + 1) M)
def lpX5_relax_4 (z : Int) (post : Int → Mem → Prop) : Nat → Int → Int → Mem → Prop
  | 0, _, _, _ => False
  | n + 1, x1, x2, M => ((M (8 + z) 0) ≤ x2 → ((x1 = 0 ∨ x1 = 1) ∧ (post x1 M))) ∧ (¬ (M (8 + z) 0) ≤ x2 → ((0 ≤ x2 ∧ x2 < 240) ∧ ((0 ≤ (M (28 + z) x2) ∧ (M (28 + z) x2) < 22) ∧ (∀ v23_7 : Int, v23_7 = (M (36 + z) (M (28 + z) x2)) → ((0 ≤ x2 ∧ x2 < 240) ∧ (((M (32 + z) x2) ≤ 0 → (jbX5_relax_94 z post (fun y1 y2 N => lpX5_relax_4 z post n y1 y2 N) x1 x2 M)) ∧ (¬ (M (32 + z) x2) ≤ 0 → ((1000000 ≤ v23_7 → (jbX5_relax_94 z post (fun y1 y2 N => lpX5_relax_4 z post n y1 y2 N) x1 x2 M)) ∧ (¬ 1000000 ≤ v23_7 → ((0 ≤ x2 ∧ x2 < 240) ∧ ((0 ≤ x2 ∧ x2 < 240) ∧ ((0 ≤ (M (30 + z) x2) ∧ (M (30 + z) x2) < 22) ∧ (inR (v23_7 + (M (34 + z) x2)) ∧ (((M (36 + z) (M (30 + z) x2)) ≤ (v23_7 + (M (34 + z) x2)) → (jbX5_relax_94 z post (fun y1 y2 N => lpX5_relax_4 z post n y1 y2 N) x1 x2 M)) ∧ (¬ (M (36 + z) (M (30 + z) x2)) ≤ (v23_7 + (M (34 + z) x2)) → ((0 ≤ x2 ∧ x2 < 240) ∧ ((0 ≤ x2 ∧ x2 < 240) ∧ ((0 ≤ (M (30 + z) x2) ∧ (M (30 + z) x2) < 22) ∧ (∀ M79_25 : Mem, M79_25 = mset M (36 + z) (M (30 + z) x2) (v23_7 + (M (34 + z) x2)) → ((0 ≤ x2 ∧ x2 < 240) ∧ ((0 ≤ (M79_25 (30 + z) x2) ∧ (M79_25 (30 + z) x2) < 22) ∧ (∀ M91_29 : Mem, M91_29 = mset M79_25 (38 + z) (M79_25 (30 + z) x2) x2 → (jbX5_relax_94 z post (fun y1 y2 N => lpX5_relax_4 z post n y1 y2 N) 1 x2 M91_29)))))))))))))))))))))))
def wpX5_relax (z : Int) (M : Mem) (post : Int → Mem → Prop) : Prop := ∃ j, lpX5_relax_4 z post j 0 0 M
def jbX5_isReached_16 (z : Int) (post : Int → Mem → Prop) (t0 : Int) (M : Mem) : Prop := (t0 = 0 ∨ t0 = 1) ∧ (post t0 M)
def wpX5_isReached (z : Int) (a1 : Int) (M : Mem) (post : Int → Mem → Prop) : Prop := (0 ≤ a1 ∧ a1 < 22) ∧ ((1000000 ≤ (M (36 + z) a1) → (jbX5_isReached_16 z post 0 M)) ∧ (¬ 1000000 ≤ (M (36 + z) a1) → (jbX5_isReached_16 z post 1 M)))
def jbX5_search_49 (z : Int) (post : Int → Mem → Prop) (M : Mem) : Prop := wpX5_isReached z 21 M (fun r52_0 M52_0 => (r52_0 = 0 ∨ r52_0 = 1) ∧ (post r52_0 M52_0))
def lpX5_search_27 (z : Int) (post : Int → Mem → Prop) : Nat → Int → Mem → Prop
  | 0, _, _ => False
  | n + 1, x1, M => (22 ≤ x1 → (jbX5_search_49 z post M)) ∧ (¬ 22 ≤ x1 → (wpX5_relax z M (fun r34_1 M34_1 => (¬ r34_1 = 0 → (inR (x1 + 1) ∧ (lpX5_search_27 z post n (x1 + 1) M34_1))) ∧ (r34_1 = 0 → (jbX5_search_49 z post M34_1)))))
def wpX5_search (z : Int) (M : Mem) (post : Int → Mem → Prop) : Prop := wpJ7_fill_53178 (36 + z) 1000000 M (fun M6_0 => wpJ7_fill_53178 (38 + z) (-1) M6_0 (fun M14_1 => ∀ M24_2 : Mem, M24_2 = mset M14_1 (36 + z) 20 0 → (∃ j, lpX5_search_27 z post j 0 M24_2)))
def jbX5_carry_117 (z : Int) (post : Mem → Prop) (x2 : Int) (M : Mem) : Prop := inR ((M (8 + z) 1) + x2) ∧ (∀ M124_2 : Mem, M124_2 = mset M (8 + z) 1 ((M (8 + z) 1) + x2) → (inR ((M124_2 (8 + z) 2) + (x2 * (M124_2 (36 + z) 21))) ∧ (∀ M142_6 : Mem, M142_6 = mset M124_2 (8 + z) 2 ((M124_2 (8 + z) 2) + (x2 * (M124_2 (36 + z) 21))) → (post M142_6))))
def lpX5_carry_65 (z : Int) (post : Mem → Prop) : Nat → Int → Int → Int → Mem → Prop
  | 0, _, _, _, _ => False
  | n + 1, x2, x3, x4, M => (22 ≤ x4 → (jbX5_carry_117 z post x2 M)) ∧ (¬ 22 ≤ x4 → ((x3 = (-1) → (jbX5_carry_117 z post x2 M)) ∧ (¬ x3 = (-1) → ((0 ≤ x3 ∧ x3 < 240) ∧ ((0 ≤ x3 ∧ x3 < 240) ∧ (inR ((M (32 + z) x3) - x2) ∧ (∀ M86_6 : Mem, M86_6 = mset M (32 + z) x3 ((M (32 + z) x3) - x2) → (0 ≤ x3 ∧ ((0 ≤ (pr1 x3) ∧ (pr1 x3) < 240) ∧ ((0 ≤ (pr1 x3) ∧ (pr1 x3) < 240) ∧ (inR ((M86_6 (32 + z) (pr1 x3)) + x2) ∧ (∀ M98_12 : Mem, M98_12 = mset M86_6 (32 + z) (pr1 x3) ((M86_6 (32 + z) (pr1 x3)) + x2) → ((0 ≤ x3 ∧ x3 < 240) ∧ ((0 ≤ (M98_12 (28 + z) x3) ∧ (M98_12 (28 + z) x3) < 22) ∧ (∀ v110_17 : Int, v110_17 = (M98_12 (38 + z) (M98_12 (28 + z) x3)) → (inR (x4 + 1) ∧ (lpX5_carry_65 z post n x2 v110_17 (x4 + 1) M98_12)))))))))))))))))
def jbX5_carry_54 (z : Int) (post : Mem → Prop) (x2 : Int) (M : Mem) : Prop := ∀ v61_1 : Int, v61_1 = (M (38 + z) 21) → (∃ j, lpX5_carry_65 z post j x2 v61_1 0 M)
def lpX5_carry_13 (z : Int) (post : Mem → Prop) : Nat → Int → Int → Int → Mem → Prop
  | 0, _, _, _, _ => False
  | n + 1, x2, x3, x4, M => (22 ≤ x4 → (jbX5_carry_54 z post x2 M)) ∧ (¬ 22 ≤ x4 → ((x3 = (-1) → (jbX5_carry_54 z post x2 M)) ∧ (¬ x3 = (-1) → ((0 ≤ x3 ∧ x3 < 240) ∧ (∀ v35_4 : Int, v35_4 = (min x2 (M (32 + z) x3)) → ((0 ≤ x3 ∧ x3 < 240) ∧ ((0 ≤ (M (28 + z) x3) ∧ (M (28 + z) x3) < 22) ∧ (∀ v47_9 : Int, v47_9 = (M (38 + z) (M (28 + z) x3)) → (inR (x4 + 1) ∧ (lpX5_carry_13 z post n v35_4 v47_9 (x4 + 1) M))))))))))
def wpX5_carry (z : Int) (a1 : Int) (M : Mem) (post : Mem → Prop) : Prop := ∀ v9_1 : Int, v9_1 = (M (38 + z) 21) → (∃ j, lpX5_carry_13 z post j a1 v9_1 0 M)
def jbX5_push_40 (z : Int) (post : Mem → Prop) (M : Mem) : Prop := post M
def lpX5_push_2 (z : Int) (post : Mem → Prop) : Nat → Int → Int → Mem → Prop
  | 0, _, _, _ => False
  | n + 1, x1, x2, M => (10000 ≤ x2 → (jbX5_push_40 z post M)) ∧ (¬ 10000 ≤ x2 → ((x1 ≤ (M (8 + z) 1) → (jbX5_push_40 z post M)) ∧ (¬ x1 ≤ (M (8 + z) 1) → (wpX5_search z M (fun r18_3 M18_3 => (r18_3 = 0 → (jbX5_push_40 z post M18_3)) ∧ (¬ r18_3 = 0 → (inR (x1 - (M18_3 (8 + z) 1)) ∧ (wpX5_carry z (x1 - (M18_3 (8 + z) 1)) M18_3 (fun M31_7 => inR (x2 + 1) ∧ (lpX5_push_2 z post n x1 (x2 + 1) M31_7))))))))))
def wpX5_push (z : Int) (a1 : Int) (M : Mem) (post : Mem → Prop) : Prop := ∃ j, lpX5_push_2 z post j a1 0 M
def jbX4_cheapest_87 (r2 : Int) (r3 : Int) (post : Int → Mem → Prop) (k21 : Int → Int → Mem → Prop) (k33 : Int → Int → Int → Mem → Prop) (x4 x5 x6 : Int) (M : Mem) : Prop := inR (x6 + 1) ∧ (k33 x4 x5 (x6 + 1) M)
def lpX4_cheapest_33 (r2 : Int) (r3 : Int) (post : Int → Mem → Prop) (k21 : Int → Int → Mem → Prop) : Nat → Int → Int → Int → Mem → Prop
  | 0, _, _, _, _ => False
  | n + 1, x4, x5, x6, M => ((M 1 0) ≤ x6 → (inR (x5 + 1) ∧ (k21 x4 (x5 + 1) M))) ∧ (¬ (M 1 0) ≤ x6 → ((0 ≤ x5 ∧ x5 < (lenX r2)) ∧ ((0 ≤ x5 ∧ x5 < (lenX r3)) ∧ (((M r2 x5) ≤ (M r3 x5) → (jbX4_cheapest_87 r2 r3 post k21 (fun y4 y5 y6 N => lpX4_cheapest_33 r2 r3 post k21 n y4 y5 y6 N) x4 x5 x6 M)) ∧ (¬ (M r2 x5) ≤ (M r3 x5) → ((0 ≤ x6 ∧ x6 < (lenX r2)) ∧ ((0 ≤ x6 ∧ x6 < (lenX r3)) ∧ (((M r3 x6) ≤ (M r2 x6) → (jbX4_cheapest_87 r2 r3 post k21 (fun y4 y5 y6 N => lpX4_cheapest_33 r2 r3 post k21 n y4 y5 y6 N) x4 x5 x6 M)) ∧ (¬ (M r3 x6) ≤ (M r2 x6) → ((0 ≤ x5 ∧ x5 < 10) ∧ ((0 ≤ x6 ∧ x6 < 10) ∧ (wpX5_join 0 x5 x6 1000000 (M (50 + x5) x6) M (fun M84_16 => jbX4_cheapest_87 r2 r3 post k21 (fun y4 y5 y6 N => lpX4_cheapest_33 r2 r3 post k21 n y4 y5 y6 N) x4 x5 x6 M84_16)))))))))))))
def lpX4_cheapest_21 (r2 : Int) (r3 : Int) (post : Int → Mem → Prop) : Nat → Int → Int → Mem → Prop
  | 0, _, _, _ => False
  | n + 1, x4, x5, M => ((M 1 0) ≤ x5 → (wpX4_joinSink r2 r3 (M 1 0) M (fun M106_3 => wpX4_staying r2 r3 (M106_3 1 0) M106_3 (fun r121_5 M121_5 => inR (x4 - r121_5) ∧ (wpX5_push 0 (x4 - r121_5) M121_5 (fun M125_7 => post (M125_7 (8 + 0) 2) M125_7)))))) ∧ (¬ (M 1 0) ≤ x5 → (∃ j, lpX4_cheapest_33 r2 r3 post (fun y4 y5 N => lpX4_cheapest_21 r2 r3 post n y4 y5 N) j x4 x5 0 M))
def wpX4_cheapest (r2 : Int) (r3 : Int) (a4 : Int) (M : Mem) (post : Int → Mem → Prop) : Prop := wpX5_empty 0 M (fun M4_0 => wpX4_joinSource r2 r3 (M4_0 1 0) M4_0 (fun r14_2 M14_2 => ∃ j, lpX4_cheapest_21 r2 r3 post j a4 0 M14_2))
def jbX4_cheapestThroughGates_175 (r2 : Int) (r3 : Int) (post : Int → Mem → Prop) (t0 : Int) (M : Mem) : Prop := post t0 M
def jbX4_cheapestThroughGates_121 (r2 : Int) (r3 : Int) (post : Int → Mem → Prop) (k22 : Int → Int → Mem → Prop) (k71 : Int → Int → Int → Mem → Prop) (x4 x5 x7 : Int) (M : Mem) : Prop := inR (x7 + 1) ∧ (k71 x4 x5 (x7 + 1) M)
def lpX4_cheapestThroughGates_71 (r2 : Int) (r3 : Int) (post : Int → Mem → Prop) (k22 : Int → Int → Mem → Prop) : Nat → Int → Int → Int → Mem → Prop
  | 0, _, _, _, _ => False
  | n + 1, x4, x5, x7, M => ((M 1 0) ≤ x7 → (inR (x5 + 1) ∧ (k22 x4 (x5 + 1) M))) ∧ (¬ (M 1 0) ≤ x7 → ((0 ≤ x5 ∧ x5 < 10) ∧ ((0 ≤ x7 ∧ x7 < 10) ∧ ((1000000 ≤ (M (40 + x5) x7) → (jbX4_cheapestThroughGates_121 r2 r3 post k22 (fun y4 y5 y7 N => lpX4_cheapestThroughGates_71 r2 r3 post k22 n y4 y5 y7 N) x4 x5 x7 M)) ∧ (¬ 1000000 ≤ (M (40 + x5) x7) → ((0 ≤ x5 ∧ x5 < 10) ∧ ((0 ≤ x7 ∧ x7 < 10) ∧ (inR (10 + x5) ∧ (wpX5_join 0 (10 + x5) x7 1000000 (M (40 + x5) x7) M (fun M118_11 => jbX4_cheapestThroughGates_121 r2 r3 post k22 (fun y4 y5 y7 N => lpX4_cheapestThroughGates_71 r2 r3 post k22 n y4 y5 y7 N) x4 x5 x7 M118_11))))))))))
def jbX4_cheapestThroughGates_64 (r2 : Int) (r3 : Int) (post : Int → Mem → Prop) (k22 : Int → Int → Mem → Prop) (x4 x5 t0 t1 t2 : Int) (M : Mem) : Prop := wpX5_join 0 t2 t1 t0 0 M (fun M65_0 => ∃ j, lpX4_cheapestThroughGates_71 r2 r3 post k22 j x4 x5 0 M65_0)
def lpX4_cheapestThroughGates_22 (r2 : Int) (r3 : Int) (post : Int → Mem → Prop) : Nat → Int → Int → Mem → Prop
  | 0, _, _, _ => False
  | n + 1, x4, x5, M => ((M 1 0) ≤ x5 → (wpX4_joinSink r2 r3 (M 1 0) M (fun M140_3 => wpX5_push 0 x4 M140_3 (fun M149_4 => (¬ (M149_4 (8 + 0) 1) = x4 → (jbX4_cheapestThroughGates_175 r2 r3 post (-1) M149_4)) ∧ ((M149_4 (8 + 0) 1) = x4 → (jbX4_cheapestThroughGates_175 r2 r3 post (M149_4 (8 + 0) 2) M149_4)))))) ∧ (¬ (M 1 0) ≤ x5 → ((0 ≤ x5 ∧ x5 < 10) ∧ (∀ v38_10 : Int, v38_10 = (M 18 x5) → ((¬ v38_10 = (-1) → (inR (10 + x5) ∧ (jbX4_cheapestThroughGates_64 r2 r3 post (fun y4 y5 N => lpX4_cheapestThroughGates_22 r2 r3 post n y4 y5 N) x4 x5 v38_10 (10 + x5) x5 M))) ∧ (v38_10 = (-1) → (inR (10 + x5) ∧ (jbX4_cheapestThroughGates_64 r2 r3 post (fun y4 y5 N => lpX4_cheapestThroughGates_22 r2 r3 post n y4 y5 N) x4 x5 1000000 (10 + x5) x5 M)))))))
def wpX4_cheapestThroughGates (r2 : Int) (r3 : Int) (M : Mem) (post : Int → Mem → Prop) : Prop := wpX5_empty 0 M (fun M4_0 => wpX4_joinSource r2 r3 (M4_0 1 0) M4_0 (fun r14_2 M14_2 => ∃ j, lpX4_cheapestThroughGates_22 r2 r3 post j r14_2 0 M14_2))
def jbX6_takeGoods_111 (r3 : Int) (r4 : Int) (post : Mem → Prop) (k51 : Int → Int → Mem → Prop) (x1 x5 : Int) (M : Mem) : Prop := inR (x5 + 2) ∧ (k51 x1 (x5 + 2) M)
def lpX6_takeGoods_51 (r3 : Int) (r4 : Int) (post : Mem → Prop) : Nat → Int → Int → Mem → Prop
  | 0, _, _, _ => False
  | n + 1, x1, x5, M => inR (x5 + 1) ∧ (((M (8 + 0) 0) ≤ (x5 + 1) → (post M)) ∧ (¬ (M (8 + 0) 0) ≤ (x5 + 1) → ((0 ≤ x5 ∧ x5 < 240) ∧ (∀ v69_5 : Int, v69_5 = (M (28 + 0) x5) → ((0 ≤ x5 ∧ x5 < 240) ∧ (∀ v78_8 : Int, v78_8 = (M (30 + 0) x5) → ((x1 ≤ v69_5 → (jbX6_takeGoods_111 r3 r4 post (fun y1 y5 N => lpX6_takeGoods_51 r3 r4 post n y1 y5 N) x1 x5 M)) ∧ (¬ x1 ≤ v69_5 → ((x1 ≤ v78_8 → (jbX6_takeGoods_111 r3 r4 post (fun y1 y5 N => lpX6_takeGoods_51 r3 r4 post n y1 y5 N) x1 x5 M)) ∧ (¬ x1 ≤ v78_8 → ((0 ≤ v69_5 ∧ v69_5 < 10) ∧ ((0 ≤ (x5 + 1) ∧ (x5 + 1) < 240) ∧ ((0 ≤ v78_8 ∧ v78_8 < 10) ∧ (∀ M110_15 : Mem, M110_15 = mset M (70 + v69_5) v78_8 (M (32 + 0) (x5 + 1)) → (jbX6_takeGoods_111 r3 r4 post (fun y1 y5 N => lpX6_takeGoods_51 r3 r4 post n y1 y5 N) x1 x5 M110_15)))))))))))))))
def lpX6_takeGoods_3 (r3 : Int) (r4 : Int) (post : Mem → Prop) : Nat → Int → Int → Mem → Prop
  | 0, _, _, _ => False
  | n + 1, x1, x5, M => (x1 ≤ x5 → (∃ j, lpX6_takeGoods_51 r3 r4 post j x1 0 M)) ∧ (¬ x1 ≤ x5 → ((0 ≤ x5 ∧ x5 < 10) ∧ (wpJ7_fill_53178 (70 + x5) 0 M (fun M17_2 => (0 ≤ x5 ∧ x5 < 10) ∧ ((0 ≤ x5 ∧ x5 < (lenX r3)) ∧ ((0 ≤ x5 ∧ x5 < (lenX r4)) ∧ ((0 ≤ x5 ∧ x5 < 10) ∧ (∀ M41_9 : Mem, M41_9 = mset M17_2 (70 + x5) x5 (min (M17_2 r3 x5) (M17_2 r4 x5)) → (inR (x5 + 1) ∧ (lpX6_takeGoods_3 r3 r4 post n x1 (x5 + 1) M41_9))))))))))
def wpX6_takeGoods (r3 : Int) (r4 : Int) (a1 : Int) (M : Mem) (post : Mem → Prop) : Prop := ∃ j, lpX6_takeGoods_3 r3 r4 post j a1 0 M
def jbX6_lowerHeights_121 (post : Int → Mem → Prop) (k4 : Int → Int → Mem → Prop) (k15 : Int → Int → Int → Mem → Prop) (x2 x3 x4 : Int) (M : Mem) : Prop := inR (x4 + 1) ∧ (k15 x2 x3 (x4 + 1) M)
def jbX6_lowerHeights_72 (post : Int → Mem → Prop) (k4 : Int → Int → Mem → Prop) (k15 : Int → Int → Int → Mem → Prop) (x2 x3 x4 x5 : Int) (M : Mem) : Prop := (0 ≤ x3 ∧ x3 < 10) ∧ ((0 ≤ x4 ∧ x4 < 10) ∧ (((M (70 + x3) x4) ≤ 0 → (jbX6_lowerHeights_121 post k4 k15 x2 x3 x4 M)) ∧ (¬ (M (70 + x3) x4) ≤ 0 → ((0 ≤ x4 ∧ x4 < 10) ∧ ((0 ≤ x3 ∧ x3 < 10) ∧ (inR ((M 23 x3) - x5) ∧ (((M 23 x4) ≤ ((M 23 x3) - x5) → (jbX6_lowerHeights_121 post k4 k15 x2 x3 x4 M)) ∧ (¬ (M 23 x4) ≤ ((M 23 x3) - x5) → ((0 ≤ x3 ∧ x3 < 10) ∧ ((0 ≤ x4 ∧ x4 < 10) ∧ (∀ M118_13 : Mem, M118_13 = mset M 23 x4 ((M 23 x3) - x5) → (jbX6_lowerHeights_121 post k4 k15 1 x3 x4 M118_13))))))))))))
def lpX6_lowerHeights_15 (post : Int → Mem → Prop) (k4 : Int → Int → Mem → Prop) : Nat → Int → Int → Int → Mem → Prop
  | 0, _, _, _, _ => False
  | n + 1, x2, x3, x4, M => ((M 1 0) ≤ x4 → (inR (x3 + 1) ∧ (k4 x2 (x3 + 1) M))) ∧ (¬ (M 1 0) ≤ x4 → ((0 ≤ x3 ∧ x3 < 10) ∧ ((0 ≤ x4 ∧ x4 < 10) ∧ (∀ v33_6 : Int, v33_6 = (M (50 + x3) x4) → ((0 ≤ x3 ∧ x3 < 10) ∧ ((0 ≤ x4 ∧ x4 < 10) ∧ (inR ((M 23 x4) + v33_6) ∧ (((M 23 x3) ≤ ((M 23 x4) + v33_6) → (jbX6_lowerHeights_72 post k4 (fun y2 y3 y4 N => lpX6_lowerHeights_15 post k4 n y2 y3 y4 N) x2 x3 x4 v33_6 M)) ∧ (¬ (M 23 x3) ≤ ((M 23 x4) + v33_6) → ((0 ≤ x4 ∧ x4 < 10) ∧ ((0 ≤ x3 ∧ x3 < 10) ∧ (∀ M69_16 : Mem, M69_16 = mset M 23 x3 ((M 23 x4) + v33_6) → (jbX6_lowerHeights_72 post k4 (fun y2 y3 y4 N => lpX6_lowerHeights_15 post k4 n y2 y3 y4 N) 1 x3 x4 v33_6 M69_16)))))))))))))
def lpX6_lowerHeights_4 (post : Int → Mem → Prop) : Nat → Int → Int → Mem → Prop
  | 0, _, _, _ => False
  | n + 1, x2, x3, M => ((M 1 0) ≤ x3 → ((x2 = 0 ∨ x2 = 1) ∧ (post x2 M))) ∧ (¬ (M 1 0) ≤ x3 → (∃ j, lpX6_lowerHeights_15 post (fun y2 y3 N => lpX6_lowerHeights_4 post n y2 y3 N) j x2 x3 0 M))
def wpX6_lowerHeights (M : Mem) (post : Int → Mem → Prop) : Prop := ∃ j, lpX6_lowerHeights_4 post j 0 0 M
def jbX6_raiseHeights_57 (post : Mem → Prop) (M : Mem) : Prop := post M
def lpX6_raiseHeights_32 (post : Mem → Prop) : Nat → Int → Mem → Prop
  | 0, _, _ => False
  | n + 1, x2, M => ((M 1 0) ≤ x2 → (jbX6_raiseHeights_57 post M)) ∧ (¬ (M 1 0) ≤ x2 → (wpX6_lowerHeights M (fun r42_2 M42_2 => (¬ r42_2 = 0 → (inR (x2 + 1) ∧ (lpX6_raiseHeights_32 post n (x2 + 1) M42_2))) ∧ (r42_2 = 0 → (jbX6_raiseHeights_57 post M42_2)))))
def lpX6_raiseHeights_2 (post : Mem → Prop) : Nat → Int → Mem → Prop
  | 0, _, _ => False
  | n + 1, x2, M => ((M 1 0) ≤ x2 → (∃ j, lpX6_raiseHeights_32 post j 0 M)) ∧ (¬ (M 1 0) ≤ x2 → ((0 ≤ x2 ∧ x2 < 10) ∧ ((0 ≤ x2 ∧ x2 < 10) ∧ (∀ M23_5 : Mem, M23_5 = mset M 23 x2 (M (50 + x2) 0) → (inR (x2 + 1) ∧ (lpX6_raiseHeights_2 post n (x2 + 1) M23_5))))))
def wpX6_raiseHeights (M : Mem) (post : Mem → Prop) : Prop := ∃ j, lpX6_raiseHeights_2 post j 0 M
def jbX6_isTight_29 (post : Int → Mem → Prop) (t0 : Int) (M : Mem) : Prop := (t0 = 0 ∨ t0 = 1) ∧ (post t0 M)
def wpX6_isTight (a2 a3 : Int) (M : Mem) (post : Int → Mem → Prop) : Prop := (0 ≤ a2 ∧ a2 < 10) ∧ ((0 ≤ a3 ∧ a3 < 10) ∧ ((0 ≤ a2 ∧ a2 < 10) ∧ ((0 ≤ a3 ∧ a3 < 10) ∧ (inR ((M 23 a2) - (M 23 a3)) ∧ ((¬ ((M 23 a2) - (M 23 a3)) = (M (50 + a2) a3) → (jbX6_isTight_29 post 0 M)) ∧ (((M 23 a2) - (M 23 a3)) = (M (50 + a2) a3) → (jbX6_isTight_29 post 1 M)))))))
def wpX6_cell (a0 a1 : Int) (M : Mem) (post : Int → Mem → Prop) : Prop := inR ((a0 * 10) + a1) ∧ (post ((a0 * 10) + a1) M)
def jbX6_reachColumns_75 (post : Int → Mem → Prop) (k6 : Int → Int → Int → Int → Mem → Prop) (x2 x4 x5 x6 : Int) (M : Mem) : Prop := inR (x6 + 1) ∧ (k6 x2 x4 x5 (x6 + 1) M)
def lpX6_reachColumns_6 (post : Int → Mem → Prop) : Nat → Int → Int → Int → Int → Mem → Prop
  | 0, _, _, _, _, _ => False
  | n + 1, x2, x4, x5, x6, M => ((M 1 0) ≤ x6 → (post x5 M)) ∧ (¬ (M 1 0) ≤ x6 → ((0 ≤ x6 ∧ x6 < 10) ∧ ((¬ (M 25 x6) = (-1) → (jbX6_reachColumns_75 post (fun y2 y4 y5 y6 N => lpX6_reachColumns_6 post n y2 y4 y5 y6 N) x2 x4 x5 x6 M)) ∧ ((M 25 x6) = (-1) → (wpX6_cell x2 x6 M (fun r29_5 M29_5 => (r29_5 < x4 → (jbX6_reachColumns_75 post (fun y2 y4 y5 y6 N => lpX6_reachColumns_6 post n y2 y4 y5 y6 N) x2 x4 x5 x6 M29_5)) ∧ (¬ r29_5 < x4 → (wpX6_isTight x2 x6 M29_5 (fun r42_7 M42_7 => (r42_7 = 0 → (jbX6_reachColumns_75 post (fun y2 y4 y5 y6 N => lpX6_reachColumns_6 post n y2 y4 y5 y6 N) x2 x4 x5 x6 M42_7)) ∧ (¬ r42_7 = 0 → ((0 ≤ x6 ∧ x6 < 10) ∧ (∀ M55_10 : Mem, M55_10 = mset M42_7 25 x6 x2 → ((10 ≤ x5 → (jbX6_reachColumns_75 post (fun y2 y4 y5 y6 N => lpX6_reachColumns_6 post n y2 y4 y5 y6 N) x2 x4 x5 x6 M55_10)) ∧ (¬ 10 ≤ x5 → ((0 ≤ x5 ∧ x5 < 10) ∧ (∀ M71_13 : Mem, M71_13 = mset M55_10 26 x5 x6 → (inR (x5 + 1) ∧ (jbX6_reachColumns_75 post (fun y2 y4 y5 y6 N => lpX6_reachColumns_6 post n y2 y4 y5 y6 N) x2 x4 (x5 + 1) x6 M71_13))))))))))))))))))
def wpX6_reachColumns (a2 a3 a4 : Int) (M : Mem) (post : Int → Mem → Prop) : Prop := ∃ j, lpX6_reachColumns_6 post j a2 a4 a3 0 M
def jbX6_findRing_180 (post : Int → Mem → Prop) (M : Mem) : Prop := post 0 M
def jbX6_findRing_156 (post : Int → Mem → Prop) (k36 : Int → Int → Int → Int → Int → Mem → Prop) (k62 : Int → Int → Int → Int → Int → Int → Int → Mem → Prop) (x2 x3 x4 x5 x6 x7 x8 : Int) (M : Mem) : Prop := inR (x8 + 1) ∧ (k62 x2 x3 x4 x5 x6 x7 (x8 + 1) M)
def jbX6_findRing_103 (post : Int → Mem → Prop) (k36 : Int → Int → Int → Int → Int → Mem → Prop) (k62 : Int → Int → Int → Int → Int → Int → Int → Mem → Prop) (x2 x3 x4 x5 x6 x7 x8 t0 : Int) (M : Mem) : Prop := (t0 = 0 → (jbX6_findRing_156 post k36 k62 x2 x3 x4 x5 x6 x7 x8 M)) ∧ (¬ t0 = 0 → ((0 ≤ x8 ∧ x8 < 10) ∧ ((¬ (M 24 x8) = (-1) → (jbX6_findRing_156 post k36 k62 x2 x3 x4 x5 x6 x7 x8 M)) ∧ ((M 24 x8) = (-1) → ((0 ≤ x8 ∧ x8 < 10) ∧ ((0 ≤ x7 ∧ x7 < 10) ∧ (((M (70 + x8) x7) ≤ 0 → (jbX6_findRing_156 post k36 k62 x2 x3 x4 x5 x6 x7 x8 M)) ∧ (¬ (M (70 + x8) x7) ≤ 0 → ((0 ≤ x8 ∧ x8 < 10) ∧ (∀ M142_9 : Mem, M142_9 = mset M 24 x8 x7 → (wpX6_reachColumns x8 x5 x4 M142_9 (fun r151_10 M151_10 => jbX6_findRing_156 post k36 k62 x2 x3 x4 r151_10 x6 x7 x8 M151_10))))))))))))
def jbX6_findRing_102 (post : Int → Mem → Prop) (k36 : Int → Int → Int → Int → Int → Mem → Prop) (k62 : Int → Int → Int → Int → Int → Int → Int → Mem → Prop) (x2 x3 x4 x5 x6 x7 x8 : Int) (M : Mem) : Prop := jbX6_findRing_103 post k36 k62 x2 x3 x4 x5 x6 x7 x8 0 M
def lpX6_findRing_62 (post : Int → Mem → Prop) (k36 : Int → Int → Int → Int → Int → Mem → Prop) : Nat → Int → Int → Int → Int → Int → Int → Int → Mem → Prop
  | 0, _, _, _, _, _, _, _, _ => False
  | n + 1, x2, x3, x4, x5, x6, x7, x8, M => ((M 1 0) ≤ x8 → ((0 ≤ x2 ∧ x2 < 10) ∧ (((M 24 x2) = (-1) → (inR (x6 + 1) ∧ (k36 x2 x3 x4 x5 (x6 + 1) M))) ∧ (¬ (M 24 x2) = (-1) → (post 1 M))))) ∧ (¬ (M 1 0) ≤ x8 → (wpX6_cell x8 x7 M (fun r75_6 M75_6 => (r75_6 < x4 → (jbX6_findRing_102 post k36 (fun y2 y3 y4 y5 y6 y7 y8 N => lpX6_findRing_62 post k36 n y2 y3 y4 y5 y6 y7 y8 N) x2 x3 x4 x5 x6 x7 x8 M75_6)) ∧ (¬ r75_6 < x4 → (wpX6_cell x8 x7 M75_6 (fun r87_8 M87_8 => wpX6_cell x2 x3 M87_8 (fun r92_9 M92_9 => (r87_8 = r92_9 → (jbX6_findRing_102 post k36 (fun y2 y3 y4 y5 y6 y7 y8 N => lpX6_findRing_62 post k36 n y2 y3 y4 y5 y6 y7 y8 N) x2 x3 x4 x5 x6 x7 x8 M92_9)) ∧ (¬ r87_8 = r92_9 → (jbX6_findRing_103 post k36 (fun y2 y3 y4 y5 y6 y7 y8 N => lpX6_findRing_62 post k36 n y2 y3 y4 y5 y6 y7 y8 N) x2 x3 x4 x5 x6 x7 x8 1 M92_9)))))))))
def lpX6_findRing_36 (post : Int → Mem → Prop) : Nat → Int → Int → Int → Int → Int → Mem → Prop
  | 0, _, _, _, _, _, _ => False
  | n + 1, x2, x3, x4, x5, x6, M => (x5 ≤ x6 → (jbX6_findRing_180 post M)) ∧ (¬ x5 ≤ x6 → ((10 ≤ x6 → (jbX6_findRing_180 post M)) ∧ (¬ 10 ≤ x6 → ((0 ≤ x6 ∧ x6 < 10) ∧ (∀ v57_4 : Int, v57_4 = (M 26 x6) → (∃ j, lpX6_findRing_62 post (fun y2 y3 y4 y5 y6 N => lpX6_findRing_36 post n y2 y3 y4 y5 y6 N) j x2 x3 x4 x5 x6 v57_4 0 M))))))
def wpX6_findRing (a2 a3 a4 : Int) (M : Mem) (post : Int → Mem → Prop) : Prop := wpJ7_fill_53178 24 (-1) M (fun M5_0 => wpJ7_fill_53178 25 (-1) M5_0 (fun M13_1 => (0 ≤ a3 ∧ a3 < 10) ∧ (∀ M22_3 : Mem, M22_3 = mset M13_1 25 a3 a2 → (∀ M29_4 : Mem, M29_4 = mset M22_3 26 0 a3 → (∃ j, lpX6_findRing_36 post j a2 a3 a4 1 0 M29_4)))))
def jbX6_ringAmount_80 (post : Int → Mem → Prop) (x3 : Int) (M : Mem) : Prop := post x3 M
def jbX6_ringAmount_72 (post : Int → Mem → Prop) (k18 : Int → Int → Int → Int → Int → Mem → Prop) (x2 x3 x4 x6 t0 : Int) (M : Mem) : Prop := inR (x6 + 1) ∧ (k18 x2 x3 x4 t0 (x6 + 1) M)
def lpX6_ringAmount_18 (post : Int → Mem → Prop) : Nat → Int → Int → Int → Int → Int → Mem → Prop
  | 0, _, _, _, _, _, _ => False
  | n + 1, x2, x3, x4, x5, x6, M => (10 ≤ x6 → (jbX6_ringAmount_80 post x3 M)) ∧ (¬ 10 ≤ x6 → ((x5 = (-1) → (jbX6_ringAmount_80 post x3 M)) ∧ (¬ x5 = (-1) → ((0 ≤ x4 ∧ x4 < 10) ∧ ((0 ≤ x5 ∧ x5 < 10) ∧ (∀ v45_5 : Int, v45_5 = (min x3 (M (70 + x4) x5)) → ((0 ≤ x5 ∧ x5 < 10) ∧ (∀ v53_8 : Int, v53_8 = (M 25 x5) → ((¬ x5 = x2 → ((0 ≤ v53_8 ∧ v53_8 < 10) ∧ (jbX6_ringAmount_72 post (fun y2 y3 y4 y5 y6 N => lpX6_ringAmount_18 post n y2 y3 y4 y5 y6 N) x2 v45_5 v53_8 x6 (M 24 v53_8) M))) ∧ (x5 = x2 → (jbX6_ringAmount_72 post (fun y2 y3 y4 y5 y6 N => lpX6_ringAmount_18 post n y2 y3 y4 y5 y6 N) x2 v45_5 v53_8 x6 (-1) M)))))))))))
def wpX6_ringAmount (a1 a2 : Int) (M : Mem) (post : Int → Mem → Prop) : Prop := (0 ≤ a1 ∧ a1 < 10) ∧ (∀ v13_2 : Int, v13_2 = (M 24 a1) → (∃ j, lpX6_ringAmount_18 post j a2 1000 a1 v13_2 0 M))
def jbX6_turnRing_96 (post : Mem → Prop) (M : Mem) : Prop := post M
def jbX6_turnRing_88 (post : Mem → Prop) (k21 : Int → Int → Int → Int → Int → Mem → Prop) (x2 x3 x4 x6 t0 : Int) (M : Mem) : Prop := inR (x6 + 1) ∧ (k21 x2 x3 x4 t0 (x6 + 1) M)
def lpX6_turnRing_21 (post : Mem → Prop) : Nat → Int → Int → Int → Int → Int → Mem → Prop
  | 0, _, _, _, _, _, _ => False
  | n + 1, x2, x3, x4, x5, x6, M => (10 ≤ x6 → (jbX6_turnRing_96 post M)) ∧ (¬ 10 ≤ x6 → ((x5 = (-1) → (jbX6_turnRing_96 post M)) ∧ (¬ x5 = (-1) → ((0 ≤ x4 ∧ x4 < 10) ∧ ((0 ≤ x5 ∧ x5 < 10) ∧ ((0 ≤ x5 ∧ x5 < 10) ∧ (inR ((M (70 + x4) x5) - x3) ∧ (∀ M47_7 : Mem, M47_7 = mset M (70 + x4) x5 ((M (70 + x4) x5) - x3) → ((0 ≤ x5 ∧ x5 < 10) ∧ (∀ v55_10 : Int, v55_10 = (M47_7 25 x5) → ((0 ≤ v55_10 ∧ v55_10 < 10) ∧ ((0 ≤ x5 ∧ x5 < 10) ∧ ((0 ≤ x5 ∧ x5 < 10) ∧ (inR ((M47_7 (70 + v55_10) x5) + x3) ∧ (∀ M70_16 : Mem, M70_16 = mset M47_7 (70 + v55_10) x5 ((M47_7 (70 + v55_10) x5) + x3) → ((¬ x5 = x2 → ((0 ≤ v55_10 ∧ v55_10 < 10) ∧ (jbX6_turnRing_88 post (fun y2 y3 y4 y5 y6 N => lpX6_turnRing_21 post n y2 y3 y4 y5 y6 N) x2 x3 v55_10 x6 (M70_16 24 v55_10) M70_16))) ∧ (x5 = x2 → (jbX6_turnRing_88 post (fun y2 y3 y4 y5 y6 N => lpX6_turnRing_21 post n y2 y3 y4 y5 y6 N) x2 x3 v55_10 x6 (-1) M70_16))))))))))))))))))
def wpX6_turnRing (a1 a2 : Int) (M : Mem) (post : Mem → Prop) : Prop := wpX6_ringAmount a1 a2 M (fun r3_0 M3_0 => (0 ≤ a1 ∧ a1 < 10) ∧ (∀ v16_3 : Int, v16_3 = (M3_0 24 a1) → (∃ j, lpX6_turnRing_21 post j a2 r3_0 a1 v16_3 0 M3_0)))
def jbX6_putFirst_74 (post : Mem → Prop) (k2 : Int → Mem → Prop) (k12 : Int → Int → Mem → Prop) (x2 x3 : Int) (M : Mem) : Prop := inR (x3 + 1) ∧ (k12 x2 (x3 + 1) M)
def lpX6_putFirst_42 (post : Mem → Prop) (k2 : Int → Mem → Prop) (k12 : Int → Int → Mem → Prop) : Nat → Int → Int → Int → Int → Mem → Prop
  | 0, _, _, _, _, _ => False
  | n + 1, x2, x3, x4, x5, M => (1000 ≤ x5 → (jbX6_putFirst_74 post k2 k12 x2 x3 M)) ∧ (¬ 1000 ≤ x5 → (wpX6_findRing x2 x3 x4 M (fun r56_1 M56_1 => (r56_1 = 0 → (jbX6_putFirst_74 post k2 k12 x2 x3 M56_1)) ∧ (¬ r56_1 = 0 → (wpX6_turnRing x2 x3 M56_1 (fun M65_3 => inR (x5 + 1) ∧ (lpX6_putFirst_42 post k2 k12 n x2 x3 x4 (x5 + 1) M65_3)))))))
def lpX6_putFirst_12 (post : Mem → Prop) (k2 : Int → Mem → Prop) : Nat → Int → Int → Mem → Prop
  | 0, _, _, _ => False
  | n + 1, x2, x3, M => ((M 1 0) ≤ x3 → (inR (x2 + 1) ∧ (k2 (x2 + 1) M))) ∧ (¬ (M 1 0) ≤ x3 → (wpX6_isTight x2 x3 M (fun r24_3 M24_3 => (r24_3 = 0 → (jbX6_putFirst_74 post k2 (fun y2 y3 N => lpX6_putFirst_12 post k2 n y2 y3 N) x2 x3 M24_3)) ∧ (¬ r24_3 = 0 → (wpX6_cell x2 x3 M24_3 (fun r32_5 M32_5 => inR (r32_5 + 1) ∧ (∀ v37_7 : Int, v37_7 = (r32_5 + 1) → (∃ j, lpX6_putFirst_42 post k2 (fun y2 y3 N => lpX6_putFirst_12 post k2 n y2 y3 N) j x2 x3 v37_7 0 M32_5))))))))
def lpX6_putFirst_2 (post : Mem → Prop) : Nat → Int → Mem → Prop
  | 0, _, _ => False
  | n + 1, x2, M => ((M 1 0) ≤ x2 → (post M)) ∧ (¬ (M 1 0) ≤ x2 → (∃ j, lpX6_putFirst_12 post (fun y2 N => lpX6_putFirst_2 post n y2 N) j x2 0 M))
def wpX6_putFirst (M : Mem) (post : Mem → Prop) : Prop := ∃ j, lpX6_putFirst_2 post j 0 M
def wpX6_make (r3 : Int) (r4 : Int) (a5 : Int) (M : Mem) (post : Mem → Prop) : Prop := wpX4_cheapest r3 r4 a5 M (fun r7_0 M7_0 => wpX6_takeGoods r3 r4 (M7_0 1 0) M7_0 (fun M23_2 => wpX6_raiseHeights M23_2 (fun M28_3 => wpX6_putFirst M28_3 (fun M33_4 => post M33_4))))
def jbX6_hasOther_43 (post : Int → Mem → Prop) (k2 : Int → Mem → Prop) (k12 : Int → Int → Mem → Prop) (x2 x3 : Int) (M : Mem) : Prop := inR (x3 + 1) ∧ (k12 x2 (x3 + 1) M)
def lpX6_hasOther_12 (post : Int → Mem → Prop) (k2 : Int → Mem → Prop) : Nat → Int → Int → Mem → Prop
  | 0, _, _, _ => False
  | n + 1, x2, x3, M => ((M 1 0) ≤ x3 → (inR (x2 + 1) ∧ (k2 (x2 + 1) M))) ∧ (¬ (M 1 0) ≤ x3 → (wpX6_isTight x2 x3 M (fun r24_3 M24_3 => (r24_3 = 0 → (jbX6_hasOther_43 post k2 (fun y2 y3 N => lpX6_hasOther_12 post k2 n y2 y3 N) x2 x3 M24_3)) ∧ (¬ r24_3 = 0 → (wpX6_findRing x2 x3 0 M24_3 (fun r35_5 M35_5 => (r35_5 = 0 → (jbX6_hasOther_43 post k2 (fun y2 y3 N => lpX6_hasOther_12 post k2 n y2 y3 N) x2 x3 M35_5)) ∧ (¬ r35_5 = 0 → (post 1 M35_5))))))))
def lpX6_hasOther_2 (post : Int → Mem → Prop) : Nat → Int → Mem → Prop
  | 0, _, _ => False
  | n + 1, x2, M => ((M 1 0) ≤ x2 → (post 0 M)) ∧ (¬ (M 1 0) ≤ x2 → (∃ j, lpX6_hasOther_12 post (fun y2 N => lpX6_hasOther_2 post n y2 N) j x2 0 M))
def wpX6_hasOther (M : Mem) (post : Int → Mem → Prop) : Prop := ∃ j, lpX6_hasOther_2 post j 0 M
def jbX6_passes_42 (post : Int → Mem → Prop) (M : Mem) : Prop := post 0 M
def lpX6_passes_6 (post : Int → Mem → Prop) : Nat → Int → Int → Int → Int → Mem → Prop
  | 0, _, _, _, _, _ => False
  | n + 1, x2, x3, x4, x5, M => (10 ≤ x5 → (jbX6_passes_42 post M)) ∧ (¬ 10 ≤ x5 → ((x4 = (-1) → (jbX6_passes_42 post M)) ∧ (¬ x4 = (-1) → ((¬ x4 = x3 → (wpX3_placeBehind x4 x2 M (fun r31_3 M31_3 => inR (x5 + 1) ∧ (lpX6_passes_6 post n x2 x3 r31_3 (x5 + 1) M31_3)))) ∧ (x4 = x3 → (post 1 M))))))
def wpX6_passes (a1 a2 a3 : Int) (M : Mem) (post : Int → Mem → Prop) : Prop := ∃ j, lpX6_passes_6 post j a2 a3 a1 0 M
def jbX6_carried_78 (post : Int → Mem → Prop) (k6 : Int → Int → Int → Int → Mem → Prop) (k18 : Int → Int → Int → Int → Int → Mem → Prop) (x2 x3 x4 x5 x6 : Int) (M : Mem) : Prop := inR (x6 + 1) ∧ (k18 x2 x3 x4 x5 (x6 + 1) M)
def lpX6_carried_18 (post : Int → Mem → Prop) (k6 : Int → Int → Int → Int → Mem → Prop) : Nat → Int → Int → Int → Int → Int → Mem → Prop
  | 0, _, _, _, _, _, _ => False
  | n + 1, x2, x3, x4, x5, x6, M => ((M 1 0) ≤ x6 → (inR (x5 + 1) ∧ (k6 x2 x3 x4 (x5 + 1) M))) ∧ (¬ (M 1 0) ≤ x6 → ((0 ≤ x5 ∧ x5 < 10) ∧ ((0 ≤ x6 ∧ x6 < 10) ∧ (((M (70 + x5) x6) ≤ 0 → (jbX6_carried_78 post k6 (fun y2 y3 y4 y5 y6 N => lpX6_carried_18 post k6 n y2 y3 y4 y5 y6 N) x2 x3 x4 x5 x6 M)) ∧ (¬ (M (70 + x5) x6) ≤ 0 → (wpX3_placeBehind x2 x6 M (fun r44_7 M44_7 => (¬ r44_7 = x3 → (jbX6_carried_78 post k6 (fun y2 y3 y4 y5 y6 N => lpX6_carried_18 post k6 n y2 y3 y4 y5 y6 N) x2 x3 x4 x5 x6 M44_7)) ∧ (r44_7 = x3 → (wpX6_passes x5 x6 x2 M44_7 (fun r57_9 M57_9 => (r57_9 = 0 → (jbX6_carried_78 post k6 (fun y2 y3 y4 y5 y6 N => lpX6_carried_18 post k6 n y2 y3 y4 y5 y6 N) x2 x3 x4 x5 x6 M57_9)) ∧ (¬ r57_9 = 0 → ((0 ≤ x5 ∧ x5 < 10) ∧ ((0 ≤ x6 ∧ x6 < 10) ∧ (inR (x4 + (M57_9 (70 + x5) x6)) ∧ (∀ v76_15 : Int, v76_15 = (x4 + (M57_9 (70 + x5) x6)) → (jbX6_carried_78 post k6 (fun y2 y3 y4 y5 y6 N => lpX6_carried_18 post k6 n y2 y3 y4 y5 y6 N) x2 x3 v76_15 x5 x6 M57_9))))))))))))))))
def lpX6_carried_6 (post : Int → Mem → Prop) : Nat → Int → Int → Int → Int → Mem → Prop
  | 0, _, _, _, _, _ => False
  | n + 1, x2, x3, x4, x5, M => ((M 1 0) ≤ x5 → (post x4 M)) ∧ (¬ (M 1 0) ≤ x5 → (∃ j, lpX6_carried_18 post (fun y2 y3 y4 y5 N => lpX6_carried_6 post n y2 y3 y4 y5 N) j x2 x3 x4 x5 0 M))
def wpX6_carried (a2 a3 : Int) (M : Mem) (post : Int → Mem → Prop) : Prop := ∃ j, lpX6_carried_6 post j a2 a3 0 0 M
def jbX7_joinEnds_65 (r2 : Int) (r3 : Int) (post : Mem → Prop) (k10 : Int → Int → Mem → Prop) (x1 x4 : Int) (M : Mem) : Prop := inR (x4 + 1) ∧ (k10 x1 (x4 + 1) M)
def jbX7_joinEnds_39 (r2 : Int) (r3 : Int) (post : Mem → Prop) (k10 : Int → Int → Mem → Prop) (x1 x4 : Int) (M : Mem) : Prop := (0 ≤ x4 ∧ x4 < (lenX r3)) ∧ (((M r3 x4) ≤ 0 → (jbX7_joinEnds_65 r2 r3 post k10 x1 x4 M)) ∧ (¬ (M r3 x4) ≤ 0 → ((0 ≤ x4 ∧ x4 < (lenX r3)) ∧ (inR (10 + x4) ∧ (wpX5_join 1 (10 + x4) 21 (M r3 x4) 0 M (fun M62_6 => jbX7_joinEnds_65 r2 r3 post k10 x1 x4 M62_6))))))
def lpX7_joinEnds_10 (r2 : Int) (r3 : Int) (post : Mem → Prop) : Nat → Int → Int → Mem → Prop
  | 0, _, _, _ => False
  | n + 1, x1, x4, M => (x1 ≤ x4 → (post M)) ∧ (¬ x1 ≤ x4 → ((0 ≤ x4 ∧ x4 < (lenX r2)) ∧ (((M r2 x4) ≤ 0 → (jbX7_joinEnds_39 r2 r3 post (fun y1 y4 N => lpX7_joinEnds_10 r2 r3 post n y1 y4 N) x1 x4 M)) ∧ (¬ (M r2 x4) ≤ 0 → ((0 ≤ x4 ∧ x4 < (lenX r2)) ∧ (wpX5_join 1 20 x4 (M r2 x4) 0 M (fun M36_6 => jbX7_joinEnds_39 r2 r3 post (fun y1 y4 N => lpX7_joinEnds_10 r2 r3 post n y1 y4 N) x1 x4 M36_6)))))))
def wpX7_joinEnds (r2 : Int) (r3 : Int) (a1 : Int) (M : Mem) (post : Mem → Prop) : Prop := wpX5_empty 1 M (fun M4_0 => ∃ j, lpX7_joinEnds_10 r2 r3 post j a1 0 M4_0)
def jbX7_joinDistance_72 (r2 : Int) (r3 : Int) (post : Mem → Prop) (k3 : Int → Mem → Prop) (k15 : Int → Int → Mem → Prop) (x4 x5 : Int) (M : Mem) : Prop := inR (x5 + 1) ∧ (k15 x4 (x5 + 1) M)
def lpX7_joinDistance_15 (r2 : Int) (r3 : Int) (post : Mem → Prop) (k3 : Int → Mem → Prop) : Nat → Int → Int → Mem → Prop
  | 0, _, _, _ => False
  | n + 1, x4, x5, M => ((M 1 0) ≤ x5 → (inR (x4 + 1) ∧ (k3 (x4 + 1) M))) ∧ (¬ (M 1 0) ≤ x5 → ((0 ≤ x4 ∧ x4 < 10) ∧ ((0 ≤ x5 ∧ x5 < 10) ∧ ((¬ (M (50 + x4) x5) = (M 7 0) → (jbX7_joinDistance_72 r2 r3 post k3 (fun y4 y5 N => lpX7_joinDistance_15 r2 r3 post k3 n y4 y5 N) x4 x5 M)) ∧ ((M (50 + x4) x5) = (M 7 0) → ((0 ≤ x4 ∧ x4 < (lenX r2)) ∧ (((M r2 x4) ≤ 0 → (jbX7_joinDistance_72 r2 r3 post k3 (fun y4 y5 N => lpX7_joinDistance_15 r2 r3 post k3 n y4 y5 N) x4 x5 M)) ∧ (¬ (M r2 x4) ≤ 0 → ((0 ≤ x5 ∧ x5 < (lenX r3)) ∧ (((M r3 x5) ≤ 0 → (jbX7_joinDistance_72 r2 r3 post k3 (fun y4 y5 N => lpX7_joinDistance_15 r2 r3 post k3 n y4 y5 N) x4 x5 M)) ∧ (¬ (M r3 x5) ≤ 0 → (inR (10 + x5) ∧ (wpX5_join 1 x4 (10 + x5) 1000000 0 M (fun M69_15 => jbX7_joinDistance_72 r2 r3 post k3 (fun y4 y5 N => lpX7_joinDistance_15 r2 r3 post k3 n y4 y5 N) x4 x5 M69_15))))))))))))))
def lpX7_joinDistance_3 (r2 : Int) (r3 : Int) (post : Mem → Prop) : Nat → Int → Mem → Prop
  | 0, _, _ => False
  | n + 1, x4, M => ((M 1 0) ≤ x4 → (post M)) ∧ (¬ (M 1 0) ≤ x4 → (∃ j, lpX7_joinDistance_15 r2 r3 post (fun y4 N => lpX7_joinDistance_3 r2 r3 post n y4 N) j x4 0 M))
def wpX7_joinDistance (r2 : Int) (r3 : Int) (M : Mem) (post : Mem → Prop) : Prop := ∃ j, lpX7_joinDistance_3 r2 r3 post j 0 M
def jbX7_noteStuck_28 (post : Mem → Prop) (k2 : Int → Int → Mem → Prop) (x1 x2 t0 t1 : Int) (M : Mem) : Prop := (0 ≤ t1 ∧ t1 < 10) ∧ (∀ M28_1 : Mem, M28_1 = mset M 27 t1 t0 → (inR (x2 + 1) ∧ (k2 x1 (x2 + 1) M28_1)))
def lpX7_noteStuck_2 (post : Mem → Prop) : Nat → Int → Int → Mem → Prop
  | 0, _, _, _ => False
  | n + 1, x1, x2, M => (x1 ≤ x2 → (post M)) ∧ (¬ x1 ≤ x2 → (wpX5_isReached 1 x2 M (fun r17_1 M17_1 => (r17_1 = 0 → (jbX7_noteStuck_28 post (fun y1 y2 N => lpX7_noteStuck_2 post n y1 y2 N) x1 x2 0 x2 M17_1)) ∧ (¬ r17_1 = 0 → (jbX7_noteStuck_28 post (fun y1 y2 N => lpX7_noteStuck_2 post n y1 y2 N) x1 x2 1 x2 M17_1)))))
def wpX7_noteStuck (a1 : Int) (M : Mem) (post : Mem → Prop) : Prop := ∃ j, lpX7_noteStuck_2 post j a1 0 M
def jbX7_distanceAbove_52 (post : Int → Mem → Prop) (k5 : Int → Int → Int → Mem → Prop) (k16 : Int → Int → Int → Int → Mem → Prop) (x1 x2 x3 x4 : Int) (M : Mem) : Prop := inR (x4 + 1) ∧ (k16 x1 x2 x3 (x4 + 1) M)
def lpX7_distanceAbove_16 (post : Int → Mem → Prop) (k5 : Int → Int → Int → Mem → Prop) : Nat → Int → Int → Int → Int → Mem → Prop
  | 0, _, _, _, _, _ => False
  | n + 1, x1, x2, x3, x4, M => ((M 1 0) ≤ x4 → (inR (x3 + 1) ∧ (k5 x1 x2 (x3 + 1) M))) ∧ (¬ (M 1 0) ≤ x4 → ((0 ≤ x3 ∧ x3 < 10) ∧ ((0 ≤ x4 ∧ x4 < 10) ∧ (((M (50 + x3) x4) ≤ x1 → (jbX7_distanceAbove_52 post k5 (fun y1 y2 y3 y4 N => lpX7_distanceAbove_16 post k5 n y1 y2 y3 y4 N) x1 x2 x3 x4 M)) ∧ (¬ (M (50 + x3) x4) ≤ x1 → ((0 ≤ x3 ∧ x3 < 10) ∧ ((0 ≤ x4 ∧ x4 < 10) ∧ (∀ v51_10 : Int, v51_10 = (min x2 (M (50 + x3) x4)) → (jbX7_distanceAbove_52 post k5 (fun y1 y2 y3 y4 N => lpX7_distanceAbove_16 post k5 n y1 y2 y3 y4 N) x1 v51_10 x3 x4 M)))))))))
def lpX7_distanceAbove_5 (post : Int → Mem → Prop) : Nat → Int → Int → Int → Mem → Prop
  | 0, _, _, _, _ => False
  | n + 1, x1, x2, x3, M => ((M 1 0) ≤ x3 → (post x2 M)) ∧ (¬ (M 1 0) ≤ x3 → (∃ j, lpX7_distanceAbove_16 post (fun y1 y2 y3 N => lpX7_distanceAbove_5 post n y1 y2 y3 N) j x1 x2 x3 0 M))
def wpX7_distanceAbove (a1 : Int) (M : Mem) (post : Int → Mem → Prop) : Prop := ∃ j, lpX7_distanceAbove_5 post j a1 1000000 0 M
def jbX7_make_103 (r2 : Int) (r3 : Int) (post : Mem → Prop) (M : Mem) : Prop := post M
def lpX7_make_42 (r2 : Int) (r3 : Int) (post : Mem → Prop) : Nat → Int → Int → Mem → Prop
  | 0, _, _, _ => False
  | n + 1, x4, x5, M => (100 ≤ x5 → (jbX7_make_103 r2 r3 post M)) ∧ (¬ 100 ≤ x5 → ((x4 ≤ (M (8 + 1) 1) → (jbX7_make_103 r2 r3 post M)) ∧ (¬ x4 ≤ (M (8 + 1) 1) → (wpX7_noteStuck (M 1 0) M (fun M66_4 => wpX7_distanceAbove (M66_4 7 0) M66_4 (fun r75_6 M75_6 => ∀ M78_7 : Mem, M78_7 = mset M75_6 7 0 r75_6 → (wpX7_joinDistance r2 r3 M78_7 (fun M85_8 => wpX5_push 1 x4 M85_8 (fun M94_9 => inR (x5 + 1) ∧ (lpX7_make_42 r2 r3 post n x4 (x5 + 1) M94_9))))))))))
def wpX7_make (r2 : Int) (r3 : Int) (a4 : Int) (M : Mem) (post : Mem → Prop) : Prop := wpX7_joinEnds r2 r3 (M 1 0) M (fun M7_1 => wpJ7_fill_53178 27 0 M7_1 (fun M15_2 => ∀ M20_3 : Mem, M20_3 = mset M15_2 7 0 0 → (wpX7_joinDistance r2 r3 M20_3 (fun M27_4 => wpX5_push 1 a4 M27_4 (fun M36_5 => ∃ j, lpX7_make_42 r2 r3 post j a4 0 M36_5)))))
def wpX8_forgetResults (M : Mem) (post : Mem → Prop) : Prop := ∀ M2_0 : Mem, M2_0 = mset M 0 7 (-1) → (∀ M7_1 : Mem, M7_1 = mset M2_0 0 9 (-1) → (post M7_1))
def wpX8_noteChange (a1 a2 a3 a4 : Int) (M : Mem) (post : Mem → Prop) : Prop := wpX0_keep a1 a2 a3 a4 M (fun M9_0 => wpX8_forgetResults M9_0 (fun M13_1 => post M13_1))
def wpX8_place (M : Mem) (post : Int → Mem → Prop) : Prop := ((M 1 0) < 10 → (wpX3_addPlace M (fun r19_2 M19_2 => wpX8_noteChange 0 r19_2 (-1) (-1) M19_2 (fun M28_3 => post r19_2 M28_3)))) ∧ (¬ (M 1 0) < 10 → (post (-5) M))
def jbX8_road_22 (post : Int → Mem → Prop) (M : Mem) : Prop := post (-2) M
def jbX8_road_42 (post : Int → Mem → Prop) (M : Mem) : Prop := post (-3) M
def wpX8_road (a1 a2 a3 : Int) (M : Mem) (post : Int → Mem → Prop) : Prop := wpX3_has a1 M (fun r5_0 M5_0 => (r5_0 = 0 → (jbX8_road_22 post M5_0)) ∧ (¬ r5_0 = 0 → (wpX3_has a2 M5_0 (fun r16_2 M16_2 => (¬ r16_2 = 0 → ((a3 < 1 → (jbX8_road_42 post M16_2)) ∧ (¬ a3 < 1 → ((1000 < a3 → (jbX8_road_42 post M16_2)) ∧ (¬ 1000 < a3 → ((¬ a1 = a2 → (((M16_2 1 1) < 30 → (wpX3_addRoad a1 a2 a3 M16_2 (fun r67_9 M67_9 => wpX8_noteChange 1 r67_9 (-1) (-1) M67_9 (fun M78_10 => post r67_9 M78_10)))) ∧ (¬ (M16_2 1 1) < 30 → (post (-5) M16_2)))) ∧ (a1 = a2 → (jbX8_road_42 post M16_2)))))))) ∧ (r16_2 = 0 → (jbX8_road_22 post M16_2))))))
def wpX8_heap (M : Mem) (post : Int → Mem → Prop) : Prop := ((M 2 0) < 8 → (∀ v22_3 : Int, v22_3 = (M 2 0) → (inR ((M 2 0) + 1) ∧ (∀ M33_6 : Mem, M33_6 = mset M 2 0 ((M 2 0) + 1) → (wpX8_noteChange 2 v22_3 (-1) (-1) M33_6 (fun M41_7 => post v22_3 M41_7)))))) ∧ (¬ (M 2 0) < 8 → (post (-5) M))
def jbX8_set_22 (post : Int → Mem → Prop) (M : Mem) : Prop := post (-2) M
def jbX8_set_36 (post : Int → Mem → Prop) (M : Mem) : Prop := post (-3) M
def wpX8_set (a1 a2 a3 : Int) (M : Mem) (post : Int → Mem → Prop) : Prop := wpX2_has a1 M (fun r5_0 M5_0 => (r5_0 = 0 → (jbX8_set_22 post M5_0)) ∧ (¬ r5_0 = 0 → (wpX3_has a2 M5_0 (fun r16_2 M16_2 => (¬ r16_2 = 0 → ((a3 < 0 → (jbX8_set_36 post M16_2)) ∧ (¬ a3 < 0 → ((a3 ≤ 1000 → ((0 ≤ a1 ∧ a1 < 8) ∧ ((0 ≤ a2 ∧ a2 < 10) ∧ (∀ v50_9 : Int, v50_9 = (M16_2 (80 + a1) a2) → ((0 ≤ a1 ∧ a1 < 8) ∧ ((0 ≤ a2 ∧ a2 < 10) ∧ (∀ M63_12 : Mem, M63_12 = mset M16_2 (80 + a1) a2 a3 → (wpX8_noteChange 3 a1 a2 v50_9 M63_12 (fun M70_13 => post v50_9 M70_13))))))))) ∧ (¬ a3 ≤ 1000 → (jbX8_set_36 post M16_2)))))) ∧ (r16_2 = 0 → (jbX8_set_22 post M16_2))))))
def jbX8_gate_25 (post : Int → Mem → Prop) (M : Mem) : Prop := post (-3) M
def wpX8_gate (a1 a2 : Int) (M : Mem) (post : Int → Mem → Prop) : Prop := wpX3_has a1 M (fun r5_0 M5_0 => (¬ r5_0 = 0 → ((a2 < (-1) → (jbX8_gate_25 post M5_0)) ∧ (¬ a2 < (-1) → ((a2 ≤ 100000 → ((0 ≤ a1 ∧ a1 < 10) ∧ (∀ v37_6 : Int, v37_6 = (M5_0 18 a1) → ((0 ≤ a1 ∧ a1 < 10) ∧ (∀ M47_8 : Mem, M47_8 = mset M5_0 18 a1 a2 → (wpX8_noteChange 4 a1 (-1) v37_6 M47_8 (fun M53_9 => post v37_6 M53_9))))))) ∧ (¬ a2 ≤ 100000 → (jbX8_gate_25 post M5_0)))))) ∧ (r5_0 = 0 → (post (-2) M5_0)))
def jbX8_takeBack_145 (post : Mem → Prop) (M : Mem) : Prop := post M
def wpX8_takeBack (a1 : Int) (M : Mem) (post : Mem → Prop) : Prop := (0 ≤ a1 ∧ a1 < 30) ∧ (∀ v9_2 : Int, v9_2 = (M 20 a1) → ((0 ≤ a1 ∧ a1 < 30) ∧ (∀ v19_5 : Int, v19_5 = (M 21 a1) → ((0 ≤ a1 ∧ a1 < 30) ∧ (((M 19 a1) = 0 → (wpX3_dropPlace M (fun M64_8 => wpX1_wipePlace v9_2 M64_8 (fun M72_9 => jbX8_takeBack_145 post M72_9)))) ∧ ((M 19 a1) = 1 → (wpX3_dropRoad M (fun M82_10 => jbX8_takeBack_145 post M82_10))) ∧ ((M 19 a1) = 2 → (inR ((M 2 0) - 1) ∧ (∀ M98_13 : Mem, M98_13 = mset M 2 0 ((M 2 0) - 1) → (jbX8_takeBack_145 post M98_13)))) ∧ ((M 19 a1) = 3 → ((0 ≤ v9_2 ∧ v9_2 < 8) ∧ ((0 ≤ a1 ∧ a1 < 30) ∧ ((0 ≤ v19_5 ∧ v19_5 < 10) ∧ (∀ M123_18 : Mem, M123_18 = mset M (80 + v9_2) v19_5 (M 22 a1) → (jbX8_takeBack_145 post M123_18)))))) ∧ ((M 19 a1) < 0 ∨ 3 < (M 19 a1) → ((0 ≤ a1 ∧ a1 < 30) ∧ ((0 ≤ v9_2 ∧ v9_2 < 10) ∧ (∀ M144_22 : Mem, M144_22 = mset M 18 v9_2 (M 22 a1) → (jbX8_takeBack_145 post M144_22))))))))))
def wpX8_undo (M : Mem) (post : Int → Mem → Prop) : Prop := (¬ (M 3 0) = 0 → (wpX0_dropLatest M (fun r18_2 M18_2 => wpX8_takeBack r18_2 M18_2 (fun M21_3 => wpX8_forgetResults M21_3 (fun M25_4 => post (M25_4 3 0) M25_4))))) ∧ ((M 3 0) = 0 → (post (-4) M))
def jbX8_apart_22 (post : Int → Mem → Prop) (M : Mem) : Prop := post (-2) M
def jbX8_apart_48 (post : Int → Mem → Prop) (t0 : Int) (M : Mem) : Prop := post t0 M
def wpX8_apart (a1 a2 : Int) (M : Mem) (post : Int → Mem → Prop) : Prop := wpX3_has a1 M (fun r5_0 M5_0 => (r5_0 = 0 → (jbX8_apart_22 post M5_0)) ∧ (¬ r5_0 = 0 → (wpX3_has a2 M5_0 (fun r16_2 M16_2 => (¬ r16_2 = 0 → ((0 ≤ a1 ∧ a1 < 10) ∧ ((0 ≤ a2 ∧ a2 < 10) ∧ (∀ v36_7 : Int, v36_7 = (M16_2 (50 + a1) a2) → ((¬ v36_7 = 1000000 → (jbX8_apart_48 post v36_7 M16_2)) ∧ (v36_7 = 1000000 → (jbX8_apart_48 post (-1) M16_2))))))) ∧ (r16_2 = 0 → (jbX8_apart_22 post M16_2))))))
def jbX8_next_22 (post : Int → Mem → Prop) (M : Mem) : Prop := post (-2) M
def wpX8_next (a1 a2 : Int) (M : Mem) (post : Int → Mem → Prop) : Prop := wpX3_has a1 M (fun r5_0 M5_0 => (r5_0 = 0 → (jbX8_next_22 post M5_0)) ∧ (¬ r5_0 = 0 → (wpX3_has a2 M5_0 (fun r16_2 M16_2 => (¬ r16_2 = 0 → (wpX3_placeBehind a1 a2 M16_2 (fun r31_4 M31_4 => post r31_4 M31_4))) ∧ (r16_2 = 0 → (jbX8_next_22 post M16_2))))))
def jbX8_amount_22 (post : Int → Mem → Prop) (M : Mem) : Prop := post (-2) M
def wpX8_amount (a1 a2 : Int) (M : Mem) (post : Int → Mem → Prop) : Prop := wpX2_has a1 M (fun r5_0 M5_0 => (r5_0 = 0 → (jbX8_amount_22 post M5_0)) ∧ (¬ r5_0 = 0 → (wpX3_has a2 M5_0 (fun r16_2 M16_2 => (¬ r16_2 = 0 → ((0 ≤ a1 ∧ a1 < 8) ∧ ((0 ≤ a2 ∧ a2 < 10) ∧ (post (M16_2 (80 + a1) a2) M16_2)))) ∧ (r16_2 = 0 → (jbX8_amount_22 post M16_2))))))
def wpX8_sum (a1 : Int) (M : Mem) (post : Int → Mem → Prop) : Prop := wpX2_has a1 M (fun r5_0 M5_0 => (¬ r5_0 = 0 → (wpX2_total a1 M5_0 (fun r19_2 M19_2 => post r19_2 M19_2))) ∧ (r5_0 = 0 → (post (-2) M5_0)))
def jbX8_refusalOfMoving_22 (post : Int → Mem → Prop) (M : Mem) : Prop := post (-2) M
def jbX8_refusalOfMoving_54 (post : Int → Mem → Prop) (M : Mem) : Prop := post (-4) M
def wpX8_refusalOfMoving (a1 a2 : Int) (M : Mem) (post : Int → Mem → Prop) : Prop := wpX2_has a1 M (fun r5_0 M5_0 => (r5_0 = 0 → (jbX8_refusalOfMoving_22 post M5_0)) ∧ (¬ r5_0 = 0 → (wpX2_has a2 M5_0 (fun r16_2 M16_2 => (¬ r16_2 = 0 → (wpX3_isJoined M16_2 (fun r29_4 M29_4 => (r29_4 = 0 → (jbX8_refusalOfMoving_54 post M29_4)) ∧ (¬ r29_4 = 0 → (wpX2_total a1 M29_4 (fun r40_6 M40_6 => wpX2_total a2 M40_6 (fun r48_7 M48_7 => (r40_6 = r48_7 → (post 0 M48_7)) ∧ (¬ r40_6 = r48_7 → (jbX8_refusalOfMoving_54 post M48_7))))))))) ∧ (r16_2 = 0 → (jbX8_refusalOfMoving_22 post M16_2))))))
def wpX8_leastCost (a1 a2 : Int) (M : Mem) (post : Int → Mem → Prop) : Prop := (0 ≤ a1 ∧ a1 < 8) ∧ ((0 ≤ a2 ∧ a2 < 8) ∧ (wpX2_total a1 M (fun r31_2 M31_2 => wpX4_cheapest (80 + a1) (80 + a2) r31_2 M31_2 (fun r34_3 M34_3 => post r34_3 M34_3))))
def jbX8_least_21 (post : Int → Mem → Prop) (t0 : Int) (M : Mem) : Prop := post t0 M
def wpX8_least (a1 a2 : Int) (M : Mem) (post : Int → Mem → Prop) : Prop := wpX8_refusalOfMoving a1 a2 M (fun r3_0 M3_0 => (¬ r3_0 = 0 → (jbX8_least_21 post r3_0 M3_0)) ∧ (r3_0 = 0 → (wpX8_leastCost a1 a2 M3_0 (fun r14_2 M14_2 => jbX8_least_21 post r14_2 M14_2))))
def jbX8_refusalAtPlaces_23 (post : Int → Mem → Prop) (M : Mem) : Prop := post (-2) M
def wpX8_refusalAtPlaces (a1 a2 a3 a4 : Int) (M : Mem) (post : Int → Mem → Prop) : Prop := wpX3_has a3 M (fun r5_0 M5_0 => (r5_0 = 0 → (jbX8_refusalAtPlaces_23 post M5_0)) ∧ (¬ r5_0 = 0 → (wpX3_has a4 M5_0 (fun r17_2 M17_2 => (¬ r17_2 = 0 → (wpX8_refusalOfMoving a1 a2 M17_2 (fun r29_4 M29_4 => post r29_4 M29_4))) ∧ (r17_2 = 0 → (jbX8_refusalAtPlaces_23 post M17_2))))))
def jbX8_makePlan_17 (post : Mem → Prop) (x1 x2 : Int) (M : Mem) : Prop := (0 ≤ x1 ∧ x1 < 8) ∧ ((0 ≤ x2 ∧ x2 < 8) ∧ (wpX2_total x1 M (fun r52_2 M52_2 => wpX6_make (80 + x1) (80 + x2) r52_2 M52_2 (fun M55_3 => ∀ M60_4 : Mem, M60_4 = mset M55_3 0 7 x1 → (∀ M65_5 : Mem, M65_5 = mset M60_4 0 8 x2 → (post M65_5))))))
def wpX8_makePlan (a1 a2 : Int) (M : Mem) (post : Mem → Prop) : Prop := (¬ (M 0 7) = a1 → (jbX8_makePlan_17 post a1 a2 M)) ∧ ((M 0 7) = a1 → ((¬ (M 0 8) = a2 → (jbX8_makePlan_17 post a1 a2 M)) ∧ ((M 0 8) = a2 → (post M))))
def wpX8_plan (a1 a2 a3 a4 : Int) (M : Mem) (post : Int → Mem → Prop) : Prop := wpX8_refusalAtPlaces a1 a2 a3 a4 M (fun r6_0 M6_0 => (r6_0 = 0 → (wpX8_makePlan a1 a2 M6_0 (fun M22_2 => (0 ≤ a3 ∧ a3 < 10) ∧ ((0 ≤ a4 ∧ a4 < 10) ∧ (post (M22_2 (70 + a3) a4) M22_2))))) ∧ (¬ r6_0 = 0 → (post r6_0 M6_0)))
def jbX8_alone_38 (post : Int → Mem → Prop) (t0 : Int) (M : Mem) : Prop := post t0 M
def wpX8_alone (a1 a2 : Int) (M : Mem) (post : Int → Mem → Prop) : Prop := wpX8_refusalOfMoving a1 a2 M (fun r3_0 M3_0 => (r3_0 = 0 → (wpX8_makePlan a1 a2 M3_0 (fun M16_2 => wpX6_hasOther M16_2 (fun r27_3 M27_3 => (r27_3 = 0 → (jbX8_alone_38 post 1 M27_3)) ∧ (¬ r27_3 = 0 → (jbX8_alone_38 post 0 M27_3)))))) ∧ (¬ r3_0 = 0 → (post r3_0 M3_0)))
def wpX8_height (a1 a2 a3 : Int) (M : Mem) (post : Int → Mem → Prop) : Prop := wpX8_refusalAtPlaces a1 a2 a3 a3 M (fun r5_0 M5_0 => (r5_0 = 0 → (wpX8_makePlan a1 a2 M5_0 (fun M17_2 => (0 ≤ a3 ∧ a3 < 10) ∧ (post (M17_2 23 a3) M17_2)))) ∧ (¬ r5_0 = 0 → (post (-2147483648) M5_0)))
def wpX8_load (a1 a2 a3 a4 : Int) (M : Mem) (post : Int → Mem → Prop) : Prop := wpX8_refusalAtPlaces a1 a2 a3 a4 M (fun r6_0 M6_0 => (r6_0 = 0 → (wpX8_makePlan a1 a2 M6_0 (fun M22_2 => wpX6_carried a3 a4 M22_2 (fun r36_3 M36_3 => post r36_3 M36_3)))) ∧ (¬ r6_0 = 0 → (post r6_0 M6_0)))
def jbX8_makeReach_17 (post : Mem → Prop) (x1 x2 : Int) (M : Mem) : Prop := (0 ≤ x1 ∧ x1 < 8) ∧ ((0 ≤ x2 ∧ x2 < 8) ∧ (wpX2_total x1 M (fun r48_2 M48_2 => wpX7_make (80 + x1) (80 + x2) r48_2 M48_2 (fun M51_3 => ∀ M56_4 : Mem, M56_4 = mset M51_3 0 9 x1 → (∀ M61_5 : Mem, M61_5 = mset M56_4 0 10 x2 → (post M61_5))))))
def wpX8_makeReach (a1 a2 : Int) (M : Mem) (post : Mem → Prop) : Prop := (¬ (M 0 9) = a1 → (jbX8_makeReach_17 post a1 a2 M)) ∧ ((M 0 9) = a1 → ((¬ (M 0 10) = a2 → (jbX8_makeReach_17 post a1 a2 M)) ∧ ((M 0 10) = a2 → (post M))))
def wpX8_far (a1 a2 : Int) (M : Mem) (post : Int → Mem → Prop) : Prop := wpX8_refusalOfMoving a1 a2 M (fun r3_0 M3_0 => (r3_0 = 0 → (wpX8_makeReach a1 a2 M3_0 (fun M16_2 => post (M16_2 7 0) M16_2))) ∧ (¬ r3_0 = 0 → (post r3_0 M3_0)))
def wpX8_shown (a1 a2 a3 : Int) (M : Mem) (post : Int → Mem → Prop) : Prop := wpX8_refusalAtPlaces a1 a2 a3 a3 M (fun r5_0 M5_0 => (r5_0 = 0 → (wpX8_makeReach a1 a2 M5_0 (fun M21_2 => (0 ≤ a3 ∧ a3 < 10) ∧ (post (M21_2 27 a3) M21_2)))) ∧ (¬ r5_0 = 0 → (post r5_0 M5_0)))
def jbX8_some_22 (post : Int → Mem → Prop) (M : Mem) : Prop := post (-2) M
def jbX8_some_52 (post : Int → Mem → Prop) (M : Mem) : Prop := post (-3) M
def wpX8_some (a1 a2 a3 : Int) (M : Mem) (post : Int → Mem → Prop) : Prop := wpX2_has a1 M (fun r5_0 M5_0 => (r5_0 = 0 → (jbX8_some_22 post M5_0)) ∧ (¬ r5_0 = 0 → (wpX2_has a2 M5_0 (fun r16_2 M16_2 => (¬ r16_2 = 0 → ((a3 < 0 → (jbX8_some_52 post M16_2)) ∧ (¬ a3 < 0 → (wpX2_total a1 M16_2 (fun r35_5 M35_5 => wpX2_total a2 M35_5 (fun r43_6 M43_6 => (a3 ≤ (min r35_5 r43_6) → (wpX3_isJoined M43_6 (fun r59_8 M59_8 => (¬ r59_8 = 0 → ((0 ≤ a1 ∧ a1 < 8) ∧ ((0 ≤ a2 ∧ a2 < 8) ∧ (wpX4_cheapest (80 + a1) (80 + a2) a3 M59_8 (fun r95_12 M95_12 => post r95_12 M95_12))))) ∧ (r59_8 = 0 → (post (-4) M59_8))))) ∧ (¬ a3 ≤ (min r35_5 r43_6) → (jbX8_some_52 post M43_6)))))))) ∧ (r16_2 = 0 → (jbX8_some_22 post M16_2))))))
def wpX8_gated (a1 a2 : Int) (M : Mem) (post : Int → Mem → Prop) : Prop := wpX8_refusalOfMoving a1 a2 M (fun r3_0 M3_0 => (r3_0 = 0 → ((0 ≤ a1 ∧ a1 < 8) ∧ ((0 ≤ a2 ∧ a2 < 8) ∧ (wpX4_cheapestThroughGates (80 + a1) (80 + a2) M3_0 (fun r39_4 M39_4 => post r39_4 M39_4))))) ∧ (¬ r3_0 = 0 → (post r3_0 M3_0)))
def jbX8_draft_22 (post : Int → Mem → Prop) (M : Mem) : Prop := post (-2) M
def jbX8_draft_36 (post : Int → Mem → Prop) (M : Mem) : Prop := post (-3) M
def wpX8_draft (a1 a2 a3 : Int) (M : Mem) (post : Int → Mem → Prop) : Prop := wpX3_has a1 M (fun r5_0 M5_0 => (r5_0 = 0 → (jbX8_draft_22 post M5_0)) ∧ (¬ r5_0 = 0 → (wpX3_has a2 M5_0 (fun r16_2 M16_2 => (¬ r16_2 = 0 → ((a3 < 0 → (jbX8_draft_36 post M16_2)) ∧ (¬ a3 < 0 → ((a3 ≤ 10000 → ((0 ≤ a1 ∧ a1 < 10) ∧ ((0 ≤ a2 ∧ a2 < 10) ∧ (∀ v50_9 : Int, v50_9 = (M16_2 (60 + a1) a2) → ((0 ≤ a1 ∧ a1 < 10) ∧ ((0 ≤ a2 ∧ a2 < 10) ∧ (∀ M63_12 : Mem, M63_12 = mset M16_2 (60 + a1) a2 a3 → (post v50_9 M63_12)))))))) ∧ (¬ a3 ≤ 10000 → (jbX8_draft_36 post M16_2)))))) ∧ (r16_2 = 0 → (jbX8_draft_22 post M16_2))))))
def wpX8_clear (M : Mem) (post : Int → Mem → Prop) : Prop := wpX1_others M (fun r4_0 M4_0 => wpX1_wipe M4_0 (fun M12_1 => post r4_0 M12_1))
def lpX8_copy_37 (post : Int → Mem → Prop) (k22 : Int → Mem → Prop) : Nat → Int → Int → Mem → Prop
  | 0, _, _, _ => False
  | n + 1, x4, x5, M => ((M 1 0) ≤ x5 → (inR (x4 + 1) ∧ (k22 (x4 + 1) M))) ∧ (¬ (M 1 0) ≤ x5 → ((0 ≤ x4 ∧ x4 < 10) ∧ ((0 ≤ x4 ∧ x4 < 10) ∧ ((0 ≤ x5 ∧ x5 < 10) ∧ ((0 ≤ x5 ∧ x5 < 10) ∧ (∀ M74_8 : Mem, M74_8 = mset M (60 + x4) x5 (M (70 + x4) x5) → (inR (x5 + 1) ∧ (lpX8_copy_37 post k22 n x4 (x5 + 1) M74_8))))))))
def lpX8_copy_22 (post : Int → Mem → Prop) : Nat → Int → Mem → Prop
  | 0, _, _ => False
  | n + 1, x4, M => ((M 1 0) ≤ x4 → (wpX1_others M (fun r91_2 M91_2 => post r91_2 M91_2))) ∧ (¬ (M 1 0) ≤ x4 → (∃ j, lpX8_copy_37 post (fun y4 N => lpX8_copy_22 post n y4 N) j x4 0 M))
def wpX8_copy (a1 a2 : Int) (M : Mem) (post : Int → Mem → Prop) : Prop := wpX8_refusalOfMoving a1 a2 M (fun r3_0 M3_0 => (r3_0 = 0 → (wpX8_makePlan a1 a2 M3_0 (fun M16_2 => ∃ j, lpX8_copy_22 post j 0 M16_2))) ∧ (¬ r3_0 = 0 → (post r3_0 M3_0)))
def jbX8_judge_125 (post : Int → Mem → Prop) (t0 : Int) (M : Mem) : Prop := post t0 M
def wpX8_judge (a1 a2 : Int) (M : Mem) (post : Int → Mem → Prop) : Prop := wpX8_refusalOfMoving a1 a2 M (fun r3_0 M3_0 => (r3_0 = 0 → ((0 ≤ a1 ∧ a1 < 8) ∧ (wpX1_firstWrongFrom (80 + a1) (M3_0 1 0) M3_0 (fun r33_4 M33_4 => (r33_4 = (-1) → ((0 ≤ a2 ∧ a2 < 8) ∧ (wpX1_firstWrongTo (80 + a2) (M33_4 1 0) M33_4 (fun r72_8 M72_8 => (r72_8 = (-1) → (wpX1_cost M72_8 (fun r100_10 M100_10 => wpX8_leastCost a1 a2 M100_10 (fun r106_11 M106_11 => inR (r100_10 - r106_11) ∧ (∀ M110_13 : Mem, M110_13 = mset M106_11 0 11 (r100_10 - r106_11) → (((M110_13 0 11) ≤ 0 → (jbX8_judge_125 post 0 M110_13)) ∧ (¬ (M110_13 0 11) ≤ 0 → (jbX8_judge_125 post 3 M110_13)))))))) ∧ (¬ r72_8 = (-1) → (∀ M86_16 : Mem, M86_16 = mset M72_8 0 11 r72_8 → (post 2 M86_16))))))) ∧ (¬ r33_4 = (-1) → (∀ M47_17 : Mem, M47_17 = mset M33_4 0 11 r33_4 → (post 1 M47_17))))))) ∧ (¬ r3_0 = 0 → (post r3_0 M3_0)))
def wpX8_beside (M : Mem) (post : Int → Mem → Prop) : Prop := post (M 0 11) M
def jbX8_count_95 (post : Int → Mem → Prop) (t0 : Int) (M : Mem) : Prop := post t0 M
def wpX8_count (a1 : Int) (M : Mem) (post : Int → Mem → Prop) : Prop := (a1 = 0 → (post (M 1 0) M)) ∧ (a1 = 1 → (post (M 1 1) M)) ∧ (a1 = 2 → (post (M 2 0) M)) ∧ (a1 = 3 → (wpX3_gates M (fun r68_3 M68_3 => post r68_3 M68_3))) ∧ (a1 = 4 → (post (M 3 0) M)) ∧ (a1 = 5 → (wpX3_isJoined M (fun r84_5 M84_5 => (r84_5 = 0 → (jbX8_count_95 post 0 M84_5)) ∧ (¬ r84_5 = 0 → (jbX8_count_95 post 1 M84_5))))) ∧ (a1 < 0 ∨ 5 < a1 → (post (-3) M))
