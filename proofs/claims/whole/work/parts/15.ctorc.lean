abbrev SX3 : Type := (Nat → Nat) × (Nat → Nat) × (Nat → Nat)
def cwX3 (cI cG cZ : ClassId) (h : Nat) (u : SX3) : va_W := (h, .inr (3, [.int 0, .int 0, .ref (u.1 0), .ref (u.1 1), .ref (u.1 2), .ref (u.1 3), .ref (u.1 4), .ref (u.1 5)])) :: ((((((([] : va_W) ++ ([((u.1 0), .inl (cI, 30, .inl (fun _ => 0)))] : va_W)) ++ ([((u.1 1), .inl (cI, 30, .inl (fun _ => 0)))] : va_W)) ++ ([((u.1 2), .inl (cI, 30, .inl (fun _ => 0)))] : va_W)) ++ ([((u.1 3), .inl (cI, 10, .inl (c_bnd 10)))] : va_W)) ++ (([((u.1 4), .inl (cG, 10, .inr (.inr (.inr (.inr (fun i => if i < 10 then some (u.2.1 i) else none))))))] ++ (List.range 10).map (fun i => (u.2.1 i, .inl (cI, 10, .inl (fun _ => 0))))) : va_W)) ++ (([((u.1 5), .inl (cG, 10, .inr (.inr (.inr (.inr (fun i => if i < 10 then some (u.2.2 i) else none))))))] ++ (List.range 10).map (fun i => (u.2.2 i, .inl (cI, 10, .inl (fun _ => 0))))) : va_W))
abbrev rmX3_init : Room := { frames := 1, cells := 26, slots := 320, locals := 12 }
abbrev wtX3_init : List Cond := Cond.code yX3_init cX3_init 2 none :: lw_g
set_option maxHeartbeats 8000000 in
set_option maxRecDepth 100000 in
theorem mX3_init (l : Launch) (dC : Nat → ClassId) (dI : Nat → Nat → Nat) (cI cG cZ : ClassId) (h0 sz : Nat) : Met l yX3_init wtX3_init rmX3_init (va_Pc [.ref h0] (fun U => U.heap.size = sz ∧ va_P (dC, dI) vwCl [(h0, .inr (3, [.int 0, .int 0, .null, .null, .null, .null, .null, .null]))] U.heap ∧ va_K (dC, dI) vwCl [(cI, .int), (cG, .array .int), (cZ, .boolean)] U ∧ va_D (fun _ => True) [(h0, .inr (3, [.int 0, .int 0, .null, .null, .null, .null, .null, .null]))] ∧ va_AOA .int U)) (va_Qv (fun _ : SX3 => True) (fun u t => va_P (dC, dI) vwCl (cwX3 cI cG cZ h0 u) t.heap ∧ va_K (dC, dI) vwCl [(cI, .int), (cG, .array .int), (cZ, .boolean)] t ∧ va_D (va_A [(h0, .inr (3, [.int 0, .int 0, .null, .null, .null, .null, .null, .null]))] sz) (cwX3 cI cG cZ h0 u)) (va_A [(h0, .inr (3, [.int 0, .int 0, .null, .null, .null, .null, .null, .null]))] sz)) 26 320 (va_A [(h0, .inr (3, [.int 0, .int 0, .null, .null, .null, .null, .null, .null]))] sz) := by
  refine Met.ofW (cc := cX3_init) (maxL := 2) (ret := none) (by decide) rfl ?_
  intro p e s m args below meth c s₁ B hml hv
  obtain ⟨rfl, hsz, hP, hK, hD0, hO⟩ := hv
  have hx := B.exec
  have hb := B.bytes
  have hr := B.returns
  have hts : ∀ w ∈ lw_g, w.before _ s = true := fun w h => atoms_spec (ws := wtX3_init) B.pre w (List.mem_cons_of_mem _ h)
  have hown : s.vm.findClass RX3 = some m.cls := findClass_of_methodNamed B.named
  have hlocks := B.notSynchronized
  have hin : meth.name = "<init>" := (name_of_methodNamed B.named B.method).1
  subst hsz
  have hD := hD0.self (sz := s.heap.size)
  generalize hAe : va_A [(h0, .inr (3, [.int 0, .int 0, .null, .null, .null, .null, .null, .null]))] s.heap.size = A at hD ⊢
  have hA : ∀ q : Nat, s.heap.size ≤ q → A q := fun q h => by rw [← hAe]; exact Or.inr h
  have hS : va_S A s.heap s.heap [] := va_S.rf
  have hl := lv_entry ([.ref h0]) (n := 2) (Nat.le_of_ble_eq_true rfl)
  rw [lg_entry_eq]
  generalize (lg_sl ([.ref h0]) ++ List.replicate (2 - (lg_sl ([.ref h0])).length) Slot.unset).toArray = ls at hl ⊢
  have hl : lv_has ls 2 [(0, .ref h0)] := hl
  show W p l e rmX3_init s m _ below meth c s.heap [] 0 0 _ _
  refine lv_aload_n hx hb dX3_init_0 rfl (lv_at hl 0 rfl) ?_
  refine W.objInit hx hb hown (hts _ wm_X3_3) (hts _ wi_obj) (hts _ wc_obj) rfl (by rw [hml]; exact hl.1) rfl dX3_init_1 (Nat.le_of_ble_eq_true rfl) (Nat.le_of_ble_eq_true rfl) ?_
  refine W.eq (g2 := F0 m 4 ls []) rfl ?_
  refine lv_aload_n hx hb dX3_init_4 rfl (lv_at hl 0 rfl) ?_
  refine lv_bipush (v := i32 30) hx hb dX3_init_5 (by decide) ?_
  refine c_newi (n := 30) (N' := 30) (t0 := 0) hx hb (hts _ wy_int) rfl hK hP hD hS hA (by decide) rfl (Nat.le_of_ble_eq_true rfl) (Nat.le_of_ble_eq_true rfl) dX3_init_7 (fun q1 H hP hD hS => ?_)
  have hP : va_P (dC, dI) vwCl ([(h0, .inr (3, [.int 0, .int 0, .null, .null, .null, .null, .null, .null])), (q1, .inl (cI, 30, .inl (fun _ => 0)))]) H := hP
  have hD : va_D A ([(h0, .inr (3, [.int 0, .int 0, .null, .null, .null, .null, .null, .null])), (q1, .inl (cI, 30, .inl (fun _ => 0)))]) := hD
  refine va_putF (D := (dC, dI)) (ci := 3) (v := .ref q1) (ty := .array .int) (C := RX3) (T := TX3) (N := 8) hx hb hts wu_X3 tyX3 tyX3_ok nmX3 hown hK hP hD hS 0 rfl rfl 2 (by decide) (hts _ wf_X3_9) (fun _ h9 => h9) rfl hin rfl (by decide +kernel) rfl rfl (Nat.le_of_ble_eq_true rfl) dX3_init_9 (fun H locs hP hD hS => ?_)
  have hP : va_P (dC, dI) vwCl ([(h0, .inr (3, [.int 0, .int 0, .ref q1, .null, .null, .null, .null, .null])), (q1, .inl (cI, 30, .inl (fun _ => 0)))]) H := hP
  have hD : va_D A ([(h0, .inr (3, [.int 0, .int 0, .ref q1, .null, .null, .null, .null, .null])), (q1, .inl (cI, 30, .inl (fun _ => 0)))]) := hD
  refine lv_aload_n hx hb dX3_init_12 rfl (lv_at hl 0 rfl) ?_
  refine lv_bipush (v := i32 30) hx hb dX3_init_13 (by decide) ?_
  refine c_newi (n := 30) (N' := 30) (t0 := 0) hx hb (hts _ wy_int) rfl hK hP hD hS hA (by decide) rfl (Nat.le_of_ble_eq_true rfl) (Nat.le_of_ble_eq_true rfl) dX3_init_15 (fun q2 H hP hD hS => ?_)
  have hP : va_P (dC, dI) vwCl ([(h0, .inr (3, [.int 0, .int 0, .ref q1, .null, .null, .null, .null, .null])), (q1, .inl (cI, 30, .inl (fun _ => 0))), (q2, .inl (cI, 30, .inl (fun _ => 0)))]) H := hP
  have hD : va_D A ([(h0, .inr (3, [.int 0, .int 0, .ref q1, .null, .null, .null, .null, .null])), (q1, .inl (cI, 30, .inl (fun _ => 0))), (q2, .inl (cI, 30, .inl (fun _ => 0)))]) := hD
  refine va_putF (D := (dC, dI)) (ci := 3) (v := .ref q2) (ty := .array .int) (C := RX3) (T := TX3) (N := 8) hx hb hts wu_X3 tyX3 tyX3_ok nmX3 hown hK hP hD hS 0 rfl rfl 3 (by decide) (hts _ wf_X3_15) (fun _ h9 => h9) rfl hin rfl (by decide +kernel) rfl rfl (Nat.le_of_ble_eq_true rfl) dX3_init_17 (fun H locs hP hD hS => ?_)
  have hP : va_P (dC, dI) vwCl ([(h0, .inr (3, [.int 0, .int 0, .ref q1, .ref q2, .null, .null, .null, .null])), (q1, .inl (cI, 30, .inl (fun _ => 0))), (q2, .inl (cI, 30, .inl (fun _ => 0)))]) H := hP
  have hD : va_D A ([(h0, .inr (3, [.int 0, .int 0, .ref q1, .ref q2, .null, .null, .null, .null])), (q1, .inl (cI, 30, .inl (fun _ => 0))), (q2, .inl (cI, 30, .inl (fun _ => 0)))]) := hD
  refine lv_aload_n hx hb dX3_init_20 rfl (lv_at hl 0 rfl) ?_
  refine lv_bipush (v := i32 30) hx hb dX3_init_21 (by decide) ?_
  refine c_newi (n := 30) (N' := 30) (t0 := 0) hx hb (hts _ wy_int) rfl hK hP hD hS hA (by decide) rfl (Nat.le_of_ble_eq_true rfl) (Nat.le_of_ble_eq_true rfl) dX3_init_23 (fun q3 H hP hD hS => ?_)
  have hP : va_P (dC, dI) vwCl ([(h0, .inr (3, [.int 0, .int 0, .ref q1, .ref q2, .null, .null, .null, .null])), (q1, .inl (cI, 30, .inl (fun _ => 0))), (q2, .inl (cI, 30, .inl (fun _ => 0))), (q3, .inl (cI, 30, .inl (fun _ => 0)))]) H := hP
  have hD : va_D A ([(h0, .inr (3, [.int 0, .int 0, .ref q1, .ref q2, .null, .null, .null, .null])), (q1, .inl (cI, 30, .inl (fun _ => 0))), (q2, .inl (cI, 30, .inl (fun _ => 0))), (q3, .inl (cI, 30, .inl (fun _ => 0)))]) := hD
  refine va_putF (D := (dC, dI)) (ci := 3) (v := .ref q3) (ty := .array .int) (C := RX3) (T := TX3) (N := 8) hx hb hts wu_X3 tyX3 tyX3_ok nmX3 hown hK hP hD hS 0 rfl rfl 4 (by decide) (hts _ wf_X3_18) (fun _ h9 => h9) rfl hin rfl (by decide +kernel) rfl rfl (Nat.le_of_ble_eq_true rfl) dX3_init_25 (fun H locs hP hD hS => ?_)
  have hP : va_P (dC, dI) vwCl ([(h0, .inr (3, [.int 0, .int 0, .ref q1, .ref q2, .ref q3, .null, .null, .null])), (q1, .inl (cI, 30, .inl (fun _ => 0))), (q2, .inl (cI, 30, .inl (fun _ => 0))), (q3, .inl (cI, 30, .inl (fun _ => 0)))]) H := hP
  have hD : va_D A ([(h0, .inr (3, [.int 0, .int 0, .ref q1, .ref q2, .ref q3, .null, .null, .null])), (q1, .inl (cI, 30, .inl (fun _ => 0))), (q2, .inl (cI, 30, .inl (fun _ => 0))), (q3, .inl (cI, 30, .inl (fun _ => 0)))]) := hD
  refine lv_aload_n hx hb dX3_init_28 rfl (lv_at hl 0 rfl) ?_
  refine lv_bipush (v := i32 10) hx hb dX3_init_29 (by decide) ?_
  refine c_newi (n := 10) (N' := 10) (t0 := 0) hx hb (hts _ wy_int) rfl hK hP hD hS hA (by decide) rfl (Nat.le_of_ble_eq_true rfl) (Nat.le_of_ble_eq_true rfl) dX3_init_31 (fun q4 H hP hD hS => ?_)
  have hP : va_P (dC, dI) vwCl ([(h0, .inr (3, [.int 0, .int 0, .ref q1, .ref q2, .ref q3, .null, .null, .null])), (q1, .inl (cI, 30, .inl (fun _ => 0))), (q2, .inl (cI, 30, .inl (fun _ => 0))), (q3, .inl (cI, 30, .inl (fun _ => 0))), (q4, .inl (cI, 10, .inl (fun _ => 0)))]) H := hP
  have hD : va_D A ([(h0, .inr (3, [.int 0, .int 0, .ref q1, .ref q2, .ref q3, .null, .null, .null])), (q1, .inl (cI, 30, .inl (fun _ => 0))), (q2, .inl (cI, 30, .inl (fun _ => 0))), (q3, .inl (cI, 30, .inl (fun _ => 0))), (q4, .inl (cI, 10, .inl (fun _ => 0)))]) := hD
  refine va_putF (D := (dC, dI)) (ci := 3) (v := .ref q4) (ty := .array .int) (C := RX3) (T := TX3) (N := 8) hx hb hts wu_X3 tyX3 tyX3_ok nmX3 hown hK hP hD hS 0 rfl rfl 5 (by decide) (hts _ wf_X3_21) (fun _ h9 => h9) rfl hin rfl (by decide +kernel) rfl rfl (Nat.le_of_ble_eq_true rfl) dX3_init_33 (fun H locs hP hD hS => ?_)
  have hP : va_P (dC, dI) vwCl ([(h0, .inr (3, [.int 0, .int 0, .ref q1, .ref q2, .ref q3, .ref q4, .null, .null])), (q1, .inl (cI, 30, .inl (fun _ => 0))), (q2, .inl (cI, 30, .inl (fun _ => 0))), (q3, .inl (cI, 30, .inl (fun _ => 0))), (q4, .inl (cI, 10, .inl (fun _ => 0)))]) H := hP
  have hD : va_D A ([(h0, .inr (3, [.int 0, .int 0, .ref q1, .ref q2, .ref q3, .ref q4, .null, .null])), (q1, .inl (cI, 30, .inl (fun _ => 0))), (q2, .inl (cI, 30, .inl (fun _ => 0))), (q3, .inl (cI, 30, .inl (fun _ => 0))), (q4, .inl (cI, 10, .inl (fun _ => 0)))]) := hD
  refine lv_aload_n hx hb dX3_init_36 rfl (lv_at hl 0 rfl) ?_
  refine lv_bipush (v := i32 10) hx hb dX3_init_37 (by decide) ?_
  refine lv_bipush (v := i32 10) hx hb dX3_init_39 (by decide) ?_
  refine c_mna (n := 10) (N' := 10) (t0 := 0) (t1 := 1) hx hb hown (hts _ wq_X3_24) hO (hts _ wy_int) rfl rfl hK hP hD hS hA (by decide) rfl (Nat.le_of_ble_eq_true rfl) (Nat.le_of_ble_eq_true rfl) dX3_init_41 (fun q5 r5 H hP hD hS => ?_)
  refine W.widen (k := 15) (n := 210) (Nat.le_of_ble_eq_true rfl) (Nat.le_of_ble_eq_true rfl) ?_
  have hP : va_P (dC, dI) vwCl ((h0, .inr (3, [.int 0, .int 0, .ref q1, .ref q2, .ref q3, .ref q4, .null, .null])) :: (((((([] : va_W) ++ ([(q1, .inl (cI, 30, .inl (fun _ => 0)))] : va_W)) ++ ([(q2, .inl (cI, 30, .inl (fun _ => 0)))] : va_W)) ++ ([(q3, .inl (cI, 30, .inl (fun _ => 0)))] : va_W)) ++ ([(q4, .inl (cI, 10, .inl (fun _ => 0)))] : va_W)) ++ (([(q5, .inl (cG, 10, .inr (.inr (.inr (.inr (fun i => if i < 10 then some (r5 i) else none))))))] ++ (List.range 10).map (fun i => (r5 i, .inl (cI, 10, .inl (fun _ => 0))))) : va_W))) H := hP
  have hD : va_D A ((h0, .inr (3, [.int 0, .int 0, .ref q1, .ref q2, .ref q3, .ref q4, .null, .null])) :: (((((([] : va_W) ++ ([(q1, .inl (cI, 30, .inl (fun _ => 0)))] : va_W)) ++ ([(q2, .inl (cI, 30, .inl (fun _ => 0)))] : va_W)) ++ ([(q3, .inl (cI, 30, .inl (fun _ => 0)))] : va_W)) ++ ([(q4, .inl (cI, 10, .inl (fun _ => 0)))] : va_W)) ++ (([(q5, .inl (cG, 10, .inr (.inr (.inr (.inr (fun i => if i < 10 then some (r5 i) else none))))))] ++ (List.range 10).map (fun i => (r5 i, .inl (cI, 10, .inl (fun _ => 0))))) : va_W))) := hD
  refine va_putF (D := (dC, dI)) (ci := 3) (v := .ref q5) (ty := .array (.array .int)) (C := RX3) (T := TX3) (N := 8) hx hb hts wu_X3 tyX3 tyX3_ok nmX3 hown hK hP hD hS 0 rfl rfl 6 (by decide) (hts _ wf_X3_26) (fun _ h9 => h9) rfl hin rfl (by decide +kernel) rfl rfl (Nat.le_of_ble_eq_true rfl) dX3_init_45 (fun H locs hP hD hS => ?_)
  have hP : va_P (dC, dI) vwCl ((h0, .inr (3, [.int 0, .int 0, .ref q1, .ref q2, .ref q3, .ref q4, .ref q5, .null])) :: (((((([] : va_W) ++ ([(q1, .inl (cI, 30, .inl (fun _ => 0)))] : va_W)) ++ ([(q2, .inl (cI, 30, .inl (fun _ => 0)))] : va_W)) ++ ([(q3, .inl (cI, 30, .inl (fun _ => 0)))] : va_W)) ++ ([(q4, .inl (cI, 10, .inl (fun _ => 0)))] : va_W)) ++ (([(q5, .inl (cG, 10, .inr (.inr (.inr (.inr (fun i => if i < 10 then some (r5 i) else none))))))] ++ (List.range 10).map (fun i => (r5 i, .inl (cI, 10, .inl (fun _ => 0))))) : va_W))) H := hP
  have hD : va_D A ((h0, .inr (3, [.int 0, .int 0, .ref q1, .ref q2, .ref q3, .ref q4, .ref q5, .null])) :: (((((([] : va_W) ++ ([(q1, .inl (cI, 30, .inl (fun _ => 0)))] : va_W)) ++ ([(q2, .inl (cI, 30, .inl (fun _ => 0)))] : va_W)) ++ ([(q3, .inl (cI, 30, .inl (fun _ => 0)))] : va_W)) ++ ([(q4, .inl (cI, 10, .inl (fun _ => 0)))] : va_W)) ++ (([(q5, .inl (cG, 10, .inr (.inr (.inr (.inr (fun i => if i < 10 then some (r5 i) else none))))))] ++ (List.range 10).map (fun i => (r5 i, .inl (cI, 10, .inl (fun _ => 0))))) : va_W))) := hD
  refine lv_aload_n hx hb dX3_init_48 rfl (lv_at hl 0 rfl) ?_
  refine lv_bipush (v := i32 10) hx hb dX3_init_49 (by decide) ?_
  refine lv_bipush (v := i32 10) hx hb dX3_init_51 (by decide) ?_
  refine c_mna (n := 10) (N' := 10) (t0 := 0) (t1 := 1) hx hb hown (hts _ wq_X3_24) hO (hts _ wy_int) rfl rfl hK hP hD hS hA (by decide) rfl (Nat.le_of_ble_eq_true rfl) (Nat.le_of_ble_eq_true rfl) dX3_init_53 (fun q6 r6 H hP hD hS => ?_)
  refine W.widen (k := 26) (n := 320) (Nat.le_of_ble_eq_true rfl) (Nat.le_of_ble_eq_true rfl) ?_
  have hP : va_P (dC, dI) vwCl ((h0, .inr (3, [.int 0, .int 0, .ref q1, .ref q2, .ref q3, .ref q4, .ref q5, .null])) :: ((((((([] : va_W) ++ ([(q1, .inl (cI, 30, .inl (fun _ => 0)))] : va_W)) ++ ([(q2, .inl (cI, 30, .inl (fun _ => 0)))] : va_W)) ++ ([(q3, .inl (cI, 30, .inl (fun _ => 0)))] : va_W)) ++ ([(q4, .inl (cI, 10, .inl (fun _ => 0)))] : va_W)) ++ (([(q5, .inl (cG, 10, .inr (.inr (.inr (.inr (fun i => if i < 10 then some (r5 i) else none))))))] ++ (List.range 10).map (fun i => (r5 i, .inl (cI, 10, .inl (fun _ => 0))))) : va_W)) ++ (([(q6, .inl (cG, 10, .inr (.inr (.inr (.inr (fun i => if i < 10 then some (r6 i) else none))))))] ++ (List.range 10).map (fun i => (r6 i, .inl (cI, 10, .inl (fun _ => 0))))) : va_W))) H := hP
  have hD : va_D A ((h0, .inr (3, [.int 0, .int 0, .ref q1, .ref q2, .ref q3, .ref q4, .ref q5, .null])) :: ((((((([] : va_W) ++ ([(q1, .inl (cI, 30, .inl (fun _ => 0)))] : va_W)) ++ ([(q2, .inl (cI, 30, .inl (fun _ => 0)))] : va_W)) ++ ([(q3, .inl (cI, 30, .inl (fun _ => 0)))] : va_W)) ++ ([(q4, .inl (cI, 10, .inl (fun _ => 0)))] : va_W)) ++ (([(q5, .inl (cG, 10, .inr (.inr (.inr (.inr (fun i => if i < 10 then some (r5 i) else none))))))] ++ (List.range 10).map (fun i => (r5 i, .inl (cI, 10, .inl (fun _ => 0))))) : va_W)) ++ (([(q6, .inl (cG, 10, .inr (.inr (.inr (.inr (fun i => if i < 10 then some (r6 i) else none))))))] ++ (List.range 10).map (fun i => (r6 i, .inl (cI, 10, .inl (fun _ => 0))))) : va_W))) := hD
  refine va_putF (D := (dC, dI)) (ci := 3) (v := .ref q6) (ty := .array (.array .int)) (C := RX3) (T := TX3) (N := 8) hx hb hts wu_X3 tyX3 tyX3_ok nmX3 hown hK hP hD hS 0 rfl rfl 7 (by decide) (hts _ wf_X3_29) (fun _ h9 => h9) rfl hin rfl (by decide +kernel) rfl rfl (Nat.le_of_ble_eq_true rfl) dX3_init_57 (fun H locs hP hD hS => ?_)
  have hP : va_P (dC, dI) vwCl ((h0, .inr (3, [.int 0, .int 0, .ref q1, .ref q2, .ref q3, .ref q4, .ref q5, .ref q6])) :: ((((((([] : va_W) ++ ([(q1, .inl (cI, 30, .inl (fun _ => 0)))] : va_W)) ++ ([(q2, .inl (cI, 30, .inl (fun _ => 0)))] : va_W)) ++ ([(q3, .inl (cI, 30, .inl (fun _ => 0)))] : va_W)) ++ ([(q4, .inl (cI, 10, .inl (fun _ => 0)))] : va_W)) ++ (([(q5, .inl (cG, 10, .inr (.inr (.inr (.inr (fun i => if i < 10 then some (r5 i) else none))))))] ++ (List.range 10).map (fun i => (r5 i, .inl (cI, 10, .inl (fun _ => 0))))) : va_W)) ++ (([(q6, .inl (cG, 10, .inr (.inr (.inr (.inr (fun i => if i < 10 then some (r6 i) else none))))))] ++ (List.range 10).map (fun i => (r6 i, .inl (cI, 10, .inl (fun _ => 0))))) : va_W))) H := hP
  have hD : va_D A ((h0, .inr (3, [.int 0, .int 0, .ref q1, .ref q2, .ref q3, .ref q4, .ref q5, .ref q6])) :: ((((((([] : va_W) ++ ([(q1, .inl (cI, 30, .inl (fun _ => 0)))] : va_W)) ++ ([(q2, .inl (cI, 30, .inl (fun _ => 0)))] : va_W)) ++ ([(q3, .inl (cI, 30, .inl (fun _ => 0)))] : va_W)) ++ ([(q4, .inl (cI, 10, .inl (fun _ => 0)))] : va_W)) ++ (([(q5, .inl (cG, 10, .inr (.inr (.inr (.inr (fun i => if i < 10 then some (r5 i) else none))))))] ++ (List.range 10).map (fun i => (r5 i, .inl (cI, 10, .inl (fun _ => 0))))) : va_W)) ++ (([(q6, .inl (cG, 10, .inr (.inr (.inr (.inr (fun i => if i < 10 then some (r6 i) else none))))))] ++ (List.range 10).map (fun i => (r6 i, .inl (cI, 10, .inl (fun _ => 0))))) : va_W))) := hD
  refine li_iconst hx hb dX3_init_60 ?_
  refine lv_istore_n (lv' := [(1, .int (i32 0)), (0, .ref h0)]) hx hb dX3_init_61 rfl hl (by decide) rfl (fun ls hl => ?_)
  have hP : va_P (dC, dI) vwCl ((h0, .inr (3, [.int 0, .int 0, .ref q1, .ref q2, .ref q3, .ref q4, .ref q5, .ref q6])) :: ((((((([] : va_W) ++ ([(q1, .inl (cI, 30, .inl (fun _ => 0)))] : va_W)) ++ ([(q2, .inl (cI, 30, .inl (fun _ => 0)))] : va_W)) ++ ([(q3, .inl (cI, 30, .inl (fun _ => 0)))] : va_W)) ++ ([(q4, .inl (cI, 10, .inl (c_bnd 0)))] : va_W)) ++ (([(q5, .inl (cG, 10, .inr (.inr (.inr (.inr (fun i => if i < 10 then some (r5 i) else none))))))] ++ (List.range 10).map (fun i => (r5 i, .inl (cI, 10, .inl (fun _ => 0))))) : va_W)) ++ (([(q6, .inl (cG, 10, .inr (.inr (.inr (.inr (fun i => if i < 10 then some (r6 i) else none))))))] ++ (List.range 10).map (fun i => (r6 i, .inl (cI, 10, .inl (fun _ => 0))))) : va_W))) H := by rw [c_bnd0]; exact hP
  have hD : va_D A ((h0, .inr (3, [.int 0, .int 0, .ref q1, .ref q2, .ref q3, .ref q4, .ref q5, .ref q6])) :: ((((((([] : va_W) ++ ([(q1, .inl (cI, 30, .inl (fun _ => 0)))] : va_W)) ++ ([(q2, .inl (cI, 30, .inl (fun _ => 0)))] : va_W)) ++ ([(q3, .inl (cI, 30, .inl (fun _ => 0)))] : va_W)) ++ ([(q4, .inl (cI, 10, .inl (c_bnd 0)))] : va_W)) ++ (([(q5, .inl (cG, 10, .inr (.inr (.inr (.inr (fun i => if i < 10 then some (r5 i) else none))))))] ++ (List.range 10).map (fun i => (r5 i, .inl (cI, 10, .inl (fun _ => 0))))) : va_W)) ++ (([(q6, .inl (cG, 10, .inr (.inr (.inr (.inr (fun i => if i < 10 then some (r6 i) else none))))))] ++ (List.range 10).map (fun i => (r6 i, .inl (cI, 10, .inl (fun _ => 0))))) : va_W))) := by rw [c_bnd0]; exact hD
  have loop : ∀ (n i : Nat), i + n = 10 → ∀ (H : Heap) (locs : List Loc) (ls : Array Slot), va_P (dC, dI) vwCl ((h0, .inr (3, [.int 0, .int 0, .ref q1, .ref q2, .ref q3, .ref q4, .ref q5, .ref q6])) :: ((((((([] : va_W) ++ ([(q1, .inl (cI, 30, .inl (fun _ => 0)))] : va_W)) ++ ([(q2, .inl (cI, 30, .inl (fun _ => 0)))] : va_W)) ++ ([(q3, .inl (cI, 30, .inl (fun _ => 0)))] : va_W)) ++ ([(q4, .inl (cI, 10, .inl (c_bnd i)))] : va_W)) ++ (([(q5, .inl (cG, 10, .inr (.inr (.inr (.inr (fun i => if i < 10 then some (r5 i) else none))))))] ++ (List.range 10).map (fun i => (r5 i, .inl (cI, 10, .inl (fun _ => 0))))) : va_W)) ++ (([(q6, .inl (cG, 10, .inr (.inr (.inr (.inr (fun i => if i < 10 then some (r6 i) else none))))))] ++ (List.range 10).map (fun i => (r6 i, .inl (cI, 10, .inl (fun _ => 0))))) : va_W))) H → va_D A ((h0, .inr (3, [.int 0, .int 0, .ref q1, .ref q2, .ref q3, .ref q4, .ref q5, .ref q6])) :: ((((((([] : va_W) ++ ([(q1, .inl (cI, 30, .inl (fun _ => 0)))] : va_W)) ++ ([(q2, .inl (cI, 30, .inl (fun _ => 0)))] : va_W)) ++ ([(q3, .inl (cI, 30, .inl (fun _ => 0)))] : va_W)) ++ ([(q4, .inl (cI, 10, .inl (c_bnd i)))] : va_W)) ++ (([(q5, .inl (cG, 10, .inr (.inr (.inr (.inr (fun i => if i < 10 then some (r5 i) else none))))))] ++ (List.range 10).map (fun i => (r5 i, .inl (cI, 10, .inl (fun _ => 0))))) : va_W)) ++ (([(q6, .inl (cG, 10, .inr (.inr (.inr (.inr (fun i => if i < 10 then some (r6 i) else none))))))] ++ (List.range 10).map (fun i => (r6 i, .inl (cI, 10, .inl (fun _ => 0))))) : va_W))) → va_S A s.heap H locs → lv_has ls 2 [(1, .int (i32 (i : Int))), (0, .ref h0)] → W p l e rmX3_init s m ([Value.ref h0] : List Value).toArray below meth c H locs 26 320 (MQ below (va_Qv (fun _ : SX3 => True) (fun u t => va_P (dC, dI) vwCl (cwX3 cI cG cZ h0 u) t.heap ∧ va_K (dC, dI) vwCl [(cI, .int), (cG, .array .int), (cZ, .boolean)] t ∧ va_D A (cwX3 cI cG cZ h0 u)) A) ([Value.ref h0] : List Value).toArray s 26 320 A) (F0 m 62 ls []) := by
    intro n
    induction n with
    | zero =>
      intro i hi H locs ls hP hD hS hl
      have e10 : i = 10 := by omega
      subst e10
      refine lv_iload_n hx hb dX3_init_62 rfl (lv_at hl 0 rfl) ?_
      refine lv_bipush (v := i32 10) hx hb dX3_init_63 (by decide) ?_
      refine li_icmp_ge (tgt := 81) hx hb dX3_init_65 (by decide) (by decide) (by decide) (fun c_1 => ?_) (fun c_1 => absurd (by decide) c_1)
      exact W.vret hx hb hr (fun t ht hW => ⟨⟨((fun k => [q1, q2, q3, q4, q5, q6].getD k 0), r5, r6), rfl, trivial, by rw [ht]; exact hP, va_K.moved hW.alike hK, hD⟩, hS.F ht⟩) hS.2.2 dX3_init_81
    | succ n ih =>
      intro i hi H locs ls hP hD hS hl
      have hir : inR (i : Int) := ⟨by omega, by omega⟩
      refine lv_iload_n hx hb dX3_init_62 rfl (lv_at hl 0 rfl) ?_
      refine lv_bipush (v := i32 10) hx hb dX3_init_63 (by decide) ?_
      refine li_icmp_ge (tgt := 81) hx hb dX3_init_65 (by decide) hir (by decide) (fun c_1 => absurd c_1 (by omega)) (fun c_1 => ?_)
      refine lv_aload_n hx hb dX3_init_68 rfl (lv_at hl 1 rfl) ?_
      refine va_get (D := (dC, dI)) (ci := 3) (v := .ref q4) (C := RX3) (T := TX3) (N := 8) hx hb hts wu_X3 hown hK hP 0 rfl rfl 5 (by decide) (hts _ wf_X3_21) (fun _ h9 => h9) rfl dX3_init_69 ?_
      refine lv_iload_n hx hb dX3_init_72 rfl (lv_at hl 0 rfl) ?_
      refine li_iconst hx hb dX3_init_73 ?_
      obtain ⟨h_1, h_2⟩ := i32_in (x := (i : Int)) (n := 10) (by omega) (by omega) (by decide)
      refine va_iast hx hb hK hP hD hS 4 0 rfl rfl h_1 dX3_init_74 (fun H locs hP hD hS => ?_)
      rw [h_2, Int.toNat_natCast, c_bndS] at hP hD
      refine li_iinc (lv' := [(1, .int (i32 ((i : Int) + 1))), (0, .ref h0)]) hx hb dX3_init_75 hl (k := 0) rfl (by decide) rfl (fun ls hl => ?_)
      refine lv_goto (tgt := 62) hx hb dX3_init_78 (by decide) ?_
      exact ih (i + 1) (by omega) _ _ _ hP hD hS hl
  exact loop 10 0 rfl _ _ _ hP hD hS hl
