abbrev SX0 : Type := (Nat → Nat)
def cwX0 (cI cG cZ : ClassId) (h : Nat) (u : SX0) : va_W := [(h, .inr (0, [.int 0, .int 0, .ref (u 0), .ref (u 1), .ref (u 2), .ref (u 3)])), ((u 0), .inl (cI, 30, .inl (fun _ => 0))), ((u 1), .inl (cI, 30, .inl (fun _ => 0))), ((u 2), .inl (cI, 30, .inl (fun _ => 0))), ((u 3), .inl (cI, 30, .inl (fun _ => 0)))]
abbrev rmX0_init : Room := { frames := 1, cells := 4, slots := 120, locals := 12 }
abbrev wtX0_init : List Cond := Cond.code yX0_init cX0_init 1 none :: lw_g
set_option maxHeartbeats 8000000 in
set_option maxRecDepth 100000 in
theorem mX0_init (l : Launch) (dC : Nat → ClassId) (dI : Nat → Nat → Nat) (cI cG cZ : ClassId) (h0 sz : Nat) : Met l yX0_init wtX0_init rmX0_init (va_Pc [.ref h0] (fun U => U.heap.size = sz ∧ va_P (dC, dI) vwCl [(h0, .inr (0, [.int 0, .int 0, .null, .null, .null, .null]))] U.heap ∧ va_K (dC, dI) vwCl [(cI, .int), (cG, .array .int), (cZ, .boolean)] U ∧ va_D (fun _ => True) [(h0, .inr (0, [.int 0, .int 0, .null, .null, .null, .null]))])) (va_Qv (fun _ : SX0 => True) (fun u t => va_P (dC, dI) vwCl (cwX0 cI cG cZ h0 u) t.heap ∧ va_K (dC, dI) vwCl [(cI, .int), (cG, .array .int), (cZ, .boolean)] t ∧ va_D (va_A [(h0, .inr (0, [.int 0, .int 0, .null, .null, .null, .null]))] sz) (cwX0 cI cG cZ h0 u)) (va_A [(h0, .inr (0, [.int 0, .int 0, .null, .null, .null, .null]))] sz)) 4 120 (va_A [(h0, .inr (0, [.int 0, .int 0, .null, .null, .null, .null]))] sz) := by
  refine Met.ofW (cc := cX0_init) (maxL := 1) (ret := none) (by decide) rfl ?_
  intro p e s m args below meth c s₁ B hml hv
  obtain ⟨rfl, hsz, hP, hK, hD0⟩ := hv
  have hx := B.exec
  have hb := B.bytes
  have hr := B.returns
  have hts : ∀ w ∈ lw_g, w.before _ s = true := fun w h => atoms_spec (ws := wtX0_init) B.pre w (List.mem_cons_of_mem _ h)
  have hown : s.vm.findClass RX0 = some m.cls := findClass_of_methodNamed B.named
  have hlocks := B.notSynchronized
  have hin : meth.name = "<init>" := (name_of_methodNamed B.named B.method).1
  subst hsz
  have hD := hD0.self (sz := s.heap.size)
  generalize hAe : va_A [(h0, .inr (0, [.int 0, .int 0, .null, .null, .null, .null]))] s.heap.size = A at hD ⊢
  have hA : ∀ q : Nat, s.heap.size ≤ q → A q := fun q h => by rw [← hAe]; exact Or.inr h
  have hS : va_S A s.heap s.heap [] := va_S.rf
  have hl := lv_entry ([.ref h0]) (n := 1) (Nat.le_of_ble_eq_true rfl)
  rw [lg_entry_eq]
  generalize (lg_sl ([.ref h0]) ++ List.replicate (1 - (lg_sl ([.ref h0])).length) Slot.unset).toArray = ls at hl ⊢
  have hl : lv_has ls 1 [(0, .ref h0)] := hl
  show W p l e rmX0_init s m _ below meth c s.heap [] 0 0 _ _
  refine lv_aload_n hx hb dX0_init_0 rfl (lv_at hl 0 rfl) ?_
  refine W.objInit hx hb hown (hts _ wm_X0_3) (hts _ wi_obj) (hts _ wc_obj) rfl (by rw [hml]; exact hl.1) rfl dX0_init_1 (Nat.le_of_ble_eq_true rfl) (Nat.le_of_ble_eq_true rfl) ?_
  refine W.eq (g2 := F0 m 4 ls []) rfl ?_
  refine lv_aload_n hx hb dX0_init_4 rfl (lv_at hl 0 rfl) ?_
  refine lv_bipush (v := i32 30) hx hb dX0_init_5 (by decide) ?_
  refine c_newi (n := 30) (N' := 30) (t0 := 0) hx hb (hts _ wy_int) rfl hK hP hD hS hA (by decide) rfl (Nat.le_of_ble_eq_true rfl) (Nat.le_of_ble_eq_true rfl) dX0_init_7 (fun q1 H hP hD hS => ?_)
  have hP : va_P (dC, dI) vwCl ([(h0, .inr (0, [.int 0, .int 0, .null, .null, .null, .null])), (q1, .inl (cI, 30, .inl (fun _ => 0)))]) H := hP
  have hD : va_D A ([(h0, .inr (0, [.int 0, .int 0, .null, .null, .null, .null])), (q1, .inl (cI, 30, .inl (fun _ => 0)))]) := hD
  refine va_putF (D := (dC, dI)) (ci := 0) (v := .ref q1) (ty := .array .int) (C := RX0) (T := TX0) (N := 6) hx hb hts wu_X0 tyX0 tyX0_ok nmX0 hown hK hP hD hS 0 rfl rfl 2 (by decide) (hts _ wf_X0_9) (fun _ h9 => h9) rfl hin rfl (by decide +kernel) rfl rfl (Nat.le_of_ble_eq_true rfl) dX0_init_9 (fun H locs hP hD hS => ?_)
  have hP : va_P (dC, dI) vwCl ([(h0, .inr (0, [.int 0, .int 0, .ref q1, .null, .null, .null])), (q1, .inl (cI, 30, .inl (fun _ => 0)))]) H := hP
  have hD : va_D A ([(h0, .inr (0, [.int 0, .int 0, .ref q1, .null, .null, .null])), (q1, .inl (cI, 30, .inl (fun _ => 0)))]) := hD
  refine lv_aload_n hx hb dX0_init_12 rfl (lv_at hl 0 rfl) ?_
  refine lv_bipush (v := i32 30) hx hb dX0_init_13 (by decide) ?_
  refine c_newi (n := 30) (N' := 30) (t0 := 0) hx hb (hts _ wy_int) rfl hK hP hD hS hA (by decide) rfl (Nat.le_of_ble_eq_true rfl) (Nat.le_of_ble_eq_true rfl) dX0_init_15 (fun q2 H hP hD hS => ?_)
  have hP : va_P (dC, dI) vwCl ([(h0, .inr (0, [.int 0, .int 0, .ref q1, .null, .null, .null])), (q1, .inl (cI, 30, .inl (fun _ => 0))), (q2, .inl (cI, 30, .inl (fun _ => 0)))]) H := hP
  have hD : va_D A ([(h0, .inr (0, [.int 0, .int 0, .ref q1, .null, .null, .null])), (q1, .inl (cI, 30, .inl (fun _ => 0))), (q2, .inl (cI, 30, .inl (fun _ => 0)))]) := hD
  refine va_putF (D := (dC, dI)) (ci := 0) (v := .ref q2) (ty := .array .int) (C := RX0) (T := TX0) (N := 6) hx hb hts wu_X0 tyX0 tyX0_ok nmX0 hown hK hP hD hS 0 rfl rfl 3 (by decide) (hts _ wf_X0_15) (fun _ h9 => h9) rfl hin rfl (by decide +kernel) rfl rfl (Nat.le_of_ble_eq_true rfl) dX0_init_17 (fun H locs hP hD hS => ?_)
  have hP : va_P (dC, dI) vwCl ([(h0, .inr (0, [.int 0, .int 0, .ref q1, .ref q2, .null, .null])), (q1, .inl (cI, 30, .inl (fun _ => 0))), (q2, .inl (cI, 30, .inl (fun _ => 0)))]) H := hP
  have hD : va_D A ([(h0, .inr (0, [.int 0, .int 0, .ref q1, .ref q2, .null, .null])), (q1, .inl (cI, 30, .inl (fun _ => 0))), (q2, .inl (cI, 30, .inl (fun _ => 0)))]) := hD
  refine lv_aload_n hx hb dX0_init_20 rfl (lv_at hl 0 rfl) ?_
  refine lv_bipush (v := i32 30) hx hb dX0_init_21 (by decide) ?_
  refine c_newi (n := 30) (N' := 30) (t0 := 0) hx hb (hts _ wy_int) rfl hK hP hD hS hA (by decide) rfl (Nat.le_of_ble_eq_true rfl) (Nat.le_of_ble_eq_true rfl) dX0_init_23 (fun q3 H hP hD hS => ?_)
  have hP : va_P (dC, dI) vwCl ([(h0, .inr (0, [.int 0, .int 0, .ref q1, .ref q2, .null, .null])), (q1, .inl (cI, 30, .inl (fun _ => 0))), (q2, .inl (cI, 30, .inl (fun _ => 0))), (q3, .inl (cI, 30, .inl (fun _ => 0)))]) H := hP
  have hD : va_D A ([(h0, .inr (0, [.int 0, .int 0, .ref q1, .ref q2, .null, .null])), (q1, .inl (cI, 30, .inl (fun _ => 0))), (q2, .inl (cI, 30, .inl (fun _ => 0))), (q3, .inl (cI, 30, .inl (fun _ => 0)))]) := hD
  refine va_putF (D := (dC, dI)) (ci := 0) (v := .ref q3) (ty := .array .int) (C := RX0) (T := TX0) (N := 6) hx hb hts wu_X0 tyX0 tyX0_ok nmX0 hown hK hP hD hS 0 rfl rfl 4 (by decide) (hts _ wf_X0_18) (fun _ h9 => h9) rfl hin rfl (by decide +kernel) rfl rfl (Nat.le_of_ble_eq_true rfl) dX0_init_25 (fun H locs hP hD hS => ?_)
  have hP : va_P (dC, dI) vwCl ([(h0, .inr (0, [.int 0, .int 0, .ref q1, .ref q2, .ref q3, .null])), (q1, .inl (cI, 30, .inl (fun _ => 0))), (q2, .inl (cI, 30, .inl (fun _ => 0))), (q3, .inl (cI, 30, .inl (fun _ => 0)))]) H := hP
  have hD : va_D A ([(h0, .inr (0, [.int 0, .int 0, .ref q1, .ref q2, .ref q3, .null])), (q1, .inl (cI, 30, .inl (fun _ => 0))), (q2, .inl (cI, 30, .inl (fun _ => 0))), (q3, .inl (cI, 30, .inl (fun _ => 0)))]) := hD
  refine lv_aload_n hx hb dX0_init_28 rfl (lv_at hl 0 rfl) ?_
  refine lv_bipush (v := i32 30) hx hb dX0_init_29 (by decide) ?_
  refine c_newi (n := 30) (N' := 30) (t0 := 0) hx hb (hts _ wy_int) rfl hK hP hD hS hA (by decide) rfl (Nat.le_of_ble_eq_true rfl) (Nat.le_of_ble_eq_true rfl) dX0_init_31 (fun q4 H hP hD hS => ?_)
  have hP : va_P (dC, dI) vwCl ([(h0, .inr (0, [.int 0, .int 0, .ref q1, .ref q2, .ref q3, .null])), (q1, .inl (cI, 30, .inl (fun _ => 0))), (q2, .inl (cI, 30, .inl (fun _ => 0))), (q3, .inl (cI, 30, .inl (fun _ => 0))), (q4, .inl (cI, 30, .inl (fun _ => 0)))]) H := hP
  have hD : va_D A ([(h0, .inr (0, [.int 0, .int 0, .ref q1, .ref q2, .ref q3, .null])), (q1, .inl (cI, 30, .inl (fun _ => 0))), (q2, .inl (cI, 30, .inl (fun _ => 0))), (q3, .inl (cI, 30, .inl (fun _ => 0))), (q4, .inl (cI, 30, .inl (fun _ => 0)))]) := hD
  refine va_putF (D := (dC, dI)) (ci := 0) (v := .ref q4) (ty := .array .int) (C := RX0) (T := TX0) (N := 6) hx hb hts wu_X0 tyX0 tyX0_ok nmX0 hown hK hP hD hS 0 rfl rfl 5 (by decide) (hts _ wf_X0_21) (fun _ h9 => h9) rfl hin rfl (by decide +kernel) rfl rfl (Nat.le_of_ble_eq_true rfl) dX0_init_33 (fun H locs hP hD hS => ?_)
  have hP : va_P (dC, dI) vwCl ([(h0, .inr (0, [.int 0, .int 0, .ref q1, .ref q2, .ref q3, .ref q4])), (q1, .inl (cI, 30, .inl (fun _ => 0))), (q2, .inl (cI, 30, .inl (fun _ => 0))), (q3, .inl (cI, 30, .inl (fun _ => 0))), (q4, .inl (cI, 30, .inl (fun _ => 0)))]) H := hP
  have hD : va_D A ([(h0, .inr (0, [.int 0, .int 0, .ref q1, .ref q2, .ref q3, .ref q4])), (q1, .inl (cI, 30, .inl (fun _ => 0))), (q2, .inl (cI, 30, .inl (fun _ => 0))), (q3, .inl (cI, 30, .inl (fun _ => 0))), (q4, .inl (cI, 30, .inl (fun _ => 0)))]) := hD
  exact W.vret hx hb hr (fun t ht hW => ⟨⟨(fun k => [q1, q2, q3, q4].getD k 0), rfl, trivial, by rw [ht]; exact hP, va_K.moved hW.alike hK, hD⟩, hS.F ht⟩) hS.2.2 dX0_init_36
abbrev SX1 : Type := (Nat → Nat) × (Nat → Nat)
def cwX1 (cI cG cZ : ClassId) (h : Nat) (u : SX1) : va_W := (h, .inr (1, [.ref (u.1 0)])) :: (([] : va_W) ++ (([((u.1 0), .inl (cG, 10, .inr (.inr (.inr (.inr (fun i => if i < 10 then some (u.2 i) else none))))))] ++ (List.range 10).map (fun i => (u.2 i, .inl (cI, 10, .inl (fun _ => 0))))) : va_W))
abbrev rmX1_init : Room := { frames := 1, cells := 11, slots := 110, locals := 12 }
abbrev wtX1_init : List Cond := Cond.code yX1_init cX1_init 1 none :: lw_g
set_option maxHeartbeats 8000000 in
set_option maxRecDepth 100000 in
theorem mX1_init (l : Launch) (dC : Nat → ClassId) (dI : Nat → Nat → Nat) (cI cG cZ : ClassId) (h0 sz : Nat) : Met l yX1_init wtX1_init rmX1_init (va_Pc [.ref h0] (fun U => U.heap.size = sz ∧ va_P (dC, dI) vwCl [(h0, .inr (1, [.null]))] U.heap ∧ va_K (dC, dI) vwCl [(cI, .int), (cG, .array .int), (cZ, .boolean)] U ∧ va_D (fun _ => True) [(h0, .inr (1, [.null]))] ∧ va_AOA .int U)) (va_Qv (fun _ : SX1 => True) (fun u t => va_P (dC, dI) vwCl (cwX1 cI cG cZ h0 u) t.heap ∧ va_K (dC, dI) vwCl [(cI, .int), (cG, .array .int), (cZ, .boolean)] t ∧ va_D (va_A [(h0, .inr (1, [.null]))] sz) (cwX1 cI cG cZ h0 u)) (va_A [(h0, .inr (1, [.null]))] sz)) 11 110 (va_A [(h0, .inr (1, [.null]))] sz) := by
  refine Met.ofW (cc := cX1_init) (maxL := 1) (ret := none) (by decide) rfl ?_
  intro p e s m args below meth c s₁ B hml hv
  obtain ⟨rfl, hsz, hP, hK, hD0, hO⟩ := hv
  have hx := B.exec
  have hb := B.bytes
  have hr := B.returns
  have hts : ∀ w ∈ lw_g, w.before _ s = true := fun w h => atoms_spec (ws := wtX1_init) B.pre w (List.mem_cons_of_mem _ h)
  have hown : s.vm.findClass RX1 = some m.cls := findClass_of_methodNamed B.named
  have hlocks := B.notSynchronized
  have hin : meth.name = "<init>" := (name_of_methodNamed B.named B.method).1
  subst hsz
  have hD := hD0.self (sz := s.heap.size)
  generalize hAe : va_A [(h0, .inr (1, [.null]))] s.heap.size = A at hD ⊢
  have hA : ∀ q : Nat, s.heap.size ≤ q → A q := fun q h => by rw [← hAe]; exact Or.inr h
  have hS : va_S A s.heap s.heap [] := va_S.rf
  have hl := lv_entry ([.ref h0]) (n := 1) (Nat.le_of_ble_eq_true rfl)
  rw [lg_entry_eq]
  generalize (lg_sl ([.ref h0]) ++ List.replicate (1 - (lg_sl ([.ref h0])).length) Slot.unset).toArray = ls at hl ⊢
  have hl : lv_has ls 1 [(0, .ref h0)] := hl
  show W p l e rmX1_init s m _ below meth c s.heap [] 0 0 _ _
  refine lv_aload_n hx hb dX1_init_0 rfl (lv_at hl 0 rfl) ?_
  refine W.objInit hx hb hown (hts _ wm_X1_3) (hts _ wi_obj) (hts _ wc_obj) rfl (by rw [hml]; exact hl.1) rfl dX1_init_1 (Nat.le_of_ble_eq_true rfl) (Nat.le_of_ble_eq_true rfl) ?_
  refine W.eq (g2 := F0 m 4 ls []) rfl ?_
  refine lv_aload_n hx hb dX1_init_4 rfl (lv_at hl 0 rfl) ?_
  refine lv_bipush (v := i32 10) hx hb dX1_init_5 (by decide) ?_
  refine lv_bipush (v := i32 10) hx hb dX1_init_7 (by decide) ?_
  refine c_mna (n := 10) (N' := 10) (t0 := 0) (t1 := 1) hx hb hown (hts _ wq_X1_9) hO (hts _ wy_int) rfl rfl hK hP hD hS hA (by decide) rfl (Nat.le_of_ble_eq_true rfl) (Nat.le_of_ble_eq_true rfl) dX1_init_9 (fun q1 r1 H hP hD hS => ?_)
  refine W.widen (k := 11) (n := 110) (Nat.le_of_ble_eq_true rfl) (Nat.le_of_ble_eq_true rfl) ?_
  have hP : va_P (dC, dI) vwCl ((h0, .inr (1, [.null])) :: (([] : va_W) ++ (([(q1, .inl (cG, 10, .inr (.inr (.inr (.inr (fun i => if i < 10 then some (r1 i) else none))))))] ++ (List.range 10).map (fun i => (r1 i, .inl (cI, 10, .inl (fun _ => 0))))) : va_W))) H := hP
  have hD : va_D A ((h0, .inr (1, [.null])) :: (([] : va_W) ++ (([(q1, .inl (cG, 10, .inr (.inr (.inr (.inr (fun i => if i < 10 then some (r1 i) else none))))))] ++ (List.range 10).map (fun i => (r1 i, .inl (cI, 10, .inl (fun _ => 0))))) : va_W))) := hD
  refine va_putF (D := (dC, dI)) (ci := 1) (v := .ref q1) (ty := .array (.array .int)) (C := RX1) (T := TX1) (N := 1) hx hb hts wu_X1 tyX1 tyX1_ok nmX1 hown hK hP hD hS 0 rfl rfl 0 (by decide) (hts _ wf_X1_11) (fun _ h9 => h9) rfl hin rfl (by decide +kernel) rfl rfl (Nat.le_of_ble_eq_true rfl) dX1_init_13 (fun H locs hP hD hS => ?_)
  have hP : va_P (dC, dI) vwCl ((h0, .inr (1, [.ref q1])) :: (([] : va_W) ++ (([(q1, .inl (cG, 10, .inr (.inr (.inr (.inr (fun i => if i < 10 then some (r1 i) else none))))))] ++ (List.range 10).map (fun i => (r1 i, .inl (cI, 10, .inl (fun _ => 0))))) : va_W))) H := hP
  have hD : va_D A ((h0, .inr (1, [.ref q1])) :: (([] : va_W) ++ (([(q1, .inl (cG, 10, .inr (.inr (.inr (.inr (fun i => if i < 10 then some (r1 i) else none))))))] ++ (List.range 10).map (fun i => (r1 i, .inl (cI, 10, .inl (fun _ => 0))))) : va_W))) := hD
  exact W.vret hx hb hr (fun t ht hW => ⟨⟨((fun k => [q1].getD k 0), r1), rfl, trivial, by rw [ht]; exact hP, va_K.moved hW.alike hK, hD⟩, hS.F ht⟩) hS.2.2 dX1_init_16
