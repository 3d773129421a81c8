abbrev SX2 : Type := (Nat → Nat) × (Nat → Nat)
def cwX2 (cI cG cZ : ClassId) (h : Nat) (u : SX2) : va_W := (h, .inr (2, [.int 0, .ref (u.1 0)])) :: (([] : va_W) ++ (([((u.1 0), .inl (cG, 8, .inr (.inr (.inr (.inr (fun i => if i < 8 then some (u.2 i) else none))))))] ++ (List.range 8).map (fun i => (u.2 i, .inl (cI, 10, .inl (fun _ => 0))))) : va_W))
abbrev rmX2_init : Room := { frames := 1, cells := 9, slots := 88, locals := 12 }
abbrev wtX2_init : List Cond := Cond.code yX2_init cX2_init 1 none :: lw_g
set_option maxHeartbeats 8000000 in
set_option maxRecDepth 100000 in
theorem mX2_init (l : Launch) (dC : Nat → ClassId) (dI : Nat → Nat → Nat) (cI cG cZ : ClassId) (h0 sz : Nat) : Met l yX2_init wtX2_init rmX2_init (va_Pc [.ref h0] (fun U => U.heap.size = sz ∧ va_P (dC, dI) vwCl [(h0, .inr (2, [.int 0, .null]))] U.heap ∧ va_K (dC, dI) vwCl [(cI, .int), (cG, .array .int), (cZ, .boolean)] U ∧ va_D (fun _ => True) [(h0, .inr (2, [.int 0, .null]))] ∧ va_AOA .int U)) (va_Qv (fun _ : SX2 => True) (fun u t => va_P (dC, dI) vwCl (cwX2 cI cG cZ h0 u) t.heap ∧ va_K (dC, dI) vwCl [(cI, .int), (cG, .array .int), (cZ, .boolean)] t ∧ va_D (va_A [(h0, .inr (2, [.int 0, .null]))] sz) (cwX2 cI cG cZ h0 u)) (va_A [(h0, .inr (2, [.int 0, .null]))] sz)) 9 88 (va_A [(h0, .inr (2, [.int 0, .null]))] sz) := by
  refine Met.ofW (cc := cX2_init) (maxL := 1) (ret := none) (by decide) rfl ?_
  intro p e s m args below meth c s₁ B hml hv
  obtain ⟨rfl, hsz, hP, hK, hD0, hO⟩ := hv
  have hx := B.exec
  have hb := B.bytes
  have hr := B.returns
  have hts : ∀ w ∈ lw_g, w.before _ s = true := fun w h => atoms_spec (ws := wtX2_init) B.pre w (List.mem_cons_of_mem _ h)
  have hown : s.vm.findClass RX2 = some m.cls := findClass_of_methodNamed B.named
  have hlocks := B.notSynchronized
  have hin : meth.name = "<init>" := (name_of_methodNamed B.named B.method).1
  subst hsz
  have hD := hD0.self (sz := s.heap.size)
  generalize hAe : va_A [(h0, .inr (2, [.int 0, .null]))] s.heap.size = A at hD ⊢
  have hA : ∀ q : Nat, s.heap.size ≤ q → A q := fun q h => by rw [← hAe]; exact Or.inr h
  have hS : va_S A s.heap s.heap [] := va_S.rf
  have hl := lv_entry ([.ref h0]) (n := 1) (Nat.le_of_ble_eq_true rfl)
  rw [lg_entry_eq]
  generalize (lg_sl ([.ref h0]) ++ List.replicate (1 - (lg_sl ([.ref h0])).length) Slot.unset).toArray = ls at hl ⊢
  have hl : lv_has ls 1 [(0, .ref h0)] := hl
  show W p l e rmX2_init s m _ below meth c s.heap [] 0 0 _ _
  refine lv_aload_n hx hb dX2_init_0 rfl (lv_at hl 0 rfl) ?_
  refine W.objInit hx hb hown (hts _ wm_X2_3) (hts _ wi_obj) (hts _ wc_obj) rfl (by rw [hml]; exact hl.1) rfl dX2_init_1 (Nat.le_of_ble_eq_true rfl) (Nat.le_of_ble_eq_true rfl) ?_
  refine W.eq (g2 := F0 m 4 ls []) rfl ?_
  refine lv_aload_n hx hb dX2_init_4 rfl (lv_at hl 0 rfl) ?_
  refine lv_bipush (v := i32 8) hx hb dX2_init_5 (by decide) ?_
  refine lv_bipush (v := i32 10) hx hb dX2_init_7 (by decide) ?_
  refine c_mna (n := 8) (N' := 8) (t0 := 0) (t1 := 1) hx hb hown (hts _ wq_X2_9) hO (hts _ wy_int) rfl rfl hK hP hD hS hA (by decide) rfl (Nat.le_of_ble_eq_true rfl) (Nat.le_of_ble_eq_true rfl) dX2_init_9 (fun q1 r1 H hP hD hS => ?_)
  refine W.widen (k := 9) (n := 88) (Nat.le_of_ble_eq_true rfl) (Nat.le_of_ble_eq_true rfl) ?_
  have hP : va_P (dC, dI) vwCl ((h0, .inr (2, [.int 0, .null])) :: (([] : va_W) ++ (([(q1, .inl (cG, 8, .inr (.inr (.inr (.inr (fun i => if i < 8 then some (r1 i) else none))))))] ++ (List.range 8).map (fun i => (r1 i, .inl (cI, 10, .inl (fun _ => 0))))) : va_W))) H := hP
  have hD : va_D A ((h0, .inr (2, [.int 0, .null])) :: (([] : va_W) ++ (([(q1, .inl (cG, 8, .inr (.inr (.inr (.inr (fun i => if i < 8 then some (r1 i) else none))))))] ++ (List.range 8).map (fun i => (r1 i, .inl (cI, 10, .inl (fun _ => 0))))) : va_W))) := hD
  refine va_putF (D := (dC, dI)) (ci := 2) (v := .ref q1) (ty := .array (.array .int)) (C := RX2) (T := TX2) (N := 2) hx hb hts wu_X2 tyX2 tyX2_ok nmX2 hown hK hP hD hS 0 rfl rfl 1 (by decide) (hts _ wf_X2_11) (fun _ h9 => h9) rfl hin rfl (by decide +kernel) rfl rfl (Nat.le_of_ble_eq_true rfl) dX2_init_13 (fun H locs hP hD hS => ?_)
  have hP : va_P (dC, dI) vwCl ((h0, .inr (2, [.int 0, .ref q1])) :: (([] : va_W) ++ (([(q1, .inl (cG, 8, .inr (.inr (.inr (.inr (fun i => if i < 8 then some (r1 i) else none))))))] ++ (List.range 8).map (fun i => (r1 i, .inl (cI, 10, .inl (fun _ => 0))))) : va_W))) H := hP
  have hD : va_D A ((h0, .inr (2, [.int 0, .ref q1])) :: (([] : va_W) ++ (([(q1, .inl (cG, 8, .inr (.inr (.inr (.inr (fun i => if i < 8 then some (r1 i) else none))))))] ++ (List.range 8).map (fun i => (r1 i, .inl (cI, 10, .inl (fun _ => 0))))) : va_W))) := hD
  exact W.vret hx hb hr (fun t ht hW => ⟨⟨((fun k => [q1].getD k 0), r1), rfl, trivial, by rw [ht]; exact hP, va_K.moved hW.alike hK, hD⟩, hS.F ht⟩) hS.2.2 dX2_init_16
abbrev SX5 : Type := (Nat → Nat)
def cwX5 (cI cG cZ : ClassId) (h : Nat) (u : SX5) : va_W := [(h, .inr (5, [.int 0, .int 0, .int 0, .ref (u 0), .ref (u 1), .ref (u 2), .ref (u 3), .ref (u 4), .ref (u 5)])), ((u 0), .inl (cI, 240, .inl (fun _ => 0))), ((u 1), .inl (cI, 240, .inl (fun _ => 0))), ((u 2), .inl (cI, 240, .inl (fun _ => 0))), ((u 3), .inl (cI, 240, .inl (fun _ => 0))), ((u 4), .inl (cI, 22, .inl (fun _ => 0))), ((u 5), .inl (cI, 22, .inl (fun _ => 0)))]
abbrev rmX5_init : Room := { frames := 1, cells := 6, slots := 1004, locals := 12 }
abbrev wtX5_init : List Cond := Cond.code yX5_init cX5_init 1 none :: lw_g
set_option maxHeartbeats 8000000 in
set_option maxRecDepth 100000 in
theorem mX5_init (l : Launch) (dC : Nat → ClassId) (dI : Nat → Nat → Nat) (cI cG cZ : ClassId) (h0 sz : Nat) : Met l yX5_init wtX5_init rmX5_init (va_Pc [.ref h0] (fun U => U.heap.size = sz ∧ va_P (dC, dI) vwCl [(h0, .inr (5, [.int 0, .int 0, .int 0, .null, .null, .null, .null, .null, .null]))] U.heap ∧ va_K (dC, dI) vwCl [(cI, .int), (cG, .array .int), (cZ, .boolean)] U ∧ va_D (fun _ => True) [(h0, .inr (5, [.int 0, .int 0, .int 0, .null, .null, .null, .null, .null, .null]))])) (va_Qv (fun _ : SX5 => True) (fun u t => va_P (dC, dI) vwCl (cwX5 cI cG cZ h0 u) t.heap ∧ va_K (dC, dI) vwCl [(cI, .int), (cG, .array .int), (cZ, .boolean)] t ∧ va_D (va_A [(h0, .inr (5, [.int 0, .int 0, .int 0, .null, .null, .null, .null, .null, .null]))] sz) (cwX5 cI cG cZ h0 u)) (va_A [(h0, .inr (5, [.int 0, .int 0, .int 0, .null, .null, .null, .null, .null, .null]))] sz)) 6 1004 (va_A [(h0, .inr (5, [.int 0, .int 0, .int 0, .null, .null, .null, .null, .null, .null]))] sz) := by
  refine Met.ofW (cc := cX5_init) (maxL := 1) (ret := none) (by decide) rfl ?_
  intro p e s m args below meth c s₁ B hml hv
  obtain ⟨rfl, hsz, hP, hK, hD0⟩ := hv
  have hx := B.exec
  have hb := B.bytes
  have hr := B.returns
  have hts : ∀ w ∈ lw_g, w.before _ s = true := fun w h => atoms_spec (ws := wtX5_init) B.pre w (List.mem_cons_of_mem _ h)
  have hown : s.vm.findClass RX5 = some m.cls := findClass_of_methodNamed B.named
  have hlocks := B.notSynchronized
  have hin : meth.name = "<init>" := (name_of_methodNamed B.named B.method).1
  subst hsz
  have hD := hD0.self (sz := s.heap.size)
  generalize hAe : va_A [(h0, .inr (5, [.int 0, .int 0, .int 0, .null, .null, .null, .null, .null, .null]))] s.heap.size = A at hD ⊢
  have hA : ∀ q : Nat, s.heap.size ≤ q → A q := fun q h => by rw [← hAe]; exact Or.inr h
  have hS : va_S A s.heap s.heap [] := va_S.rf
  have hl := lv_entry ([.ref h0]) (n := 1) (Nat.le_of_ble_eq_true rfl)
  rw [lg_entry_eq]
  generalize (lg_sl ([.ref h0]) ++ List.replicate (1 - (lg_sl ([.ref h0])).length) Slot.unset).toArray = ls at hl ⊢
  have hl : lv_has ls 1 [(0, .ref h0)] := hl
  show W p l e rmX5_init s m _ below meth c s.heap [] 0 0 _ _
  refine lv_aload_n hx hb dX5_init_0 rfl (lv_at hl 0 rfl) ?_
  refine W.objInit hx hb hown (hts _ wm_X5_3) (hts _ wi_obj) (hts _ wc_obj) rfl (by rw [hml]; exact hl.1) rfl dX5_init_1 (Nat.le_of_ble_eq_true rfl) (Nat.le_of_ble_eq_true rfl) ?_
  refine W.eq (g2 := F0 m 4 ls []) rfl ?_
  refine lv_aload_n hx hb dX5_init_4 rfl (lv_at hl 0 rfl) ?_
  refine lv_sipush (v := i32 240) hx hb dX5_init_5 (by decide) ?_
  refine c_newi (n := 240) (N' := 240) (t0 := 0) hx hb (hts _ wy_int) rfl hK hP hD hS hA (by decide) rfl (Nat.le_of_ble_eq_true rfl) (Nat.le_of_ble_eq_true rfl) dX5_init_8 (fun q1 H hP hD hS => ?_)
  have hP : va_P (dC, dI) vwCl ([(h0, .inr (5, [.int 0, .int 0, .int 0, .null, .null, .null, .null, .null, .null])), (q1, .inl (cI, 240, .inl (fun _ => 0)))]) H := hP
  have hD : va_D A ([(h0, .inr (5, [.int 0, .int 0, .int 0, .null, .null, .null, .null, .null, .null])), (q1, .inl (cI, 240, .inl (fun _ => 0)))]) := hD
  refine va_putF (D := (dC, dI)) (ci := 5) (v := .ref q1) (ty := .array .int) (C := RX5) (T := TX5) (N := 9) hx hb hts wu_X5 tyX5 tyX5_ok nmX5 hown hK hP hD hS 0 rfl rfl 3 (by decide) (hts _ wf_X5_9) (fun _ h9 => h9) rfl hin rfl (by decide +kernel) rfl rfl (Nat.le_of_ble_eq_true rfl) dX5_init_10 (fun H locs hP hD hS => ?_)
  have hP : va_P (dC, dI) vwCl ([(h0, .inr (5, [.int 0, .int 0, .int 0, .ref q1, .null, .null, .null, .null, .null])), (q1, .inl (cI, 240, .inl (fun _ => 0)))]) H := hP
  have hD : va_D A ([(h0, .inr (5, [.int 0, .int 0, .int 0, .ref q1, .null, .null, .null, .null, .null])), (q1, .inl (cI, 240, .inl (fun _ => 0)))]) := hD
  refine lv_aload_n hx hb dX5_init_13 rfl (lv_at hl 0 rfl) ?_
  refine lv_sipush (v := i32 240) hx hb dX5_init_14 (by decide) ?_
  refine c_newi (n := 240) (N' := 240) (t0 := 0) hx hb (hts _ wy_int) rfl hK hP hD hS hA (by decide) rfl (Nat.le_of_ble_eq_true rfl) (Nat.le_of_ble_eq_true rfl) dX5_init_17 (fun q2 H hP hD hS => ?_)
  have hP : va_P (dC, dI) vwCl ([(h0, .inr (5, [.int 0, .int 0, .int 0, .ref q1, .null, .null, .null, .null, .null])), (q1, .inl (cI, 240, .inl (fun _ => 0))), (q2, .inl (cI, 240, .inl (fun _ => 0)))]) H := hP
  have hD : va_D A ([(h0, .inr (5, [.int 0, .int 0, .int 0, .ref q1, .null, .null, .null, .null, .null])), (q1, .inl (cI, 240, .inl (fun _ => 0))), (q2, .inl (cI, 240, .inl (fun _ => 0)))]) := hD
  refine va_putF (D := (dC, dI)) (ci := 5) (v := .ref q2) (ty := .array .int) (C := RX5) (T := TX5) (N := 9) hx hb hts wu_X5 tyX5 tyX5_ok nmX5 hown hK hP hD hS 0 rfl rfl 4 (by decide) (hts _ wf_X5_15) (fun _ h9 => h9) rfl hin rfl (by decide +kernel) rfl rfl (Nat.le_of_ble_eq_true rfl) dX5_init_19 (fun H locs hP hD hS => ?_)
  have hP : va_P (dC, dI) vwCl ([(h0, .inr (5, [.int 0, .int 0, .int 0, .ref q1, .ref q2, .null, .null, .null, .null])), (q1, .inl (cI, 240, .inl (fun _ => 0))), (q2, .inl (cI, 240, .inl (fun _ => 0)))]) H := hP
  have hD : va_D A ([(h0, .inr (5, [.int 0, .int 0, .int 0, .ref q1, .ref q2, .null, .null, .null, .null])), (q1, .inl (cI, 240, .inl (fun _ => 0))), (q2, .inl (cI, 240, .inl (fun _ => 0)))]) := hD
  refine lv_aload_n hx hb dX5_init_22 rfl (lv_at hl 0 rfl) ?_
  refine lv_sipush (v := i32 240) hx hb dX5_init_23 (by decide) ?_
  refine c_newi (n := 240) (N' := 240) (t0 := 0) hx hb (hts _ wy_int) rfl hK hP hD hS hA (by decide) rfl (Nat.le_of_ble_eq_true rfl) (Nat.le_of_ble_eq_true rfl) dX5_init_26 (fun q3 H hP hD hS => ?_)
  have hP : va_P (dC, dI) vwCl ([(h0, .inr (5, [.int 0, .int 0, .int 0, .ref q1, .ref q2, .null, .null, .null, .null])), (q1, .inl (cI, 240, .inl (fun _ => 0))), (q2, .inl (cI, 240, .inl (fun _ => 0))), (q3, .inl (cI, 240, .inl (fun _ => 0)))]) H := hP
  have hD : va_D A ([(h0, .inr (5, [.int 0, .int 0, .int 0, .ref q1, .ref q2, .null, .null, .null, .null])), (q1, .inl (cI, 240, .inl (fun _ => 0))), (q2, .inl (cI, 240, .inl (fun _ => 0))), (q3, .inl (cI, 240, .inl (fun _ => 0)))]) := hD
  refine va_putF (D := (dC, dI)) (ci := 5) (v := .ref q3) (ty := .array .int) (C := RX5) (T := TX5) (N := 9) hx hb hts wu_X5 tyX5 tyX5_ok nmX5 hown hK hP hD hS 0 rfl rfl 5 (by decide) (hts _ wf_X5_18) (fun _ h9 => h9) rfl hin rfl (by decide +kernel) rfl rfl (Nat.le_of_ble_eq_true rfl) dX5_init_28 (fun H locs hP hD hS => ?_)
  have hP : va_P (dC, dI) vwCl ([(h0, .inr (5, [.int 0, .int 0, .int 0, .ref q1, .ref q2, .ref q3, .null, .null, .null])), (q1, .inl (cI, 240, .inl (fun _ => 0))), (q2, .inl (cI, 240, .inl (fun _ => 0))), (q3, .inl (cI, 240, .inl (fun _ => 0)))]) H := hP
  have hD : va_D A ([(h0, .inr (5, [.int 0, .int 0, .int 0, .ref q1, .ref q2, .ref q3, .null, .null, .null])), (q1, .inl (cI, 240, .inl (fun _ => 0))), (q2, .inl (cI, 240, .inl (fun _ => 0))), (q3, .inl (cI, 240, .inl (fun _ => 0)))]) := hD
  refine lv_aload_n hx hb dX5_init_31 rfl (lv_at hl 0 rfl) ?_
  refine lv_sipush (v := i32 240) hx hb dX5_init_32 (by decide) ?_
  refine c_newi (n := 240) (N' := 240) (t0 := 0) hx hb (hts _ wy_int) rfl hK hP hD hS hA (by decide) rfl (Nat.le_of_ble_eq_true rfl) (Nat.le_of_ble_eq_true rfl) dX5_init_35 (fun q4 H hP hD hS => ?_)
  have hP : va_P (dC, dI) vwCl ([(h0, .inr (5, [.int 0, .int 0, .int 0, .ref q1, .ref q2, .ref q3, .null, .null, .null])), (q1, .inl (cI, 240, .inl (fun _ => 0))), (q2, .inl (cI, 240, .inl (fun _ => 0))), (q3, .inl (cI, 240, .inl (fun _ => 0))), (q4, .inl (cI, 240, .inl (fun _ => 0)))]) H := hP
  have hD : va_D A ([(h0, .inr (5, [.int 0, .int 0, .int 0, .ref q1, .ref q2, .ref q3, .null, .null, .null])), (q1, .inl (cI, 240, .inl (fun _ => 0))), (q2, .inl (cI, 240, .inl (fun _ => 0))), (q3, .inl (cI, 240, .inl (fun _ => 0))), (q4, .inl (cI, 240, .inl (fun _ => 0)))]) := hD
  refine va_putF (D := (dC, dI)) (ci := 5) (v := .ref q4) (ty := .array .int) (C := RX5) (T := TX5) (N := 9) hx hb hts wu_X5 tyX5 tyX5_ok nmX5 hown hK hP hD hS 0 rfl rfl 6 (by decide) (hts _ wf_X5_21) (fun _ h9 => h9) rfl hin rfl (by decide +kernel) rfl rfl (Nat.le_of_ble_eq_true rfl) dX5_init_37 (fun H locs hP hD hS => ?_)
  have hP : va_P (dC, dI) vwCl ([(h0, .inr (5, [.int 0, .int 0, .int 0, .ref q1, .ref q2, .ref q3, .ref q4, .null, .null])), (q1, .inl (cI, 240, .inl (fun _ => 0))), (q2, .inl (cI, 240, .inl (fun _ => 0))), (q3, .inl (cI, 240, .inl (fun _ => 0))), (q4, .inl (cI, 240, .inl (fun _ => 0)))]) H := hP
  have hD : va_D A ([(h0, .inr (5, [.int 0, .int 0, .int 0, .ref q1, .ref q2, .ref q3, .ref q4, .null, .null])), (q1, .inl (cI, 240, .inl (fun _ => 0))), (q2, .inl (cI, 240, .inl (fun _ => 0))), (q3, .inl (cI, 240, .inl (fun _ => 0))), (q4, .inl (cI, 240, .inl (fun _ => 0)))]) := hD
  refine lv_aload_n hx hb dX5_init_40 rfl (lv_at hl 0 rfl) ?_
  refine lv_bipush (v := i32 22) hx hb dX5_init_41 (by decide) ?_
  refine c_newi (n := 22) (N' := 22) (t0 := 0) hx hb (hts _ wy_int) rfl hK hP hD hS hA (by decide) rfl (Nat.le_of_ble_eq_true rfl) (Nat.le_of_ble_eq_true rfl) dX5_init_43 (fun q5 H hP hD hS => ?_)
  have hP : va_P (dC, dI) vwCl ([(h0, .inr (5, [.int 0, .int 0, .int 0, .ref q1, .ref q2, .ref q3, .ref q4, .null, .null])), (q1, .inl (cI, 240, .inl (fun _ => 0))), (q2, .inl (cI, 240, .inl (fun _ => 0))), (q3, .inl (cI, 240, .inl (fun _ => 0))), (q4, .inl (cI, 240, .inl (fun _ => 0))), (q5, .inl (cI, 22, .inl (fun _ => 0)))]) H := hP
  have hD : va_D A ([(h0, .inr (5, [.int 0, .int 0, .int 0, .ref q1, .ref q2, .ref q3, .ref q4, .null, .null])), (q1, .inl (cI, 240, .inl (fun _ => 0))), (q2, .inl (cI, 240, .inl (fun _ => 0))), (q3, .inl (cI, 240, .inl (fun _ => 0))), (q4, .inl (cI, 240, .inl (fun _ => 0))), (q5, .inl (cI, 22, .inl (fun _ => 0)))]) := hD
  refine va_putF (D := (dC, dI)) (ci := 5) (v := .ref q5) (ty := .array .int) (C := RX5) (T := TX5) (N := 9) hx hb hts wu_X5 tyX5 tyX5_ok nmX5 hown hK hP hD hS 0 rfl rfl 7 (by decide) (hts _ wf_X5_24) (fun _ h9 => h9) rfl hin rfl (by decide +kernel) rfl rfl (Nat.le_of_ble_eq_true rfl) dX5_init_45 (fun H locs hP hD hS => ?_)
  have hP : va_P (dC, dI) vwCl ([(h0, .inr (5, [.int 0, .int 0, .int 0, .ref q1, .ref q2, .ref q3, .ref q4, .ref q5, .null])), (q1, .inl (cI, 240, .inl (fun _ => 0))), (q2, .inl (cI, 240, .inl (fun _ => 0))), (q3, .inl (cI, 240, .inl (fun _ => 0))), (q4, .inl (cI, 240, .inl (fun _ => 0))), (q5, .inl (cI, 22, .inl (fun _ => 0)))]) H := hP
  have hD : va_D A ([(h0, .inr (5, [.int 0, .int 0, .int 0, .ref q1, .ref q2, .ref q3, .ref q4, .ref q5, .null])), (q1, .inl (cI, 240, .inl (fun _ => 0))), (q2, .inl (cI, 240, .inl (fun _ => 0))), (q3, .inl (cI, 240, .inl (fun _ => 0))), (q4, .inl (cI, 240, .inl (fun _ => 0))), (q5, .inl (cI, 22, .inl (fun _ => 0)))]) := hD
  refine lv_aload_n hx hb dX5_init_48 rfl (lv_at hl 0 rfl) ?_
  refine lv_bipush (v := i32 22) hx hb dX5_init_49 (by decide) ?_
  refine c_newi (n := 22) (N' := 22) (t0 := 0) hx hb (hts _ wy_int) rfl hK hP hD hS hA (by decide) rfl (Nat.le_of_ble_eq_true rfl) (Nat.le_of_ble_eq_true rfl) dX5_init_51 (fun q6 H hP hD hS => ?_)
  have hP : va_P (dC, dI) vwCl ([(h0, .inr (5, [.int 0, .int 0, .int 0, .ref q1, .ref q2, .ref q3, .ref q4, .ref q5, .null])), (q1, .inl (cI, 240, .inl (fun _ => 0))), (q2, .inl (cI, 240, .inl (fun _ => 0))), (q3, .inl (cI, 240, .inl (fun _ => 0))), (q4, .inl (cI, 240, .inl (fun _ => 0))), (q5, .inl (cI, 22, .inl (fun _ => 0))), (q6, .inl (cI, 22, .inl (fun _ => 0)))]) H := hP
  have hD : va_D A ([(h0, .inr (5, [.int 0, .int 0, .int 0, .ref q1, .ref q2, .ref q3, .ref q4, .ref q5, .null])), (q1, .inl (cI, 240, .inl (fun _ => 0))), (q2, .inl (cI, 240, .inl (fun _ => 0))), (q3, .inl (cI, 240, .inl (fun _ => 0))), (q4, .inl (cI, 240, .inl (fun _ => 0))), (q5, .inl (cI, 22, .inl (fun _ => 0))), (q6, .inl (cI, 22, .inl (fun _ => 0)))]) := hD
  refine va_putF (D := (dC, dI)) (ci := 5) (v := .ref q6) (ty := .array .int) (C := RX5) (T := TX5) (N := 9) hx hb hts wu_X5 tyX5 tyX5_ok nmX5 hown hK hP hD hS 0 rfl rfl 8 (by decide) (hts _ wf_X5_27) (fun _ h9 => h9) rfl hin rfl (by decide +kernel) rfl rfl (Nat.le_of_ble_eq_true rfl) dX5_init_53 (fun H locs hP hD hS => ?_)
  have hP : va_P (dC, dI) vwCl ([(h0, .inr (5, [.int 0, .int 0, .int 0, .ref q1, .ref q2, .ref q3, .ref q4, .ref q5, .ref q6])), (q1, .inl (cI, 240, .inl (fun _ => 0))), (q2, .inl (cI, 240, .inl (fun _ => 0))), (q3, .inl (cI, 240, .inl (fun _ => 0))), (q4, .inl (cI, 240, .inl (fun _ => 0))), (q5, .inl (cI, 22, .inl (fun _ => 0))), (q6, .inl (cI, 22, .inl (fun _ => 0)))]) H := hP
  have hD : va_D A ([(h0, .inr (5, [.int 0, .int 0, .int 0, .ref q1, .ref q2, .ref q3, .ref q4, .ref q5, .ref q6])), (q1, .inl (cI, 240, .inl (fun _ => 0))), (q2, .inl (cI, 240, .inl (fun _ => 0))), (q3, .inl (cI, 240, .inl (fun _ => 0))), (q4, .inl (cI, 240, .inl (fun _ => 0))), (q5, .inl (cI, 22, .inl (fun _ => 0))), (q6, .inl (cI, 22, .inl (fun _ => 0)))]) := hD
  exact W.vret hx hb hr (fun t ht hW => ⟨⟨(fun k => [q1, q2, q3, q4, q5, q6].getD k 0), rfl, trivial, by rw [ht]; exact hP, va_K.moved hW.alike hK, hD⟩, hS.F ht⟩) hS.2.2 dX5_init_56
abbrev SX4 : Type := (Nat → Nat) × SX5
def cwX4 (cI cG cZ : ClassId) (h : Nat) (u : SX4) : va_W := (h, .inr (4, [.ref (u.1 0)])) :: (([] : va_W) ++ (cwX5 cI cG cZ (u.1 0) u.2 : va_W))
abbrev rmX4_init : Room := { frames := 2, cells := 7, slots := 1013, locals := 32 }
abbrev wtX4_init : List Cond := Cond.code yX4_init cX4_init 1 none :: lw_g
set_option maxHeartbeats 8000000 in
set_option maxRecDepth 100000 in
theorem mX4_init (l : Launch) (dC : Nat → ClassId) (dI : Nat → Nat → Nat) (cI cG cZ : ClassId) (h0 sz : Nat) : Met l yX4_init wtX4_init rmX4_init (va_Pc [.ref h0] (fun U => U.heap.size = sz ∧ va_P (dC, dI) vwCl [(h0, .inr (4, [.null]))] U.heap ∧ va_K (dC, dI) vwCl [(cI, .int), (cG, .array .int), (cZ, .boolean)] U ∧ va_D (fun _ => True) [(h0, .inr (4, [.null]))] ∧ va_Nw (.methodLinkNest RX4 11 yX5_init "HeapMover") U)) (va_Qv (fun _ : SX4 => True) (fun u t => va_P (dC, dI) vwCl (cwX4 cI cG cZ h0 u) t.heap ∧ va_K (dC, dI) vwCl [(cI, .int), (cG, .array .int), (cZ, .boolean)] t ∧ va_D (va_A [(h0, .inr (4, [.null]))] sz) (cwX4 cI cG cZ h0 u)) (va_A [(h0, .inr (4, [.null]))] sz)) 7 1013 (va_A [(h0, .inr (4, [.null]))] sz) := by
  refine Met.ofW (cc := cX4_init) (maxL := 1) (ret := none) (by decide) rfl ?_
  intro p e s m args below meth c s₁ B hml hv
  obtain ⟨rfl, hsz, hP, hK, hD0, hNX4_11⟩ := hv
  have hx := B.exec
  have hb := B.bytes
  have hr := B.returns
  have hts : ∀ w ∈ lw_g, w.before _ s = true := fun w h => atoms_spec (ws := wtX4_init) B.pre w (List.mem_cons_of_mem _ h)
  have hown : s.vm.findClass RX4 = some m.cls := findClass_of_methodNamed B.named
  have hlocks := B.notSynchronized
  have hin : meth.name = "<init>" := (name_of_methodNamed B.named B.method).1
  subst hsz
  have hD := hD0.self (sz := s.heap.size)
  generalize hAe : va_A [(h0, .inr (4, [.null]))] s.heap.size = A at hD ⊢
  have hA : ∀ q : Nat, s.heap.size ≤ q → A q := fun q h => by rw [← hAe]; exact Or.inr h
  have hS : va_S A s.heap s.heap [] := va_S.rf
  have hl := lv_entry ([.ref h0]) (n := 1) (Nat.le_of_ble_eq_true rfl)
  rw [lg_entry_eq]
  generalize (lg_sl ([.ref h0]) ++ List.replicate (1 - (lg_sl ([.ref h0])).length) Slot.unset).toArray = ls at hl ⊢
  have hl : lv_has ls 1 [(0, .ref h0)] := hl
  show W p l e rmX4_init s m _ below meth c s.heap [] 0 0 _ _
  refine lv_aload_n hx hb dX4_init_0 rfl (lv_at hl 0 rfl) ?_
  refine W.objInit hx hb hown (hts _ wm_X4_3) (hts _ wi_obj) (hts _ wc_obj) rfl (by rw [hml]; exact hl.1) rfl dX4_init_1 (Nat.le_of_ble_eq_true rfl) (Nat.le_of_ble_eq_true rfl) ?_
  refine W.eq (g2 := F0 m 4 ls []) rfl ?_
  refine lv_aload_n hx hb dX4_init_4 rfl (lv_at hl 0 rfl) ?_
  refine va_new (ci := 5) (fs := [.int 0, .int 0, .int 0, .null, .null, .null, .null, .null, .null]) (C := RX5) (T := TX5) (N := 9) hx hb hts wu_X5 tyX5 tyX5_ok hown (hts _ wq_X4_9) (hts _ wb_X5) (hts _ wn_X5) hK hP hD hS hA rfl (fun j hj => by have h9 : j < 9 := hj; revert j; decide) (Nat.le_of_ble_eq_true rfl) (Nat.le_of_ble_eq_true rfl) dX4_init_5 (fun q1 H hP hD hS => ?_)
  have hP : va_P (dC, dI) vwCl ((h0, .inr (4, [.null])) :: (([] : va_W) ++ ([(q1, .inr (5, [.int 0, .int 0, .int 0, .null, .null, .null, .null, .null, .null]))] : va_W))) H := hP
  have hD : va_D A ((h0, .inr (4, [.null])) :: (([] : va_W) ++ ([(q1, .inr (5, [.int 0, .int 0, .int 0, .null, .null, .null, .null, .null, .null]))] : va_W))) := hD
  refine W.widen (k := 1) (n := 9) (Nat.le_of_ble_eq_true rfl) (Nat.le_of_ble_eq_true rfl) ?_
  refine lv_dup hx hb dX4_init_8 rfl ?_
  have hPc : va_P (dC, dI) vwCl [(q1, .inr (5, [.int 0, .int 0, .int 0, .null, .null, .null, .null, .null, .null]))] H := c_lastP (ws := ((h0, .inr (4, [.null])) :: ([] : va_W) : va_W)) hP
  have hDc : va_D A [(q1, .inr (5, [.int 0, .int 0, .int 0, .null, .null, .null, .null, .null, .null]))] := c_lastD (ws := ((h0, .inr (4, [.null])) :: ([] : va_W) : va_W)) hD
  have hFc : ∀ x, va_A [(q1, .inr (5, [.int 0, .int 0, .int 0, .null, .null, .null, .null, .null, .null]))] H.size x → A x := c_free hDc hS hA
  refine va_callv (va_runIN (As := []) (rest := [.ref q1, .ref h0]) ⟨hx, hb, hml, hown, hts⟩ (mX5_init l dC dI cI cG cZ q1 H.size) ⟨va_cnB 0 hts (gd_s wc_X5_init) rfl rfl rfl hNX4_11 (hts _ wn_X5) wd_X5_init ⟨Nat.le_of_ble_eq_true rfl, Nat.le_of_ble_eq_true rfl⟩, rfl, hts _ wi_X5_init⟩ ⟨fun a U g mk q => by obtain ⟨q0, q1, qP, qK, qD⟩ := q; exact ⟨q0, q1, qP, va_K.moved (u := U) (U := U.calling g mk a) (Vm.Alike.refl U.vm) qK, qD⟩, fun U hU hW => ⟨rfl, by rw [hU], by rw [hU]; exact hPc, va_K.moved hW.alike hK, hDc.weaken (fun _ _ _ _ => trivial)⟩⟩ rfl rfl hl.1 rfl (lv_room (Nat.le_of_ble_eq_true rfl)) dX4_init_9 ⟨Nat.le_of_ble_eq_true rfl, Nat.le_of_ble_eq_true rfl⟩) hS (fun q _ h => hFc q h) hFc (fun u1 t H1 locs ht hvm hw hB hz1 hk1 hS => ?_)
  obtain ⟨hP1, hK1, hD1⟩ := hB
  rw [ht] at hP1
  obtain ⟨hP, hD⟩ := c_join (ws := ((h0, .inr (4, [.null])) :: ([] : va_W) : va_W)) hP hD hk1 hFc hP1 hD1
  generalize H1 = H at hP hS ⊢
  refine W.widen (k := 7) (n := 1013) (Nat.le_of_ble_eq_true rfl) (Nat.le_of_ble_eq_true rfl) ?_
  have hP : va_P (dC, dI) vwCl ((h0, .inr (4, [.null])) :: (([] : va_W) ++ (cwX5 cI cG cZ q1 u1 : va_W))) H := hP
  have hD : va_D A ((h0, .inr (4, [.null])) :: (([] : va_W) ++ (cwX5 cI cG cZ q1 u1 : va_W))) := hD
  refine va_putF (D := (dC, dI)) (ci := 4) (v := .ref q1) (ty := .object "HeapMover$Network") (C := RX4) (T := TX4) (N := 1) hx hb hts wu_X4 tyX4 tyX4_ok nmX4 hown hK hP hD hS 0 rfl rfl 0 (by decide) (hts _ wf_X4_12) (fun _ h9 => h9) rfl hin rfl (by decide +kernel) rfl rfl (Nat.le_of_ble_eq_true rfl) dX4_init_12 (fun H locs hP hD hS => ?_)
  have hP : va_P (dC, dI) vwCl ((h0, .inr (4, [.ref q1])) :: (([] : va_W) ++ (cwX5 cI cG cZ q1 u1 : va_W))) H := hP
  have hD : va_D A ((h0, .inr (4, [.ref q1])) :: (([] : va_W) ++ (cwX5 cI cG cZ q1 u1 : va_W))) := hD
  exact W.vret hx hb hr (fun t ht hW => ⟨⟨((fun k => [q1].getD k 0), u1), rfl, trivial, by rw [ht]; exact hP, va_K.moved hW.alike hK, hD⟩, hS.F ht⟩) hS.2.2 dX4_init_15
