abbrev SX6 : Type := (Nat → Nat) × (Nat → Nat)
def cwX6 (cI cG cZ : ClassId) (h : Nat) (u : SX6) : va_W := (h, .inr (6, [.ref (u.1 0), .ref (u.1 1), .ref (u.1 2), .ref (u.1 3), .ref (u.1 4)])) :: (((((([] : va_W) ++ (([((u.1 0), .inl (cG, 10, .inr (.inr (.inr (.inr (fun i => if i < 10 then some (u.2 i) else none))))))] ++ (List.range 10).map (fun i => (u.2 i, .inl (cI, 10, .inl (fun _ => 0))))) : va_W)) ++ ([((u.1 1), .inl (cI, 10, .inl (fun _ => 0)))] : va_W)) ++ ([((u.1 2), .inl (cI, 10, .inl (fun _ => 0)))] : va_W)) ++ ([((u.1 3), .inl (cI, 10, .inl (fun _ => 0)))] : va_W)) ++ ([((u.1 4), .inl (cI, 10, .inl (fun _ => 0)))] : va_W))
abbrev rmX6_init : Room := { frames := 1, cells := 15, slots := 150, locals := 12 }
abbrev wtX6_init : List Cond := Cond.code yX6_init cX6_init 1 none :: lw_g
set_option maxHeartbeats 8000000 in
set_option maxRecDepth 100000 in
theorem mX6_init (l : Launch) (dC : Nat → ClassId) (dI : Nat → Nat → Nat) (cI cG cZ : ClassId) (h0 sz : Nat) : Met l yX6_init wtX6_init rmX6_init (va_Pc [.ref h0] (fun U => U.heap.size = sz ∧ va_P (dC, dI) vwCl [(h0, .inr (6, [.null, .null, .null, .null, .null]))] U.heap ∧ va_K (dC, dI) vwCl [(cI, .int), (cG, .array .int), (cZ, .boolean)] U ∧ va_D (fun _ => True) [(h0, .inr (6, [.null, .null, .null, .null, .null]))] ∧ va_AOA .int U)) (va_Qv (fun _ : SX6 => True) (fun u t => va_P (dC, dI) vwCl (cwX6 cI cG cZ h0 u) t.heap ∧ va_K (dC, dI) vwCl [(cI, .int), (cG, .array .int), (cZ, .boolean)] t ∧ va_D (va_A [(h0, .inr (6, [.null, .null, .null, .null, .null]))] sz) (cwX6 cI cG cZ h0 u)) (va_A [(h0, .inr (6, [.null, .null, .null, .null, .null]))] sz)) 15 150 (va_A [(h0, .inr (6, [.null, .null, .null, .null, .null]))] sz) := by
  refine Met.ofW (cc := cX6_init) (maxL := 1) (ret := none) (by decide) rfl ?_
  intro p e s m args below meth c s₁ B hml hv
  obtain ⟨rfl, hsz, hP, hK, hD0, hO⟩ := hv
  have hx := B.exec
  have hb := B.bytes
  have hr := B.returns
  have hts : ∀ w ∈ lw_g, w.before _ s = true := fun w h => atoms_spec (ws := wtX6_init) B.pre w (List.mem_cons_of_mem _ h)
  have hown : s.vm.findClass RX6 = some m.cls := findClass_of_methodNamed B.named
  have hlocks := B.notSynchronized
  have hin : meth.name = "<init>" := (name_of_methodNamed B.named B.method).1
  subst hsz
  have hD := hD0.self (sz := s.heap.size)
  generalize hAe : va_A [(h0, .inr (6, [.null, .null, .null, .null, .null]))] s.heap.size = A at hD ⊢
  have hA : ∀ q : Nat, s.heap.size ≤ q → A q := fun q h => by rw [← hAe]; exact Or.inr h
  have hS : va_S A s.heap s.heap [] := va_S.rf
  have hl := lv_entry ([.ref h0]) (n := 1) (Nat.le_of_ble_eq_true rfl)
  rw [lg_entry_eq]
  generalize (lg_sl ([.ref h0]) ++ List.replicate (1 - (lg_sl ([.ref h0])).length) Slot.unset).toArray = ls at hl ⊢
  have hl : lv_has ls 1 [(0, .ref h0)] := hl
  show W p l e rmX6_init s m _ below meth c s.heap [] 0 0 _ _
  refine lv_aload_n hx hb dX6_init_0 rfl (lv_at hl 0 rfl) ?_
  refine W.objInit hx hb hown (hts _ wm_X6_3) (hts _ wi_obj) (hts _ wc_obj) rfl (by rw [hml]; exact hl.1) rfl dX6_init_1 (Nat.le_of_ble_eq_true rfl) (Nat.le_of_ble_eq_true rfl) ?_
  refine W.eq (g2 := F0 m 4 ls []) rfl ?_
  refine lv_aload_n hx hb dX6_init_4 rfl (lv_at hl 0 rfl) ?_
  refine lv_bipush (v := i32 10) hx hb dX6_init_5 (by decide) ?_
  refine lv_bipush (v := i32 10) hx hb dX6_init_7 (by decide) ?_
  refine c_mna (n := 10) (N' := 10) (t0 := 0) (t1 := 1) hx hb hown (hts _ wq_X6_9) hO (hts _ wy_int) rfl rfl hK hP hD hS hA (by decide) rfl (Nat.le_of_ble_eq_true rfl) (Nat.le_of_ble_eq_true rfl) dX6_init_9 (fun q1 r1 H hP hD hS => ?_)
  refine W.widen (k := 11) (n := 110) (Nat.le_of_ble_eq_true rfl) (Nat.le_of_ble_eq_true rfl) ?_
  have hP : va_P (dC, dI) vwCl ((h0, .inr (6, [.null, .null, .null, .null, .null])) :: (([] : va_W) ++ (([(q1, .inl (cG, 10, .inr (.inr (.inr (.inr (fun i => if i < 10 then some (r1 i) else none))))))] ++ (List.range 10).map (fun i => (r1 i, .inl (cI, 10, .inl (fun _ => 0))))) : va_W))) H := hP
  have hD : va_D A ((h0, .inr (6, [.null, .null, .null, .null, .null])) :: (([] : va_W) ++ (([(q1, .inl (cG, 10, .inr (.inr (.inr (.inr (fun i => if i < 10 then some (r1 i) else none))))))] ++ (List.range 10).map (fun i => (r1 i, .inl (cI, 10, .inl (fun _ => 0))))) : va_W))) := hD
  refine va_putF (D := (dC, dI)) (ci := 6) (v := .ref q1) (ty := .array (.array .int)) (C := RX6) (T := TX6) (N := 5) hx hb hts wu_X6 tyX6 tyX6_ok nmX6 hown hK hP hD hS 0 rfl rfl 0 (by decide) (hts _ wf_X6_11) (fun _ h9 => h9) rfl hin rfl (by decide +kernel) rfl rfl (Nat.le_of_ble_eq_true rfl) dX6_init_13 (fun H locs hP hD hS => ?_)
  have hP : va_P (dC, dI) vwCl ((h0, .inr (6, [.ref q1, .null, .null, .null, .null])) :: (([] : va_W) ++ (([(q1, .inl (cG, 10, .inr (.inr (.inr (.inr (fun i => if i < 10 then some (r1 i) else none))))))] ++ (List.range 10).map (fun i => (r1 i, .inl (cI, 10, .inl (fun _ => 0))))) : va_W))) H := hP
  have hD : va_D A ((h0, .inr (6, [.ref q1, .null, .null, .null, .null])) :: (([] : va_W) ++ (([(q1, .inl (cG, 10, .inr (.inr (.inr (.inr (fun i => if i < 10 then some (r1 i) else none))))))] ++ (List.range 10).map (fun i => (r1 i, .inl (cI, 10, .inl (fun _ => 0))))) : va_W))) := hD
  refine lv_aload_n hx hb dX6_init_16 rfl (lv_at hl 0 rfl) ?_
  refine lv_bipush (v := i32 10) hx hb dX6_init_17 (by decide) ?_
  refine c_newi (n := 10) (N' := 10) (t0 := 0) hx hb (hts _ wy_int) rfl hK hP hD hS hA (by decide) rfl (Nat.le_of_ble_eq_true rfl) (Nat.le_of_ble_eq_true rfl) dX6_init_19 (fun q2 H hP hD hS => ?_)
  have hP : va_P (dC, dI) vwCl ((h0, .inr (6, [.ref q1, .null, .null, .null, .null])) :: ((([] : va_W) ++ (([(q1, .inl (cG, 10, .inr (.inr (.inr (.inr (fun i => if i < 10 then some (r1 i) else none))))))] ++ (List.range 10).map (fun i => (r1 i, .inl (cI, 10, .inl (fun _ => 0))))) : va_W)) ++ ([(q2, .inl (cI, 10, .inl (fun _ => 0)))] : va_W))) H := hP
  have hD : va_D A ((h0, .inr (6, [.ref q1, .null, .null, .null, .null])) :: ((([] : va_W) ++ (([(q1, .inl (cG, 10, .inr (.inr (.inr (.inr (fun i => if i < 10 then some (r1 i) else none))))))] ++ (List.range 10).map (fun i => (r1 i, .inl (cI, 10, .inl (fun _ => 0))))) : va_W)) ++ ([(q2, .inl (cI, 10, .inl (fun _ => 0)))] : va_W))) := hD
  refine va_putF (D := (dC, dI)) (ci := 6) (v := .ref q2) (ty := .array .int) (C := RX6) (T := TX6) (N := 5) hx hb hts wu_X6 tyX6 tyX6_ok nmX6 hown hK hP hD hS 0 rfl rfl 1 (by decide) (hts _ wf_X6_16) (fun _ h9 => h9) rfl hin rfl (by decide +kernel) rfl rfl (Nat.le_of_ble_eq_true rfl) dX6_init_21 (fun H locs hP hD hS => ?_)
  have hP : va_P (dC, dI) vwCl ((h0, .inr (6, [.ref q1, .ref q2, .null, .null, .null])) :: ((([] : va_W) ++ (([(q1, .inl (cG, 10, .inr (.inr (.inr (.inr (fun i => if i < 10 then some (r1 i) else none))))))] ++ (List.range 10).map (fun i => (r1 i, .inl (cI, 10, .inl (fun _ => 0))))) : va_W)) ++ ([(q2, .inl (cI, 10, .inl (fun _ => 0)))] : va_W))) H := hP
  have hD : va_D A ((h0, .inr (6, [.ref q1, .ref q2, .null, .null, .null])) :: ((([] : va_W) ++ (([(q1, .inl (cG, 10, .inr (.inr (.inr (.inr (fun i => if i < 10 then some (r1 i) else none))))))] ++ (List.range 10).map (fun i => (r1 i, .inl (cI, 10, .inl (fun _ => 0))))) : va_W)) ++ ([(q2, .inl (cI, 10, .inl (fun _ => 0)))] : va_W))) := hD
  refine lv_aload_n hx hb dX6_init_24 rfl (lv_at hl 0 rfl) ?_
  refine lv_bipush (v := i32 10) hx hb dX6_init_25 (by decide) ?_
  refine c_newi (n := 10) (N' := 10) (t0 := 0) hx hb (hts _ wy_int) rfl hK hP hD hS hA (by decide) rfl (Nat.le_of_ble_eq_true rfl) (Nat.le_of_ble_eq_true rfl) dX6_init_27 (fun q3 H hP hD hS => ?_)
  have hP : va_P (dC, dI) vwCl ((h0, .inr (6, [.ref q1, .ref q2, .null, .null, .null])) :: (((([] : va_W) ++ (([(q1, .inl (cG, 10, .inr (.inr (.inr (.inr (fun i => if i < 10 then some (r1 i) else none))))))] ++ (List.range 10).map (fun i => (r1 i, .inl (cI, 10, .inl (fun _ => 0))))) : va_W)) ++ ([(q2, .inl (cI, 10, .inl (fun _ => 0)))] : va_W)) ++ ([(q3, .inl (cI, 10, .inl (fun _ => 0)))] : va_W))) H := hP
  have hD : va_D A ((h0, .inr (6, [.ref q1, .ref q2, .null, .null, .null])) :: (((([] : va_W) ++ (([(q1, .inl (cG, 10, .inr (.inr (.inr (.inr (fun i => if i < 10 then some (r1 i) else none))))))] ++ (List.range 10).map (fun i => (r1 i, .inl (cI, 10, .inl (fun _ => 0))))) : va_W)) ++ ([(q2, .inl (cI, 10, .inl (fun _ => 0)))] : va_W)) ++ ([(q3, .inl (cI, 10, .inl (fun _ => 0)))] : va_W))) := hD
  refine va_putF (D := (dC, dI)) (ci := 6) (v := .ref q3) (ty := .array .int) (C := RX6) (T := TX6) (N := 5) hx hb hts wu_X6 tyX6 tyX6_ok nmX6 hown hK hP hD hS 0 rfl rfl 2 (by decide) (hts _ wf_X6_20) (fun _ h9 => h9) rfl hin rfl (by decide +kernel) rfl rfl (Nat.le_of_ble_eq_true rfl) dX6_init_29 (fun H locs hP hD hS => ?_)
  have hP : va_P (dC, dI) vwCl ((h0, .inr (6, [.ref q1, .ref q2, .ref q3, .null, .null])) :: (((([] : va_W) ++ (([(q1, .inl (cG, 10, .inr (.inr (.inr (.inr (fun i => if i < 10 then some (r1 i) else none))))))] ++ (List.range 10).map (fun i => (r1 i, .inl (cI, 10, .inl (fun _ => 0))))) : va_W)) ++ ([(q2, .inl (cI, 10, .inl (fun _ => 0)))] : va_W)) ++ ([(q3, .inl (cI, 10, .inl (fun _ => 0)))] : va_W))) H := hP
  have hD : va_D A ((h0, .inr (6, [.ref q1, .ref q2, .ref q3, .null, .null])) :: (((([] : va_W) ++ (([(q1, .inl (cG, 10, .inr (.inr (.inr (.inr (fun i => if i < 10 then some (r1 i) else none))))))] ++ (List.range 10).map (fun i => (r1 i, .inl (cI, 10, .inl (fun _ => 0))))) : va_W)) ++ ([(q2, .inl (cI, 10, .inl (fun _ => 0)))] : va_W)) ++ ([(q3, .inl (cI, 10, .inl (fun _ => 0)))] : va_W))) := hD
  refine lv_aload_n hx hb dX6_init_32 rfl (lv_at hl 0 rfl) ?_
  refine lv_bipush (v := i32 10) hx hb dX6_init_33 (by decide) ?_
  refine c_newi (n := 10) (N' := 10) (t0 := 0) hx hb (hts _ wy_int) rfl hK hP hD hS hA (by decide) rfl (Nat.le_of_ble_eq_true rfl) (Nat.le_of_ble_eq_true rfl) dX6_init_35 (fun q4 H hP hD hS => ?_)
  have hP : va_P (dC, dI) vwCl ((h0, .inr (6, [.ref q1, .ref q2, .ref q3, .null, .null])) :: ((((([] : va_W) ++ (([(q1, .inl (cG, 10, .inr (.inr (.inr (.inr (fun i => if i < 10 then some (r1 i) else none))))))] ++ (List.range 10).map (fun i => (r1 i, .inl (cI, 10, .inl (fun _ => 0))))) : va_W)) ++ ([(q2, .inl (cI, 10, .inl (fun _ => 0)))] : va_W)) ++ ([(q3, .inl (cI, 10, .inl (fun _ => 0)))] : va_W)) ++ ([(q4, .inl (cI, 10, .inl (fun _ => 0)))] : va_W))) H := hP
  have hD : va_D A ((h0, .inr (6, [.ref q1, .ref q2, .ref q3, .null, .null])) :: ((((([] : va_W) ++ (([(q1, .inl (cG, 10, .inr (.inr (.inr (.inr (fun i => if i < 10 then some (r1 i) else none))))))] ++ (List.range 10).map (fun i => (r1 i, .inl (cI, 10, .inl (fun _ => 0))))) : va_W)) ++ ([(q2, .inl (cI, 10, .inl (fun _ => 0)))] : va_W)) ++ ([(q3, .inl (cI, 10, .inl (fun _ => 0)))] : va_W)) ++ ([(q4, .inl (cI, 10, .inl (fun _ => 0)))] : va_W))) := hD
  refine va_putF (D := (dC, dI)) (ci := 6) (v := .ref q4) (ty := .array .int) (C := RX6) (T := TX6) (N := 5) hx hb hts wu_X6 tyX6 tyX6_ok nmX6 hown hK hP hD hS 0 rfl rfl 3 (by decide) (hts _ wf_X6_23) (fun _ h9 => h9) rfl hin rfl (by decide +kernel) rfl rfl (Nat.le_of_ble_eq_true rfl) dX6_init_37 (fun H locs hP hD hS => ?_)
  have hP : va_P (dC, dI) vwCl ((h0, .inr (6, [.ref q1, .ref q2, .ref q3, .ref q4, .null])) :: ((((([] : va_W) ++ (([(q1, .inl (cG, 10, .inr (.inr (.inr (.inr (fun i => if i < 10 then some (r1 i) else none))))))] ++ (List.range 10).map (fun i => (r1 i, .inl (cI, 10, .inl (fun _ => 0))))) : va_W)) ++ ([(q2, .inl (cI, 10, .inl (fun _ => 0)))] : va_W)) ++ ([(q3, .inl (cI, 10, .inl (fun _ => 0)))] : va_W)) ++ ([(q4, .inl (cI, 10, .inl (fun _ => 0)))] : va_W))) H := hP
  have hD : va_D A ((h0, .inr (6, [.ref q1, .ref q2, .ref q3, .ref q4, .null])) :: ((((([] : va_W) ++ (([(q1, .inl (cG, 10, .inr (.inr (.inr (.inr (fun i => if i < 10 then some (r1 i) else none))))))] ++ (List.range 10).map (fun i => (r1 i, .inl (cI, 10, .inl (fun _ => 0))))) : va_W)) ++ ([(q2, .inl (cI, 10, .inl (fun _ => 0)))] : va_W)) ++ ([(q3, .inl (cI, 10, .inl (fun _ => 0)))] : va_W)) ++ ([(q4, .inl (cI, 10, .inl (fun _ => 0)))] : va_W))) := hD
  refine lv_aload_n hx hb dX6_init_40 rfl (lv_at hl 0 rfl) ?_
  refine lv_bipush (v := i32 10) hx hb dX6_init_41 (by decide) ?_
  refine c_newi (n := 10) (N' := 10) (t0 := 0) hx hb (hts _ wy_int) rfl hK hP hD hS hA (by decide) rfl (Nat.le_of_ble_eq_true rfl) (Nat.le_of_ble_eq_true rfl) dX6_init_43 (fun q5 H hP hD hS => ?_)
  have hP : va_P (dC, dI) vwCl ((h0, .inr (6, [.ref q1, .ref q2, .ref q3, .ref q4, .null])) :: (((((([] : va_W) ++ (([(q1, .inl (cG, 10, .inr (.inr (.inr (.inr (fun i => if i < 10 then some (r1 i) else none))))))] ++ (List.range 10).map (fun i => (r1 i, .inl (cI, 10, .inl (fun _ => 0))))) : va_W)) ++ ([(q2, .inl (cI, 10, .inl (fun _ => 0)))] : va_W)) ++ ([(q3, .inl (cI, 10, .inl (fun _ => 0)))] : va_W)) ++ ([(q4, .inl (cI, 10, .inl (fun _ => 0)))] : va_W)) ++ ([(q5, .inl (cI, 10, .inl (fun _ => 0)))] : va_W))) H := hP
  have hD : va_D A ((h0, .inr (6, [.ref q1, .ref q2, .ref q3, .ref q4, .null])) :: (((((([] : va_W) ++ (([(q1, .inl (cG, 10, .inr (.inr (.inr (.inr (fun i => if i < 10 then some (r1 i) else none))))))] ++ (List.range 10).map (fun i => (r1 i, .inl (cI, 10, .inl (fun _ => 0))))) : va_W)) ++ ([(q2, .inl (cI, 10, .inl (fun _ => 0)))] : va_W)) ++ ([(q3, .inl (cI, 10, .inl (fun _ => 0)))] : va_W)) ++ ([(q4, .inl (cI, 10, .inl (fun _ => 0)))] : va_W)) ++ ([(q5, .inl (cI, 10, .inl (fun _ => 0)))] : va_W))) := hD
  refine va_putF (D := (dC, dI)) (ci := 6) (v := .ref q5) (ty := .array .int) (C := RX6) (T := TX6) (N := 5) hx hb hts wu_X6 tyX6 tyX6_ok nmX6 hown hK hP hD hS 0 rfl rfl 4 (by decide) (hts _ wf_X6_26) (fun _ h9 => h9) rfl hin rfl (by decide +kernel) rfl rfl (Nat.le_of_ble_eq_true rfl) dX6_init_45 (fun H locs hP hD hS => ?_)
  have hP : va_P (dC, dI) vwCl ((h0, .inr (6, [.ref q1, .ref q2, .ref q3, .ref q4, .ref q5])) :: (((((([] : va_W) ++ (([(q1, .inl (cG, 10, .inr (.inr (.inr (.inr (fun i => if i < 10 then some (r1 i) else none))))))] ++ (List.range 10).map (fun i => (r1 i, .inl (cI, 10, .inl (fun _ => 0))))) : va_W)) ++ ([(q2, .inl (cI, 10, .inl (fun _ => 0)))] : va_W)) ++ ([(q3, .inl (cI, 10, .inl (fun _ => 0)))] : va_W)) ++ ([(q4, .inl (cI, 10, .inl (fun _ => 0)))] : va_W)) ++ ([(q5, .inl (cI, 10, .inl (fun _ => 0)))] : va_W))) H := hP
  have hD : va_D A ((h0, .inr (6, [.ref q1, .ref q2, .ref q3, .ref q4, .ref q5])) :: (((((([] : va_W) ++ (([(q1, .inl (cG, 10, .inr (.inr (.inr (.inr (fun i => if i < 10 then some (r1 i) else none))))))] ++ (List.range 10).map (fun i => (r1 i, .inl (cI, 10, .inl (fun _ => 0))))) : va_W)) ++ ([(q2, .inl (cI, 10, .inl (fun _ => 0)))] : va_W)) ++ ([(q3, .inl (cI, 10, .inl (fun _ => 0)))] : va_W)) ++ ([(q4, .inl (cI, 10, .inl (fun _ => 0)))] : va_W)) ++ ([(q5, .inl (cI, 10, .inl (fun _ => 0)))] : va_W))) := hD
  exact W.vret hx hb hr (fun t ht hW => ⟨⟨((fun k => [q1, q2, q3, q4, q5].getD k 0), r1), rfl, trivial, by rw [ht]; exact hP, va_K.moved hW.alike hK, hD⟩, hS.F ht⟩) hS.2.2 dX6_init_48
abbrev SX7 : Type := (Nat → Nat) × SX5
def cwX7 (cI cG cZ : ClassId) (h : Nat) (u : SX7) : va_W := (h, .inr (7, [.int 0, .ref (u.1 0), .ref (u.1 1)])) :: ((([] : va_W) ++ ([((u.1 0), .inl (cI, 10, .inl (fun _ => 0)))] : va_W)) ++ (cwX5 cI cG cZ (u.1 1) u.2 : va_W))
abbrev rmX7_init : Room := { frames := 2, cells := 8, slots := 1023, locals := 32 }
abbrev wtX7_init : List Cond := Cond.code yX7_init cX7_init 1 none :: lw_g
set_option maxHeartbeats 8000000 in
set_option maxRecDepth 100000 in
theorem mX7_init (l : Launch) (dC : Nat → ClassId) (dI : Nat → Nat → Nat) (cI cG cZ : ClassId) (h0 sz : Nat) : Met l yX7_init wtX7_init rmX7_init (va_Pc [.ref h0] (fun U => U.heap.size = sz ∧ va_P (dC, dI) vwCl [(h0, .inr (7, [.int 0, .null, .null]))] U.heap ∧ va_K (dC, dI) vwCl [(cI, .int), (cG, .array .int), (cZ, .boolean)] U ∧ va_D (fun _ => True) [(h0, .inr (7, [.int 0, .null, .null]))] ∧ va_Nw (.methodLinkNest RX7 17 yX5_init "HeapMover") U)) (va_Qv (fun _ : SX7 => True) (fun u t => va_P (dC, dI) vwCl (cwX7 cI cG cZ h0 u) t.heap ∧ va_K (dC, dI) vwCl [(cI, .int), (cG, .array .int), (cZ, .boolean)] t ∧ va_D (va_A [(h0, .inr (7, [.int 0, .null, .null]))] sz) (cwX7 cI cG cZ h0 u)) (va_A [(h0, .inr (7, [.int 0, .null, .null]))] sz)) 8 1023 (va_A [(h0, .inr (7, [.int 0, .null, .null]))] sz) := by
  refine Met.ofW (cc := cX7_init) (maxL := 1) (ret := none) (by decide) rfl ?_
  intro p e s m args below meth c s₁ B hml hv
  obtain ⟨rfl, hsz, hP, hK, hD0, hNX7_17⟩ := hv
  have hx := B.exec
  have hb := B.bytes
  have hr := B.returns
  have hts : ∀ w ∈ lw_g, w.before _ s = true := fun w h => atoms_spec (ws := wtX7_init) B.pre w (List.mem_cons_of_mem _ h)
  have hown : s.vm.findClass RX7 = some m.cls := findClass_of_methodNamed B.named
  have hlocks := B.notSynchronized
  have hin : meth.name = "<init>" := (name_of_methodNamed B.named B.method).1
  subst hsz
  have hD := hD0.self (sz := s.heap.size)
  generalize hAe : va_A [(h0, .inr (7, [.int 0, .null, .null]))] s.heap.size = A at hD ⊢
  have hA : ∀ q : Nat, s.heap.size ≤ q → A q := fun q h => by rw [← hAe]; exact Or.inr h
  have hS : va_S A s.heap s.heap [] := va_S.rf
  have hl := lv_entry ([.ref h0]) (n := 1) (Nat.le_of_ble_eq_true rfl)
  rw [lg_entry_eq]
  generalize (lg_sl ([.ref h0]) ++ List.replicate (1 - (lg_sl ([.ref h0])).length) Slot.unset).toArray = ls at hl ⊢
  have hl : lv_has ls 1 [(0, .ref h0)] := hl
  show W p l e rmX7_init s m _ below meth c s.heap [] 0 0 _ _
  refine lv_aload_n hx hb dX7_init_0 rfl (lv_at hl 0 rfl) ?_
  refine W.objInit hx hb hown (hts _ wm_X7_3) (hts _ wi_obj) (hts _ wc_obj) rfl (by rw [hml]; exact hl.1) rfl dX7_init_1 (Nat.le_of_ble_eq_true rfl) (Nat.le_of_ble_eq_true rfl) ?_
  refine W.eq (g2 := F0 m 4 ls []) rfl ?_
  refine lv_aload_n hx hb dX7_init_4 rfl (lv_at hl 0 rfl) ?_
  refine lv_bipush (v := i32 10) hx hb dX7_init_5 (by decide) ?_
  refine c_newi (n := 10) (N' := 10) (t0 := 0) hx hb (hts _ wy_int) rfl hK hP hD hS hA (by decide) rfl (Nat.le_of_ble_eq_true rfl) (Nat.le_of_ble_eq_true rfl) dX7_init_7 (fun q1 H hP hD hS => ?_)
  have hP : va_P (dC, dI) vwCl ([(h0, .inr (7, [.int 0, .null, .null])), (q1, .inl (cI, 10, .inl (fun _ => 0)))]) H := hP
  have hD : va_D A ([(h0, .inr (7, [.int 0, .null, .null])), (q1, .inl (cI, 10, .inl (fun _ => 0)))]) := hD
  refine va_putF (D := (dC, dI)) (ci := 7) (v := .ref q1) (ty := .array .int) (C := RX7) (T := TX7) (N := 3) hx hb hts wu_X7 tyX7 tyX7_ok nmX7 hown hK hP hD hS 0 rfl rfl 1 (by decide) (hts _ wf_X7_9) (fun _ h9 => h9) rfl hin rfl (by decide +kernel) rfl rfl (Nat.le_of_ble_eq_true rfl) dX7_init_9 (fun H locs hP hD hS => ?_)
  have hP : va_P (dC, dI) vwCl ([(h0, .inr (7, [.int 0, .ref q1, .null])), (q1, .inl (cI, 10, .inl (fun _ => 0)))]) H := hP
  have hD : va_D A ([(h0, .inr (7, [.int 0, .ref q1, .null])), (q1, .inl (cI, 10, .inl (fun _ => 0)))]) := hD
  refine lv_aload_n hx hb dX7_init_12 rfl (lv_at hl 0 rfl) ?_
  refine va_new (ci := 5) (fs := [.int 0, .int 0, .int 0, .null, .null, .null, .null, .null, .null]) (C := RX5) (T := TX5) (N := 9) hx hb hts wu_X5 tyX5 tyX5_ok hown (hts _ wq_X7_15) (hts _ wb_X5) (hts _ wn_X5) hK hP hD hS hA rfl (fun j hj => by have h9 : j < 9 := hj; revert j; decide) (Nat.le_of_ble_eq_true rfl) (Nat.le_of_ble_eq_true rfl) dX7_init_13 (fun q2 H hP hD hS => ?_)
  have hP : va_P (dC, dI) vwCl ((h0, .inr (7, [.int 0, .ref q1, .null])) :: ((([] : va_W) ++ ([(q1, .inl (cI, 10, .inl (fun _ => 0)))] : va_W)) ++ ([(q2, .inr (5, [.int 0, .int 0, .int 0, .null, .null, .null, .null, .null, .null]))] : va_W))) H := hP
  have hD : va_D A ((h0, .inr (7, [.int 0, .ref q1, .null])) :: ((([] : va_W) ++ ([(q1, .inl (cI, 10, .inl (fun _ => 0)))] : va_W)) ++ ([(q2, .inr (5, [.int 0, .int 0, .int 0, .null, .null, .null, .null, .null, .null]))] : va_W))) := hD
  refine W.widen (k := 2) (n := 19) (Nat.le_of_ble_eq_true rfl) (Nat.le_of_ble_eq_true rfl) ?_
  refine lv_dup hx hb dX7_init_16 rfl ?_
  have hPc : va_P (dC, dI) vwCl [(q2, .inr (5, [.int 0, .int 0, .int 0, .null, .null, .null, .null, .null, .null]))] H := c_lastP (ws := ([(h0, .inr (7, [.int 0, .ref q1, .null])), (q1, .inl (cI, 10, .inl (fun _ => 0)))] : va_W)) hP
  have hDc : va_D A [(q2, .inr (5, [.int 0, .int 0, .int 0, .null, .null, .null, .null, .null, .null]))] := c_lastD (ws := ([(h0, .inr (7, [.int 0, .ref q1, .null])), (q1, .inl (cI, 10, .inl (fun _ => 0)))] : va_W)) hD
  have hFc : ∀ x, va_A [(q2, .inr (5, [.int 0, .int 0, .int 0, .null, .null, .null, .null, .null, .null]))] H.size x → A x := c_free hDc hS hA
  refine va_callv (va_runIN (As := []) (rest := [.ref q2, .ref h0]) ⟨hx, hb, hml, hown, hts⟩ (mX5_init l dC dI cI cG cZ q2 H.size) ⟨va_cnB 0 hts (gd_s wc_X5_init) rfl rfl rfl hNX7_17 (hts _ wn_X5) wd_X5_init ⟨Nat.le_of_ble_eq_true rfl, Nat.le_of_ble_eq_true rfl⟩, rfl, hts _ wi_X5_init⟩ ⟨fun a U g mk q => by obtain ⟨q0, q1, qP, qK, qD⟩ := q; exact ⟨q0, q1, qP, va_K.moved (u := U) (U := U.calling g mk a) (Vm.Alike.refl U.vm) qK, qD⟩, fun U hU hW => ⟨rfl, by rw [hU], by rw [hU]; exact hPc, va_K.moved hW.alike hK, hDc.weaken (fun _ _ _ _ => trivial)⟩⟩ rfl rfl hl.1 rfl (lv_room (Nat.le_of_ble_eq_true rfl)) dX7_init_17 ⟨Nat.le_of_ble_eq_true rfl, Nat.le_of_ble_eq_true rfl⟩) hS (fun q _ h => hFc q h) hFc (fun u2 t H1 locs ht hvm hw hB hz1 hk1 hS => ?_)
  obtain ⟨hP1, hK1, hD1⟩ := hB
  rw [ht] at hP1
  obtain ⟨hP, hD⟩ := c_join (ws := ([(h0, .inr (7, [.int 0, .ref q1, .null])), (q1, .inl (cI, 10, .inl (fun _ => 0)))] : va_W)) hP hD hk1 hFc hP1 hD1
  generalize H1 = H at hP hS ⊢
  refine W.widen (k := 8) (n := 1023) (Nat.le_of_ble_eq_true rfl) (Nat.le_of_ble_eq_true rfl) ?_
  have hP : va_P (dC, dI) vwCl ((h0, .inr (7, [.int 0, .ref q1, .null])) :: ((([] : va_W) ++ ([(q1, .inl (cI, 10, .inl (fun _ => 0)))] : va_W)) ++ (cwX5 cI cG cZ q2 u2 : va_W))) H := hP
  have hD : va_D A ((h0, .inr (7, [.int 0, .ref q1, .null])) :: ((([] : va_W) ++ ([(q1, .inl (cI, 10, .inl (fun _ => 0)))] : va_W)) ++ (cwX5 cI cG cZ q2 u2 : va_W))) := hD
  refine va_putF (D := (dC, dI)) (ci := 7) (v := .ref q2) (ty := .object "HeapMover$Network") (C := RX7) (T := TX7) (N := 3) hx hb hts wu_X7 tyX7 tyX7_ok nmX7 hown hK hP hD hS 0 rfl rfl 2 (by decide) (hts _ wf_X7_18) (fun _ h9 => h9) rfl hin rfl (by decide +kernel) rfl rfl (Nat.le_of_ble_eq_true rfl) dX7_init_20 (fun H locs hP hD hS => ?_)
  have hP : va_P (dC, dI) vwCl ((h0, .inr (7, [.int 0, .ref q1, .ref q2])) :: ((([] : va_W) ++ ([(q1, .inl (cI, 10, .inl (fun _ => 0)))] : va_W)) ++ (cwX5 cI cG cZ q2 u2 : va_W))) H := hP
  have hD : va_D A ((h0, .inr (7, [.int 0, .ref q1, .ref q2])) :: ((([] : va_W) ++ ([(q1, .inl (cI, 10, .inl (fun _ => 0)))] : va_W)) ++ (cwX5 cI cG cZ q2 u2 : va_W))) := hD
  exact W.vret hx hb hr (fun t ht hW => ⟨⟨((fun k => [q1, q2].getD k 0), u2), rfl, trivial, by rw [ht]; exact hP, va_K.moved hW.alike hK, hD⟩, hS.F ht⟩) hS.2.2 dX7_init_23
