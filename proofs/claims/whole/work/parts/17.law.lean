/-! THE CLAIM OUT OF ONE WALK OF THE LAW'S BODY. Your part is whole_start (and what it stands on); all else here is the same for every law, but numbers. -/
def R_law : String := "HeapMoverLaw"
def lw_P (b : Addr) (xs : List Int32) (args : Array Value) (s : State) : Prop := args = #[.ref b] ∧ s.IntsAt b xs ∧ xs.length ≤ 2560 ∧ (Jvm.Cond.and given_1 narrow_1).before args s = true
def lw_Q (_ : Array Value) (s : State) (o : Outcome) (t : State) : Prop := o = .returned (some (.int 1)) ∧ Framed s o t [] 600000 7302250
def lw_Z (below : List Frame) (a : Array Value) (s : State) : State → Prop := fun t => ∃ o, t.status = .running ∧ Ended t below o ∧ lw_Q a s o t
/-- the law's own end, with 1 on the stack, nothing written that was there before, its room as the claim has it -/
theorem lw_ret {p : Program} {l : Launch} {e : Env} {s : State} {m : MethodId} {below : List Frame} {meth : Method} {c : Code} {b : Nat} (hx : p.tables.exec = Jvm.exec) (hb : c.code = code) (hr : meth.sig.returnType = ret) (hlocks : meth.locks = false) {pc : Nat} {H : Heap} {ls : Array Slot} (hdg : decode code pc = .ok (.ireturn, 1)) : W p l e room_1 s m #[Value.ref b] below meth c H [] 600000 7302250 (lw_Z below #[Value.ref b] s) (F0 m pc ls [.int 1]) := by
  intro T hT X
  obtain ⟨fs, hret, hrun, hended, hW, hframe⟩ := X.leave (v := some (.int 1)) (hlocks := hlocks) (fun h => by rw [hr] at h; cases h)
  have hmeth' : T.vm.method? m = some meth := X.method'
  refine ⟨T.setFrames fs, ?_, .returned (some (.int 1)), hrun, hended, rfl, ⟨_, rfl⟩, hW, hframe⟩
  jvm_step X.here [X.here.top, hx, hb, hdg, hmeth', hr, ret, narrow_b1]
  (try refine ⟨rfl, ?_⟩); (try refine ⟨rfl, ?_⟩)
  first | (intro acts; rw [hret _ acts rfl rfl rfl]) | rw [hret _ _ rfl rfl rfl]
  exact Steps.refl _
/-- what holds at the law's entry: the machine, the code, the tables' words (any of lw_tbl by 'hts w (by decide +kernel)'), the script of L ints xs at the cell b, what the Statement gives of the start (any of its parts by flat_of_before) -/
def lw_At (p : Program) (s : State) (m : MethodId) (meth : Method) (c : Code) (b L : Nat) (xs : Nat → Int32) : Prop :=
  p.tables.exec = Jvm.exec ∧ c.code = code ∧ meth.sig.returnType = ret ∧ c.maxLocals = 4 ∧ s.vm.findClass R_law = some m.cls ∧ (∀ w ∈ lw_tbl, w.before #[Value.ref b] s = true) ∧ va_X b L xs s s.heap ∧ b < s.heap.size ∧ meth.locks = false ∧ (Jvm.Cond.and given_1 narrow_1).before #[Value.ref b] s = true

/-- place: class and reference answer alike, and agree behind it -/
def St_place (Inv : Mem → Mem → Prop) : Prop := ∀ (MX MR : Mem), Inv MX MR → wpX8_place  MX (fun r MX1 => wpX9_place  MR (fun r1 MR1 => r = r1 ∧ Inv MX1 MR1))
/-- road: class and reference answer alike, and agree behind it -/
def St_road (Inv : Mem → Mem → Prop) : Prop := ∀ (a1 a2 a3 : Int) (MX MR : Mem), inR a1 → inR a2 → inR a3 → Inv MX MR → wpX8_road a1 a2 a3 MX (fun r MX1 => wpX9_road a1 a2 a3 MR (fun r1 MR1 => r = r1 ∧ Inv MX1 MR1))
/-- heap: class and reference answer alike, and agree behind it -/
def St_heap (Inv : Mem → Mem → Prop) : Prop := ∀ (MX MR : Mem), Inv MX MR → wpX8_heap  MX (fun r MX1 => wpX9_heap  MR (fun r1 MR1 => r = r1 ∧ Inv MX1 MR1))
/-- set: class and reference answer alike, and agree behind it -/
def St_set (Inv : Mem → Mem → Prop) : Prop := ∀ (a1 a2 a3 : Int) (MX MR : Mem), inR a1 → inR a2 → inR a3 → Inv MX MR → wpX8_set a1 a2 a3 MX (fun r MX1 => wpX9_set a1 a2 a3 MR (fun r1 MR1 => r = r1 ∧ Inv MX1 MR1))
/-- gate: class and reference answer alike, and agree behind it -/
def St_gate (Inv : Mem → Mem → Prop) : Prop := ∀ (a1 a2 : Int) (MX MR : Mem), inR a1 → inR a2 → Inv MX MR → wpX8_gate a1 a2 MX (fun r MX1 => wpX9_gate a1 a2 MR (fun r1 MR1 => r = r1 ∧ Inv MX1 MR1))
/-- undo: class and reference answer alike, and agree behind it -/
def St_undo (Inv : Mem → Mem → Prop) : Prop := ∀ (MX MR : Mem), Inv MX MR → wpX8_undo  MX (fun r MX1 => wpX9_undo  MR (fun r1 MR1 => r = r1 ∧ Inv MX1 MR1))
/-- apart: class and reference answer alike, and agree behind it -/
def St_apart (Inv : Mem → Mem → Prop) : Prop := ∀ (a1 a2 : Int) (MX MR : Mem), inR a1 → inR a2 → Inv MX MR → wpX8_apart a1 a2 MX (fun r MX1 => wpX9_apart a1 a2 MR (fun r1 MR1 => r = r1 ∧ Inv MX1 MR1))
/-- next: class and reference answer alike, and agree behind it -/
def St_next (Inv : Mem → Mem → Prop) : Prop := ∀ (a1 a2 : Int) (MX MR : Mem), inR a1 → inR a2 → Inv MX MR → wpX8_next a1 a2 MX (fun r MX1 => wpX9_next a1 a2 MR (fun r1 MR1 => r = r1 ∧ Inv MX1 MR1))
/-- amount: class and reference answer alike, and agree behind it -/
def St_amount (Inv : Mem → Mem → Prop) : Prop := ∀ (a1 a2 : Int) (MX MR : Mem), inR a1 → inR a2 → Inv MX MR → wpX8_amount a1 a2 MX (fun r MX1 => wpX9_amount a1 a2 MR (fun r1 MR1 => r = r1 ∧ Inv MX1 MR1))
/-- sum: class and reference answer alike, and agree behind it -/
def St_sum (Inv : Mem → Mem → Prop) : Prop := ∀ (a1 : Int) (MX MR : Mem), inR a1 → Inv MX MR → wpX8_sum a1 MX (fun r MX1 => wpX9_sum a1 MR (fun r1 MR1 => r = r1 ∧ Inv MX1 MR1))
/-- least: class and reference answer alike, and agree behind it -/
def St_least (Inv : Mem → Mem → Prop) : Prop := ∀ (a1 a2 : Int) (MX MR : Mem), inR a1 → inR a2 → Inv MX MR → wpX8_least a1 a2 MX (fun r MX1 => wpX9_least a1 a2 MR (fun r1 MR1 => r = r1 ∧ Inv MX1 MR1))
/-- plan: class and reference answer alike, and agree behind it -/
def St_plan (Inv : Mem → Mem → Prop) : Prop := ∀ (a1 a2 a3 a4 : Int) (MX MR : Mem), inR a1 → inR a2 → inR a3 → inR a4 → Inv MX MR → wpX8_plan a1 a2 a3 a4 MX (fun r MX1 => wpX9_plan a1 a2 a3 a4 MR (fun r1 MR1 => r = r1 ∧ Inv MX1 MR1))
/-- alone: class and reference answer alike, and agree behind it -/
def St_alone (Inv : Mem → Mem → Prop) : Prop := ∀ (a1 a2 : Int) (MX MR : Mem), inR a1 → inR a2 → Inv MX MR → wpX8_alone a1 a2 MX (fun r MX1 => wpX9_alone a1 a2 MR (fun r1 MR1 => r = r1 ∧ Inv MX1 MR1))
/-- height: class and reference answer alike, and agree behind it -/
def St_height (Inv : Mem → Mem → Prop) : Prop := ∀ (a1 a2 a3 : Int) (MX MR : Mem), inR a1 → inR a2 → inR a3 → Inv MX MR → wpX8_height a1 a2 a3 MX (fun r MX1 => wpX9_height a1 a2 a3 MR (fun r1 MR1 => r = r1 ∧ Inv MX1 MR1))
/-- load: class and reference answer alike, and agree behind it -/
def St_load (Inv : Mem → Mem → Prop) : Prop := ∀ (a1 a2 a3 a4 : Int) (MX MR : Mem), inR a1 → inR a2 → inR a3 → inR a4 → Inv MX MR → wpX8_load a1 a2 a3 a4 MX (fun r MX1 => wpX9_load a1 a2 a3 a4 MR (fun r1 MR1 => r = r1 ∧ Inv MX1 MR1))
/-- far: class and reference answer alike, and agree behind it -/
def St_far (Inv : Mem → Mem → Prop) : Prop := ∀ (a1 a2 : Int) (MX MR : Mem), inR a1 → inR a2 → Inv MX MR → wpX8_far a1 a2 MX (fun r MX1 => wpX9_far a1 a2 MR (fun r1 MR1 => r = r1 ∧ Inv MX1 MR1))
/-- shown: class and reference answer alike, and agree behind it -/
def St_shown (Inv : Mem → Mem → Prop) : Prop := ∀ (a1 a2 a3 : Int) (MX MR : Mem), inR a1 → inR a2 → inR a3 → Inv MX MR → wpX8_shown a1 a2 a3 MX (fun r MX1 => wpX9_shown a1 a2 a3 MR (fun r1 MR1 => r = r1 ∧ Inv MX1 MR1))
/-- some: class and reference answer alike, and agree behind it -/
def St_some (Inv : Mem → Mem → Prop) : Prop := ∀ (a1 a2 a3 : Int) (MX MR : Mem), inR a1 → inR a2 → inR a3 → Inv MX MR → wpX8_some a1 a2 a3 MX (fun r MX1 => wpX9_some a1 a2 a3 MR (fun r1 MR1 => r = r1 ∧ Inv MX1 MR1))
/-- gated: class and reference answer alike, and agree behind it -/
def St_gated (Inv : Mem → Mem → Prop) : Prop := ∀ (a1 a2 : Int) (MX MR : Mem), inR a1 → inR a2 → Inv MX MR → wpX8_gated a1 a2 MX (fun r MX1 => wpX9_gated a1 a2 MR (fun r1 MR1 => r = r1 ∧ Inv MX1 MR1))
/-- draft: class and reference answer alike, and agree behind it -/
def St_draft (Inv : Mem → Mem → Prop) : Prop := ∀ (a1 a2 a3 : Int) (MX MR : Mem), inR a1 → inR a2 → inR a3 → Inv MX MR → wpX8_draft a1 a2 a3 MX (fun r MX1 => wpX9_draft a1 a2 a3 MR (fun r1 MR1 => r = r1 ∧ Inv MX1 MR1))
/-- clear: class and reference answer alike, and agree behind it -/
def St_clear (Inv : Mem → Mem → Prop) : Prop := ∀ (MX MR : Mem), Inv MX MR → wpX8_clear  MX (fun r MX1 => wpX9_clear  MR (fun r1 MR1 => r = r1 ∧ Inv MX1 MR1))
/-- copy: class and reference answer alike, and agree behind it -/
def St_copy (Inv : Mem → Mem → Prop) : Prop := ∀ (a1 a2 : Int) (MX MR : Mem), inR a1 → inR a2 → Inv MX MR → wpX8_copy a1 a2 MX (fun r MX1 => wpX9_copy a1 a2 MR (fun r1 MR1 => r = r1 ∧ Inv MX1 MR1))
/-- judge: class and reference answer alike, and agree behind it -/
def St_judge (Inv : Mem → Mem → Prop) : Prop := ∀ (a1 a2 : Int) (MX MR : Mem), inR a1 → inR a2 → Inv MX MR → wpX8_judge a1 a2 MX (fun r MX1 => wpX9_judge a1 a2 MR (fun r1 MR1 => r = r1 ∧ Inv MX1 MR1))
/-- beside: class and reference answer alike, and agree behind it -/
def St_beside (Inv : Mem → Mem → Prop) : Prop := ∀ (MX MR : Mem), Inv MX MR → wpX8_beside  MX (fun r MX1 => wpX9_beside  MR (fun r1 MR1 => r = r1 ∧ Inv MX1 MR1))
/-- count: class and reference answer alike, and agree behind it -/
def St_count (Inv : Mem → Mem → Prop) : Prop := ∀ (a1 : Int) (MX MR : Mem), inR a1 → Inv MX MR → wpX8_count a1 MX (fun r MX1 => wpX9_count a1 MR (fun r1 MR1 => r = r1 ∧ Inv MX1 MR1))
set_option maxHeartbeats 4000000 in
set_option maxRecDepth 100000 in
theorem law_next {p : Program} {l : Launch} {e : Env} {s : State} {m : MethodId} {below : List Frame} {meth : Method} {c : Code} {g g2 : GP} {b L : Nat} {xs : Nat → Int32} (hL : L ≤ 2560) (C0 : lw_At p s m meth c b L xs) {Inv : Mem → Mem → Prop} {n : Nat} (ih : ∀ (i : Int), 0 ≤ i → i ≤ L → (L : Int) < i + n → ∀ (MX MR : Mem) (H : Heap) (locs : List Loc) (ls : Array Slot), Inv MX MR → LwIn g g2 s MX MR H locs → lv_has ls 4 [(0, .ref b), (1, .ref (g.2.2.2 0)), (2, .ref (g2.2.2.2 0)), (3, .int (i32 i))] → W p l e room_1 s m #[Value.ref b] below meth c H locs 114 4517 (lw_Z below #[Value.ref b] s) (F0 m 18 ls [])) {i : Int} (hi0 : 0 ≤ i) (hi1 : i + 5 ≤ L ∧ (L : Int) < i + (n + 1)) {MX MR : Mem} {H : Heap} {locs : List Loc} {ls : Array Slot} (hI : Inv MX MR) (I : LwIn g g2 s MX MR H locs) (hl : lv_has ls 4 [(0, .ref b), (1, .ref (g.2.2.2 0)), (2, .ref (g2.2.2.2 0)), (3, .int (i32 i))]) : W p l e room_1 s m #[Value.ref b] below meth c H locs 114 4517 (lw_Z below #[Value.ref b] s) (F0 m 953 ls []) := by
  obtain ⟨hx, hb, hr, hml, hown, hts0, hX, hbl, hlocks, hgv⟩ := id C0
  refine li_iinc (lv' := [(3, .int (i32 (i + 5))), (0, .ref b), (1, .ref (g.2.2.2 0)), (2, .ref (g2.2.2.2 0))]) hx hb dL_law_953 hl (k := 3) rfl (by decide) rfl (fun ls hl => ?_)
  refine lv_goto (tgt := 18) hx hb dL_law_956 (by decide) ?_
  exact ih (i + 5) (by omega) (by omega) (by omega) MX MR H locs ls hI I (lv_sub hl [1, 2, 3, 0] rfl)
set_option maxHeartbeats 8000000 in
set_option maxRecDepth 100000 in
/-- THE LAW'S LOOP, over the pure steps -/
theorem law_loop_open {p : Program} {l : Launch} {e : Env} {s : State} {m : MethodId} {below : List Frame} {meth : Method} {c : Code} {g g2 : GP} {b L : Nat} {xs : Nat → Int32} (hL : L ≤ 2560) (C0 : lw_At p s m meth c b L xs) {Inv : Mem → Mem → Prop} (h_place : St_place Inv) (h_road : St_road Inv) (h_heap : St_heap Inv) (h_set : St_set Inv) (h_gate : St_gate Inv) (h_undo : St_undo Inv) (h_apart : St_apart Inv) (h_next : St_next Inv) (h_amount : St_amount Inv) (h_sum : St_sum Inv) (h_least : St_least Inv) (h_plan : St_plan Inv) (h_alone : St_alone Inv) (h_height : St_height Inv) (h_load : St_load Inv) (h_far : St_far Inv) (h_shown : St_shown Inv) (h_some : St_some Inv) (h_gated : St_gated Inv) (h_draft : St_draft Inv) (h_clear : St_clear Inv) (h_copy : St_copy Inv) (h_judge : St_judge Inv) (h_beside : St_beside Inv) (h_count : St_count Inv) : ∀ n : Nat, ∀ (i : Int), 0 ≤ i → i ≤ L → (L : Int) < i + n → ∀ (MX MR : Mem) (H : Heap) (locs : List Loc) (ls : Array Slot), Inv MX MR → LwIn g g2 s MX MR H locs → lv_has ls 4 [(0, .ref b), (1, .ref (g.2.2.2 0)), (2, .ref (g2.2.2.2 0)), (3, .int (i32 i))] → W p l e room_1 s m #[Value.ref b] below meth c H locs 114 4517 (lw_Z below #[Value.ref b] s) (F0 m 18 ls []) := by
  obtain ⟨hx, hb, hr, hml, hown, hts0, hX, hbl, hlocks, hgv⟩ := id C0
  have hts : ∀ w ∈ lw_g, w.before #[Value.ref b] s = true := fun w h => hts0 w (List.mem_filter.mp h).1
  intro n
  induction n with
  | zero => intro i h0 h1 h2; omega
  | succ n ih =>
    intro i hi0 hiL hin MX MR H locs ls hI I hl
    refine lv_iload_n hx hb dL_law_18 rfl (lv_at hl 3 rfl) ?_
    refine lv_aload_n hx hb dL_law_19 rfl (lv_at hl 0 rfl) ?_
    refine lw_slen hx hb hX hbl I dL_law_20 ?_
    refine li_iconst hx hb dL_law_21 ?_
    refine li_isub hx hb dL_law_22 ?_
    refine li_icmp_gt (tgt := 959) hx hb dL_law_23 (by decide) ⟨by omega, by omega⟩ ⟨by omega, by omega⟩ (fun c0 => ?_) (fun c0 => ?_)
    · refine lv_iconst (v := 1) hx hb dL_law_959 (by decide) ?_
      refine va_forget (fun q hq => I.2.2.2.2.2.2.2.1.2.2 q hq) ?_
      refine W.widen (k := 600000) (n := 7302250) (by decide) (by decide) ?_
      exact lw_ret hx hb hr hlocks dL_law_960
    · have hi1 : i + 5 ≤ L ∧ (L : Int) < i + (n + 1) := ⟨by omega, by omega⟩
      refine lv_aload_n hx hb dL_law_26 rfl (lv_at hl 0 rfl) ?_
      refine lv_iload_n hx hb dL_law_27 rfl (lv_at hl 3 rfl) ?_
      refine lw_sld hx hb hX hbl I (i := i) ⟨by omega, by omega⟩ hL dL_law_28 ?_
      refine lv_bipush (v := i32 31) hx hb dL_law_29 (by decide) ?_
      refine lv_iand hx hb dL_law_31 ?_
      obtain ⟨k0, hk0, ek0⟩ := pk_andE (i32 (xs i.toNat).toInt) (m := i32 31) 5 (by decide)
      rw [ek0]
      have ek1 : nI k0 = i32 (k0 : Int) := (Int32.ofInt_eq_ofNat).symm
      rw [ek1]
      obtain ⟨k, ek⟩ : ∃ k : Int, k = (k0 : Int) := ⟨_, rfl⟩
      rw [← ek]
      have hk1 : 0 ≤ k ∧ k < 32 := by omega
      by_cases q0 : k = 0
      · subst q0
        refine li_tabIn (tgt := 148) hx hb dL_law_32 0 (by decide) rfl (by decide) (by decide) rfl (by decide) ?_
        refine lv_aload_n hx hb dL_law_148 rfl (lv_at hl 1 rfl) ?_
        refine lw_callX (As := []) (rest := []) ⟨hx, hb, hml, hown, hts⟩ I (mX8_place l g   MX _ _ (h_place  MX MR  hI)) (cwV 0 hts (gd_V wm_L_13 wi_X8_place wl_X8_place wn_X8 wc_X8_place) rfl rfl rfl wd_X8_place ⟨Nat.le_of_ble_eq_true rfl, Nat.le_of_ble_eq_true rfl⟩) rfl hl.1 rfl (Nat.le_of_ble_eq_true rfl) dL_law_149 ⟨Nat.le_of_ble_eq_true rfl, Nat.le_of_ble_eq_true rfl⟩ (fun r1 MX H locs hr1 hw I => ?_)
        refine lv_aload_n hx hb dL_law_152 rfl (lv_at hl 2 rfl) ?_
        refine lw_callR (As := []) (rest := [.int (i32 r1)]) ⟨hx, hb, hml, hown, hts⟩ I (mX9_place l g2   MR _ _ hw) (cwV 0 hts (gd_V wm_L_17 wi_X9_place wl_X9_place wn_X9 wc_X9_place) rfl rfl rfl wd_X9_place ⟨Nat.le_of_ble_eq_true rfl, Nat.le_of_ble_eq_true rfl⟩) rfl hl.1 rfl (Nat.le_of_ble_eq_true rfl) dL_law_153 ⟨Nat.le_of_ble_eq_true rfl, Nat.le_of_ble_eq_true rfl⟩ (fun r2 MR H locs hr2 hw I => ?_)
        refine li_icmp_eq (tgt := 953) hx hb dL_law_156 (by decide) hr1 hr2 (fun c1 => ?_) (fun c1 => absurd hw.1 c1)
        exact law_next hL C0 ih hi0 hi1 hw.2 I hl
      by_cases q1 : k = 1
      · subst q1
        refine li_tabIn (tgt := 161) hx hb dL_law_32 1 (by decide) rfl (by decide) (by decide) rfl (by decide) ?_
        refine lv_aload_n hx hb dL_law_161 rfl (lv_at hl 1 rfl) ?_
        refine lv_aload_n hx hb dL_law_162 rfl (lv_at hl 0 rfl) ?_
        refine lv_iload_n hx hb dL_law_163 rfl (lv_at hl 3 rfl) ?_
        refine li_iconst hx hb dL_law_164 ?_
        refine li_iadd hx hb dL_law_165 ?_
        refine lw_sld hx hb hX hbl I (i := (i + 1)) ⟨by omega, by omega⟩ hL dL_law_166 ?_
        refine lv_aload_n hx hb dL_law_167 rfl (lv_at hl 0 rfl) ?_
        refine lv_iload_n hx hb dL_law_168 rfl (lv_at hl 3 rfl) ?_
        refine li_iconst hx hb dL_law_169 ?_
        refine li_iadd hx hb dL_law_170 ?_
        refine lw_sld hx hb hX hbl I (i := (i + 2)) ⟨by omega, by omega⟩ hL dL_law_171 ?_
        refine lv_aload_n hx hb dL_law_172 rfl (lv_at hl 0 rfl) ?_
        refine lv_iload_n hx hb dL_law_173 rfl (lv_at hl 3 rfl) ?_
        refine li_iconst hx hb dL_law_174 ?_
        refine li_iadd hx hb dL_law_175 ?_
        refine lw_sld hx hb hX hbl I (i := (i + 3)) ⟨by omega, by omega⟩ hL dL_law_176 ?_
        refine lw_callX (As := [.int (i32 (xs (i + 1).toNat).toInt), .int (i32 (xs (i + 2).toNat).toInt), .int (i32 (xs (i + 3).toNat).toInt)]) (rest := []) ⟨hx, hb, hml, hown, hts⟩ I (mX8_road l g ((xs (i + 1).toNat).toInt) ((xs (i + 2).toNat).toInt) ((xs (i + 3).toNat).toInt) (inR_toInt _) (inR_toInt _) (inR_toInt _) MX _ _ (h_road ((xs (i + 1).toNat).toInt) ((xs (i + 2).toNat).toInt) ((xs (i + 3).toNat).toInt) MX MR (inR_toInt _) (inR_toInt _) (inR_toInt _) hI)) (cwV 3 hts (gd_V wm_L_18 wi_X8_road wl_X8_road wn_X8 wc_X8_road) rfl rfl rfl wd_X8_road ⟨Nat.le_of_ble_eq_true rfl, Nat.le_of_ble_eq_true rfl⟩) rfl hl.1 rfl (Nat.le_of_ble_eq_true rfl) dL_law_177 ⟨Nat.le_of_ble_eq_true rfl, Nat.le_of_ble_eq_true rfl⟩ (fun r1 MX H locs hr1 hw I => ?_)
        refine lv_aload_n hx hb dL_law_180 rfl (lv_at hl 2 rfl) ?_
        refine lv_aload_n hx hb dL_law_181 rfl (lv_at hl 0 rfl) ?_
        refine lv_iload_n hx hb dL_law_182 rfl (lv_at hl 3 rfl) ?_
        refine li_iconst hx hb dL_law_183 ?_
        refine li_iadd hx hb dL_law_184 ?_
        refine lw_sld hx hb hX hbl I (i := (i + 1)) ⟨by omega, by omega⟩ hL dL_law_185 ?_
        refine lv_aload_n hx hb dL_law_186 rfl (lv_at hl 0 rfl) ?_
        refine lv_iload_n hx hb dL_law_187 rfl (lv_at hl 3 rfl) ?_
        refine li_iconst hx hb dL_law_188 ?_
        refine li_iadd hx hb dL_law_189 ?_
        refine lw_sld hx hb hX hbl I (i := (i + 2)) ⟨by omega, by omega⟩ hL dL_law_190 ?_
        refine lv_aload_n hx hb dL_law_191 rfl (lv_at hl 0 rfl) ?_
        refine lv_iload_n hx hb dL_law_192 rfl (lv_at hl 3 rfl) ?_
        refine li_iconst hx hb dL_law_193 ?_
        refine li_iadd hx hb dL_law_194 ?_
        refine lw_sld hx hb hX hbl I (i := (i + 3)) ⟨by omega, by omega⟩ hL dL_law_195 ?_
        refine lw_callR (As := [.int (i32 (xs (i + 1).toNat).toInt), .int (i32 (xs (i + 2).toNat).toInt), .int (i32 (xs (i + 3).toNat).toInt)]) (rest := [.int (i32 r1)]) ⟨hx, hb, hml, hown, hts⟩ I (mX9_road l g2 ((xs (i + 1).toNat).toInt) ((xs (i + 2).toNat).toInt) ((xs (i + 3).toNat).toInt) (inR_toInt _) (inR_toInt _) (inR_toInt _) MR _ _ hw) (cwV 3 hts (gd_V wm_L_22 wi_X9_road wl_X9_road wn_X9 wc_X9_road) rfl rfl rfl wd_X9_road ⟨Nat.le_of_ble_eq_true rfl, Nat.le_of_ble_eq_true rfl⟩) rfl hl.1 rfl (Nat.le_of_ble_eq_true rfl) dL_law_196 ⟨Nat.le_of_ble_eq_true rfl, Nat.le_of_ble_eq_true rfl⟩ (fun r2 MR H locs hr2 hw I => ?_)
        refine li_icmp_eq (tgt := 953) hx hb dL_law_199 (by decide) hr1 hr2 (fun c1 => ?_) (fun c1 => absurd hw.1 c1)
        exact law_next hL C0 ih hi0 hi1 hw.2 I hl
      by_cases q2 : k = 2
      · subst q2
        refine li_tabIn (tgt := 204) hx hb dL_law_32 2 (by decide) rfl (by decide) (by decide) rfl (by decide) ?_
        refine lv_aload_n hx hb dL_law_204 rfl (lv_at hl 1 rfl) ?_
        refine lw_callX (As := []) (rest := []) ⟨hx, hb, hml, hown, hts⟩ I (mX8_heap l g   MX _ _ (h_heap  MX MR  hI)) (cwV 0 hts (gd_V wm_L_23 wi_X8_heap wl_X8_heap wn_X8 wc_X8_heap) rfl rfl rfl wd_X8_heap ⟨Nat.le_of_ble_eq_true rfl, Nat.le_of_ble_eq_true rfl⟩) rfl hl.1 rfl (Nat.le_of_ble_eq_true rfl) dL_law_205 ⟨Nat.le_of_ble_eq_true rfl, Nat.le_of_ble_eq_true rfl⟩ (fun r1 MX H locs hr1 hw I => ?_)
        refine lv_aload_n hx hb dL_law_208 rfl (lv_at hl 2 rfl) ?_
        refine lw_callR (As := []) (rest := [.int (i32 r1)]) ⟨hx, hb, hml, hown, hts⟩ I (mX9_heap l g2   MR _ _ hw) (cwV 0 hts (gd_V wm_L_26 wi_X9_heap wl_X9_heap wn_X9 wc_X9_heap) rfl rfl rfl wd_X9_heap ⟨Nat.le_of_ble_eq_true rfl, Nat.le_of_ble_eq_true rfl⟩) rfl hl.1 rfl (Nat.le_of_ble_eq_true rfl) dL_law_209 ⟨Nat.le_of_ble_eq_true rfl, Nat.le_of_ble_eq_true rfl⟩ (fun r2 MR H locs hr2 hw I => ?_)
        refine li_icmp_eq (tgt := 953) hx hb dL_law_212 (by decide) hr1 hr2 (fun c1 => ?_) (fun c1 => absurd hw.1 c1)
        exact law_next hL C0 ih hi0 hi1 hw.2 I hl
      by_cases q3 : k = 3
      · subst q3
        refine li_tabIn (tgt := 217) hx hb dL_law_32 3 (by decide) rfl (by decide) (by decide) rfl (by decide) ?_
        refine lv_aload_n hx hb dL_law_217 rfl (lv_at hl 1 rfl) ?_
        refine lv_aload_n hx hb dL_law_218 rfl (lv_at hl 0 rfl) ?_
        refine lv_iload_n hx hb dL_law_219 rfl (lv_at hl 3 rfl) ?_
        refine li_iconst hx hb dL_law_220 ?_
        refine li_iadd hx hb dL_law_221 ?_
        refine lw_sld hx hb hX hbl I (i := (i + 1)) ⟨by omega, by omega⟩ hL dL_law_222 ?_
        refine lv_aload_n hx hb dL_law_223 rfl (lv_at hl 0 rfl) ?_
        refine lv_iload_n hx hb dL_law_224 rfl (lv_at hl 3 rfl) ?_
        refine li_iconst hx hb dL_law_225 ?_
        refine li_iadd hx hb dL_law_226 ?_
        refine lw_sld hx hb hX hbl I (i := (i + 2)) ⟨by omega, by omega⟩ hL dL_law_227 ?_
        refine lv_aload_n hx hb dL_law_228 rfl (lv_at hl 0 rfl) ?_
        refine lv_iload_n hx hb dL_law_229 rfl (lv_at hl 3 rfl) ?_
        refine li_iconst hx hb dL_law_230 ?_
        refine li_iadd hx hb dL_law_231 ?_
        refine lw_sld hx hb hX hbl I (i := (i + 3)) ⟨by omega, by omega⟩ hL dL_law_232 ?_
        refine lw_callX (As := [.int (i32 (xs (i + 1).toNat).toInt), .int (i32 (xs (i + 2).toNat).toInt), .int (i32 (xs (i + 3).toNat).toInt)]) (rest := []) ⟨hx, hb, hml, hown, hts⟩ I (mX8_set l g ((xs (i + 1).toNat).toInt) ((xs (i + 2).toNat).toInt) ((xs (i + 3).toNat).toInt) (inR_toInt _) (inR_toInt _) (inR_toInt _) MX _ _ (h_set ((xs (i + 1).toNat).toInt) ((xs (i + 2).toNat).toInt) ((xs (i + 3).toNat).toInt) MX MR (inR_toInt _) (inR_toInt _) (inR_toInt _) hI)) (cwV 3 hts (gd_V wm_L_27 wi_X8_set wl_X8_set wn_X8 wc_X8_set) rfl rfl rfl wd_X8_set ⟨Nat.le_of_ble_eq_true rfl, Nat.le_of_ble_eq_true rfl⟩) rfl hl.1 rfl (Nat.le_of_ble_eq_true rfl) dL_law_233 ⟨Nat.le_of_ble_eq_true rfl, Nat.le_of_ble_eq_true rfl⟩ (fun r1 MX H locs hr1 hw I => ?_)
        refine lv_aload_n hx hb dL_law_236 rfl (lv_at hl 2 rfl) ?_
        refine lv_aload_n hx hb dL_law_237 rfl (lv_at hl 0 rfl) ?_
        refine lv_iload_n hx hb dL_law_238 rfl (lv_at hl 3 rfl) ?_
        refine li_iconst hx hb dL_law_239 ?_
        refine li_iadd hx hb dL_law_240 ?_
        refine lw_sld hx hb hX hbl I (i := (i + 1)) ⟨by omega, by omega⟩ hL dL_law_241 ?_
        refine lv_aload_n hx hb dL_law_242 rfl (lv_at hl 0 rfl) ?_
        refine lv_iload_n hx hb dL_law_243 rfl (lv_at hl 3 rfl) ?_
        refine li_iconst hx hb dL_law_244 ?_
        refine li_iadd hx hb dL_law_245 ?_
        refine lw_sld hx hb hX hbl I (i := (i + 2)) ⟨by omega, by omega⟩ hL dL_law_246 ?_
        refine lv_aload_n hx hb dL_law_247 rfl (lv_at hl 0 rfl) ?_
        refine lv_iload_n hx hb dL_law_248 rfl (lv_at hl 3 rfl) ?_
        refine li_iconst hx hb dL_law_249 ?_
        refine li_iadd hx hb dL_law_250 ?_
        refine lw_sld hx hb hX hbl I (i := (i + 3)) ⟨by omega, by omega⟩ hL dL_law_251 ?_
        refine lw_callR (As := [.int (i32 (xs (i + 1).toNat).toInt), .int (i32 (xs (i + 2).toNat).toInt), .int (i32 (xs (i + 3).toNat).toInt)]) (rest := [.int (i32 r1)]) ⟨hx, hb, hml, hown, hts⟩ I (mX9_set l g2 ((xs (i + 1).toNat).toInt) ((xs (i + 2).toNat).toInt) ((xs (i + 3).toNat).toInt) (inR_toInt _) (inR_toInt _) (inR_toInt _) MR _ _ hw) (cwV 3 hts (gd_V wm_L_30 wi_X9_set wl_X9_set wn_X9 wc_X9_set) rfl rfl rfl wd_X9_set ⟨Nat.le_of_ble_eq_true rfl, Nat.le_of_ble_eq_true rfl⟩) rfl hl.1 rfl (Nat.le_of_ble_eq_true rfl) dL_law_252 ⟨Nat.le_of_ble_eq_true rfl, Nat.le_of_ble_eq_true rfl⟩ (fun r2 MR H locs hr2 hw I => ?_)
        refine li_icmp_eq (tgt := 953) hx hb dL_law_255 (by decide) hr1 hr2 (fun c1 => ?_) (fun c1 => absurd hw.1 c1)
        exact law_next hL C0 ih hi0 hi1 hw.2 I hl
      by_cases q4 : k = 4
      · subst q4
        refine li_tabIn (tgt := 260) hx hb dL_law_32 4 (by decide) rfl (by decide) (by decide) rfl (by decide) ?_
        refine lv_aload_n hx hb dL_law_260 rfl (lv_at hl 1 rfl) ?_
        refine lv_aload_n hx hb dL_law_261 rfl (lv_at hl 0 rfl) ?_
        refine lv_iload_n hx hb dL_law_262 rfl (lv_at hl 3 rfl) ?_
        refine li_iconst hx hb dL_law_263 ?_
        refine li_iadd hx hb dL_law_264 ?_
        refine lw_sld hx hb hX hbl I (i := (i + 1)) ⟨by omega, by omega⟩ hL dL_law_265 ?_
        refine lv_aload_n hx hb dL_law_266 rfl (lv_at hl 0 rfl) ?_
        refine lv_iload_n hx hb dL_law_267 rfl (lv_at hl 3 rfl) ?_
        refine li_iconst hx hb dL_law_268 ?_
        refine li_iadd hx hb dL_law_269 ?_
        refine lw_sld hx hb hX hbl I (i := (i + 2)) ⟨by omega, by omega⟩ hL dL_law_270 ?_
        refine lw_callX (As := [.int (i32 (xs (i + 1).toNat).toInt), .int (i32 (xs (i + 2).toNat).toInt)]) (rest := []) ⟨hx, hb, hml, hown, hts⟩ I (mX8_gate l g ((xs (i + 1).toNat).toInt) ((xs (i + 2).toNat).toInt) (inR_toInt _) (inR_toInt _) MX _ _ (h_gate ((xs (i + 1).toNat).toInt) ((xs (i + 2).toNat).toInt) MX MR (inR_toInt _) (inR_toInt _) hI)) (cwV 2 hts (gd_V wm_L_31 wi_X8_gate wl_X8_gate wn_X8 wc_X8_gate) rfl rfl rfl wd_X8_gate ⟨Nat.le_of_ble_eq_true rfl, Nat.le_of_ble_eq_true rfl⟩) rfl hl.1 rfl (Nat.le_of_ble_eq_true rfl) dL_law_271 ⟨Nat.le_of_ble_eq_true rfl, Nat.le_of_ble_eq_true rfl⟩ (fun r1 MX H locs hr1 hw I => ?_)
        refine lv_aload_n hx hb dL_law_274 rfl (lv_at hl 2 rfl) ?_
        refine lv_aload_n hx hb dL_law_275 rfl (lv_at hl 0 rfl) ?_
        refine lv_iload_n hx hb dL_law_276 rfl (lv_at hl 3 rfl) ?_
        refine li_iconst hx hb dL_law_277 ?_
        refine li_iadd hx hb dL_law_278 ?_
        refine lw_sld hx hb hX hbl I (i := (i + 1)) ⟨by omega, by omega⟩ hL dL_law_279 ?_
        refine lv_aload_n hx hb dL_law_280 rfl (lv_at hl 0 rfl) ?_
        refine lv_iload_n hx hb dL_law_281 rfl (lv_at hl 3 rfl) ?_
        refine li_iconst hx hb dL_law_282 ?_
        refine li_iadd hx hb dL_law_283 ?_
        refine lw_sld hx hb hX hbl I (i := (i + 2)) ⟨by omega, by omega⟩ hL dL_law_284 ?_
        refine lw_callR (As := [.int (i32 (xs (i + 1).toNat).toInt), .int (i32 (xs (i + 2).toNat).toInt)]) (rest := [.int (i32 r1)]) ⟨hx, hb, hml, hown, hts⟩ I (mX9_gate l g2 ((xs (i + 1).toNat).toInt) ((xs (i + 2).toNat).toInt) (inR_toInt _) (inR_toInt _) MR _ _ hw) (cwV 2 hts (gd_V wm_L_35 wi_X9_gate wl_X9_gate wn_X9 wc_X9_gate) rfl rfl rfl wd_X9_gate ⟨Nat.le_of_ble_eq_true rfl, Nat.le_of_ble_eq_true rfl⟩) rfl hl.1 rfl (Nat.le_of_ble_eq_true rfl) dL_law_285 ⟨Nat.le_of_ble_eq_true rfl, Nat.le_of_ble_eq_true rfl⟩ (fun r2 MR H locs hr2 hw I => ?_)
        refine li_icmp_eq (tgt := 953) hx hb dL_law_288 (by decide) hr1 hr2 (fun c1 => ?_) (fun c1 => absurd hw.1 c1)
        exact law_next hL C0 ih hi0 hi1 hw.2 I hl
      by_cases q5 : k = 5
      · subst q5
        refine li_tabIn (tgt := 293) hx hb dL_law_32 5 (by decide) rfl (by decide) (by decide) rfl (by decide) ?_
        refine lv_aload_n hx hb dL_law_293 rfl (lv_at hl 1 rfl) ?_
        refine lw_callX (As := []) (rest := []) ⟨hx, hb, hml, hown, hts⟩ I (mX8_undo l g   MX _ _ (h_undo  MX MR  hI)) (cwV 0 hts (gd_V wm_L_36 wi_X8_undo wl_X8_undo wn_X8 wc_X8_undo) rfl rfl rfl wd_X8_undo ⟨Nat.le_of_ble_eq_true rfl, Nat.le_of_ble_eq_true rfl⟩) rfl hl.1 rfl (Nat.le_of_ble_eq_true rfl) dL_law_294 ⟨Nat.le_of_ble_eq_true rfl, Nat.le_of_ble_eq_true rfl⟩ (fun r1 MX H locs hr1 hw I => ?_)
        refine lv_aload_n hx hb dL_law_297 rfl (lv_at hl 2 rfl) ?_
        refine lw_callR (As := []) (rest := [.int (i32 r1)]) ⟨hx, hb, hml, hown, hts⟩ I (mX9_undo l g2   MR _ _ hw) (cwV 0 hts (gd_V wm_L_39 wi_X9_undo wl_X9_undo wn_X9 wc_X9_undo) rfl rfl rfl wd_X9_undo ⟨Nat.le_of_ble_eq_true rfl, Nat.le_of_ble_eq_true rfl⟩) rfl hl.1 rfl (Nat.le_of_ble_eq_true rfl) dL_law_298 ⟨Nat.le_of_ble_eq_true rfl, Nat.le_of_ble_eq_true rfl⟩ (fun r2 MR H locs hr2 hw I => ?_)
        refine li_icmp_eq (tgt := 953) hx hb dL_law_301 (by decide) hr1 hr2 (fun c1 => ?_) (fun c1 => absurd hw.1 c1)
        exact law_next hL C0 ih hi0 hi1 hw.2 I hl
      by_cases q6 : k = 6
      · subst q6
        refine li_tabIn (tgt := 306) hx hb dL_law_32 6 (by decide) rfl (by decide) (by decide) rfl (by decide) ?_
        refine lv_aload_n hx hb dL_law_306 rfl (lv_at hl 1 rfl) ?_
        refine lv_aload_n hx hb dL_law_307 rfl (lv_at hl 0 rfl) ?_
        refine lv_iload_n hx hb dL_law_308 rfl (lv_at hl 3 rfl) ?_
        refine li_iconst hx hb dL_law_309 ?_
        refine li_iadd hx hb dL_law_310 ?_
        refine lw_sld hx hb hX hbl I (i := (i + 1)) ⟨by omega, by omega⟩ hL dL_law_311 ?_
        refine lv_aload_n hx hb dL_law_312 rfl (lv_at hl 0 rfl) ?_
        refine lv_iload_n hx hb dL_law_313 rfl (lv_at hl 3 rfl) ?_
        refine li_iconst hx hb dL_law_314 ?_
        refine li_iadd hx hb dL_law_315 ?_
        refine lw_sld hx hb hX hbl I (i := (i + 2)) ⟨by omega, by omega⟩ hL dL_law_316 ?_
        refine lw_callX (As := [.int (i32 (xs (i + 1).toNat).toInt), .int (i32 (xs (i + 2).toNat).toInt)]) (rest := []) ⟨hx, hb, hml, hown, hts⟩ I (mX8_apart l g ((xs (i + 1).toNat).toInt) ((xs (i + 2).toNat).toInt) (inR_toInt _) (inR_toInt _) MX _ _ (h_apart ((xs (i + 1).toNat).toInt) ((xs (i + 2).toNat).toInt) MX MR (inR_toInt _) (inR_toInt _) hI)) (cwV 2 hts (gd_V wm_L_40 wi_X8_apart wl_X8_apart wn_X8 wc_X8_apart) rfl rfl rfl wd_X8_apart ⟨Nat.le_of_ble_eq_true rfl, Nat.le_of_ble_eq_true rfl⟩) rfl hl.1 rfl (Nat.le_of_ble_eq_true rfl) dL_law_317 ⟨Nat.le_of_ble_eq_true rfl, Nat.le_of_ble_eq_true rfl⟩ (fun r1 MX H locs hr1 hw I => ?_)
        refine lv_aload_n hx hb dL_law_320 rfl (lv_at hl 2 rfl) ?_
        refine lv_aload_n hx hb dL_law_321 rfl (lv_at hl 0 rfl) ?_
        refine lv_iload_n hx hb dL_law_322 rfl (lv_at hl 3 rfl) ?_
        refine li_iconst hx hb dL_law_323 ?_
        refine li_iadd hx hb dL_law_324 ?_
        refine lw_sld hx hb hX hbl I (i := (i + 1)) ⟨by omega, by omega⟩ hL dL_law_325 ?_
        refine lv_aload_n hx hb dL_law_326 rfl (lv_at hl 0 rfl) ?_
        refine lv_iload_n hx hb dL_law_327 rfl (lv_at hl 3 rfl) ?_
        refine li_iconst hx hb dL_law_328 ?_
        refine li_iadd hx hb dL_law_329 ?_
        refine lw_sld hx hb hX hbl I (i := (i + 2)) ⟨by omega, by omega⟩ hL dL_law_330 ?_
        refine lw_callR (As := [.int (i32 (xs (i + 1).toNat).toInt), .int (i32 (xs (i + 2).toNat).toInt)]) (rest := [.int (i32 r1)]) ⟨hx, hb, hml, hown, hts⟩ I (mX9_apart l g2 ((xs (i + 1).toNat).toInt) ((xs (i + 2).toNat).toInt) (inR_toInt _) (inR_toInt _) MR _ _ hw) (cwV 2 hts (gd_V wm_L_43 wi_X9_apart wl_X9_apart wn_X9 wc_X9_apart) rfl rfl rfl wd_X9_apart ⟨Nat.le_of_ble_eq_true rfl, Nat.le_of_ble_eq_true rfl⟩) rfl hl.1 rfl (Nat.le_of_ble_eq_true rfl) dL_law_331 ⟨Nat.le_of_ble_eq_true rfl, Nat.le_of_ble_eq_true rfl⟩ (fun r2 MR H locs hr2 hw I => ?_)
        refine li_icmp_eq (tgt := 953) hx hb dL_law_334 (by decide) hr1 hr2 (fun c1 => ?_) (fun c1 => absurd hw.1 c1)
        exact law_next hL C0 ih hi0 hi1 hw.2 I hl
      by_cases q7 : k = 7
      · subst q7
        refine li_tabIn (tgt := 339) hx hb dL_law_32 7 (by decide) rfl (by decide) (by decide) rfl (by decide) ?_
        refine lv_aload_n hx hb dL_law_339 rfl (lv_at hl 1 rfl) ?_
        refine lv_aload_n hx hb dL_law_340 rfl (lv_at hl 0 rfl) ?_
        refine lv_iload_n hx hb dL_law_341 rfl (lv_at hl 3 rfl) ?_
        refine li_iconst hx hb dL_law_342 ?_
        refine li_iadd hx hb dL_law_343 ?_
        refine lw_sld hx hb hX hbl I (i := (i + 1)) ⟨by omega, by omega⟩ hL dL_law_344 ?_
        refine lv_aload_n hx hb dL_law_345 rfl (lv_at hl 0 rfl) ?_
        refine lv_iload_n hx hb dL_law_346 rfl (lv_at hl 3 rfl) ?_
        refine li_iconst hx hb dL_law_347 ?_
        refine li_iadd hx hb dL_law_348 ?_
        refine lw_sld hx hb hX hbl I (i := (i + 2)) ⟨by omega, by omega⟩ hL dL_law_349 ?_
        refine lw_callX (As := [.int (i32 (xs (i + 1).toNat).toInt), .int (i32 (xs (i + 2).toNat).toInt)]) (rest := []) ⟨hx, hb, hml, hown, hts⟩ I (mX8_next l g ((xs (i + 1).toNat).toInt) ((xs (i + 2).toNat).toInt) (inR_toInt _) (inR_toInt _) MX _ _ (h_next ((xs (i + 1).toNat).toInt) ((xs (i + 2).toNat).toInt) MX MR (inR_toInt _) (inR_toInt _) hI)) (cwV 2 hts (gd_V wm_L_44 wi_X8_next wl_X8_next wn_X8 wc_X8_next) rfl rfl rfl wd_X8_next ⟨Nat.le_of_ble_eq_true rfl, Nat.le_of_ble_eq_true rfl⟩) rfl hl.1 rfl (Nat.le_of_ble_eq_true rfl) dL_law_350 ⟨Nat.le_of_ble_eq_true rfl, Nat.le_of_ble_eq_true rfl⟩ (fun r1 MX H locs hr1 hw I => ?_)
        refine lv_aload_n hx hb dL_law_353 rfl (lv_at hl 2 rfl) ?_
        refine lv_aload_n hx hb dL_law_354 rfl (lv_at hl 0 rfl) ?_
        refine lv_iload_n hx hb dL_law_355 rfl (lv_at hl 3 rfl) ?_
        refine li_iconst hx hb dL_law_356 ?_
        refine li_iadd hx hb dL_law_357 ?_
        refine lw_sld hx hb hX hbl I (i := (i + 1)) ⟨by omega, by omega⟩ hL dL_law_358 ?_
        refine lv_aload_n hx hb dL_law_359 rfl (lv_at hl 0 rfl) ?_
        refine lv_iload_n hx hb dL_law_360 rfl (lv_at hl 3 rfl) ?_
        refine li_iconst hx hb dL_law_361 ?_
        refine li_iadd hx hb dL_law_362 ?_
        refine lw_sld hx hb hX hbl I (i := (i + 2)) ⟨by omega, by omega⟩ hL dL_law_363 ?_
        refine lw_callR (As := [.int (i32 (xs (i + 1).toNat).toInt), .int (i32 (xs (i + 2).toNat).toInt)]) (rest := [.int (i32 r1)]) ⟨hx, hb, hml, hown, hts⟩ I (mX9_next l g2 ((xs (i + 1).toNat).toInt) ((xs (i + 2).toNat).toInt) (inR_toInt _) (inR_toInt _) MR _ _ hw) (cwV 2 hts (gd_V wm_L_47 wi_X9_next wl_X9_next wn_X9 wc_X9_next) rfl rfl rfl wd_X9_next ⟨Nat.le_of_ble_eq_true rfl, Nat.le_of_ble_eq_true rfl⟩) rfl hl.1 rfl (Nat.le_of_ble_eq_true rfl) dL_law_364 ⟨Nat.le_of_ble_eq_true rfl, Nat.le_of_ble_eq_true rfl⟩ (fun r2 MR H locs hr2 hw I => ?_)
        refine li_icmp_eq (tgt := 953) hx hb dL_law_367 (by decide) hr1 hr2 (fun c1 => ?_) (fun c1 => absurd hw.1 c1)
        exact law_next hL C0 ih hi0 hi1 hw.2 I hl
      by_cases q8 : k = 8
      · subst q8
        refine li_tabIn (tgt := 372) hx hb dL_law_32 8 (by decide) rfl (by decide) (by decide) rfl (by decide) ?_
        refine lv_aload_n hx hb dL_law_372 rfl (lv_at hl 1 rfl) ?_
        refine lv_aload_n hx hb dL_law_373 rfl (lv_at hl 0 rfl) ?_
        refine lv_iload_n hx hb dL_law_374 rfl (lv_at hl 3 rfl) ?_
        refine li_iconst hx hb dL_law_375 ?_
        refine li_iadd hx hb dL_law_376 ?_
        refine lw_sld hx hb hX hbl I (i := (i + 1)) ⟨by omega, by omega⟩ hL dL_law_377 ?_
        refine lv_aload_n hx hb dL_law_378 rfl (lv_at hl 0 rfl) ?_
        refine lv_iload_n hx hb dL_law_379 rfl (lv_at hl 3 rfl) ?_
        refine li_iconst hx hb dL_law_380 ?_
        refine li_iadd hx hb dL_law_381 ?_
        refine lw_sld hx hb hX hbl I (i := (i + 2)) ⟨by omega, by omega⟩ hL dL_law_382 ?_
        refine lw_callX (As := [.int (i32 (xs (i + 1).toNat).toInt), .int (i32 (xs (i + 2).toNat).toInt)]) (rest := []) ⟨hx, hb, hml, hown, hts⟩ I (mX8_amount l g ((xs (i + 1).toNat).toInt) ((xs (i + 2).toNat).toInt) (inR_toInt _) (inR_toInt _) MX _ _ (h_amount ((xs (i + 1).toNat).toInt) ((xs (i + 2).toNat).toInt) MX MR (inR_toInt _) (inR_toInt _) hI)) (cwV 2 hts (gd_V wm_L_48 wi_X8_amount wl_X8_amount wn_X8 wc_X8_amount) rfl rfl rfl wd_X8_amount ⟨Nat.le_of_ble_eq_true rfl, Nat.le_of_ble_eq_true rfl⟩) rfl hl.1 rfl (Nat.le_of_ble_eq_true rfl) dL_law_383 ⟨Nat.le_of_ble_eq_true rfl, Nat.le_of_ble_eq_true rfl⟩ (fun r1 MX H locs hr1 hw I => ?_)
        refine lv_aload_n hx hb dL_law_386 rfl (lv_at hl 2 rfl) ?_
        refine lv_aload_n hx hb dL_law_387 rfl (lv_at hl 0 rfl) ?_
        refine lv_iload_n hx hb dL_law_388 rfl (lv_at hl 3 rfl) ?_
        refine li_iconst hx hb dL_law_389 ?_
        refine li_iadd hx hb dL_law_390 ?_
        refine lw_sld hx hb hX hbl I (i := (i + 1)) ⟨by omega, by omega⟩ hL dL_law_391 ?_
        refine lv_aload_n hx hb dL_law_392 rfl (lv_at hl 0 rfl) ?_
        refine lv_iload_n hx hb dL_law_393 rfl (lv_at hl 3 rfl) ?_
        refine li_iconst hx hb dL_law_394 ?_
        refine li_iadd hx hb dL_law_395 ?_
        refine lw_sld hx hb hX hbl I (i := (i + 2)) ⟨by omega, by omega⟩ hL dL_law_396 ?_
        refine lw_callR (As := [.int (i32 (xs (i + 1).toNat).toInt), .int (i32 (xs (i + 2).toNat).toInt)]) (rest := [.int (i32 r1)]) ⟨hx, hb, hml, hown, hts⟩ I (mX9_amount l g2 ((xs (i + 1).toNat).toInt) ((xs (i + 2).toNat).toInt) (inR_toInt _) (inR_toInt _) MR _ _ hw) (cwV 2 hts (gd_V wm_L_51 wi_X9_amount wl_X9_amount wn_X9 wc_X9_amount) rfl rfl rfl wd_X9_amount ⟨Nat.le_of_ble_eq_true rfl, Nat.le_of_ble_eq_true rfl⟩) rfl hl.1 rfl (Nat.le_of_ble_eq_true rfl) dL_law_397 ⟨Nat.le_of_ble_eq_true rfl, Nat.le_of_ble_eq_true rfl⟩ (fun r2 MR H locs hr2 hw I => ?_)
        refine li_icmp_eq (tgt := 953) hx hb dL_law_400 (by decide) hr1 hr2 (fun c1 => ?_) (fun c1 => absurd hw.1 c1)
        exact law_next hL C0 ih hi0 hi1 hw.2 I hl
      by_cases q9 : k = 9
      · subst q9
        refine li_tabIn (tgt := 405) hx hb dL_law_32 9 (by decide) rfl (by decide) (by decide) rfl (by decide) ?_
        refine lv_aload_n hx hb dL_law_405 rfl (lv_at hl 1 rfl) ?_
        refine lv_aload_n hx hb dL_law_406 rfl (lv_at hl 0 rfl) ?_
        refine lv_iload_n hx hb dL_law_407 rfl (lv_at hl 3 rfl) ?_
        refine li_iconst hx hb dL_law_408 ?_
        refine li_iadd hx hb dL_law_409 ?_
        refine lw_sld hx hb hX hbl I (i := (i + 1)) ⟨by omega, by omega⟩ hL dL_law_410 ?_
        refine lw_callX (As := [.int (i32 (xs (i + 1).toNat).toInt)]) (rest := []) ⟨hx, hb, hml, hown, hts⟩ I (mX8_sum l g ((xs (i + 1).toNat).toInt) (inR_toInt _) MX _ _ (h_sum ((xs (i + 1).toNat).toInt) MX MR (inR_toInt _) hI)) (cwV 1 hts (gd_V wm_L_52 wi_X8_sum wl_X8_sum wn_X8 wc_X8_sum) rfl rfl rfl wd_X8_sum ⟨Nat.le_of_ble_eq_true rfl, Nat.le_of_ble_eq_true rfl⟩) rfl hl.1 rfl (Nat.le_of_ble_eq_true rfl) dL_law_411 ⟨Nat.le_of_ble_eq_true rfl, Nat.le_of_ble_eq_true rfl⟩ (fun r1 MX H locs hr1 hw I => ?_)
        refine lv_aload_n hx hb dL_law_414 rfl (lv_at hl 2 rfl) ?_
        refine lv_aload_n hx hb dL_law_415 rfl (lv_at hl 0 rfl) ?_
        refine lv_iload_n hx hb dL_law_416 rfl (lv_at hl 3 rfl) ?_
        refine li_iconst hx hb dL_law_417 ?_
        refine li_iadd hx hb dL_law_418 ?_
        refine lw_sld hx hb hX hbl I (i := (i + 1)) ⟨by omega, by omega⟩ hL dL_law_419 ?_
        refine lw_callR (As := [.int (i32 (xs (i + 1).toNat).toInt)]) (rest := [.int (i32 r1)]) ⟨hx, hb, hml, hown, hts⟩ I (mX9_sum l g2 ((xs (i + 1).toNat).toInt) (inR_toInt _) MR _ _ hw) (cwV 1 hts (gd_V wm_L_56 wi_X9_sum wl_X9_sum wn_X9 wc_X9_sum) rfl rfl rfl wd_X9_sum ⟨Nat.le_of_ble_eq_true rfl, Nat.le_of_ble_eq_true rfl⟩) rfl hl.1 rfl (Nat.le_of_ble_eq_true rfl) dL_law_420 ⟨Nat.le_of_ble_eq_true rfl, Nat.le_of_ble_eq_true rfl⟩ (fun r2 MR H locs hr2 hw I => ?_)
        refine li_icmp_eq (tgt := 953) hx hb dL_law_423 (by decide) hr1 hr2 (fun c1 => ?_) (fun c1 => absurd hw.1 c1)
        exact law_next hL C0 ih hi0 hi1 hw.2 I hl
      by_cases q10 : k = 10
      · subst q10
        refine li_tabIn (tgt := 428) hx hb dL_law_32 10 (by decide) rfl (by decide) (by decide) rfl (by decide) ?_
        refine lv_aload_n hx hb dL_law_428 rfl (lv_at hl 1 rfl) ?_
        refine lv_aload_n hx hb dL_law_429 rfl (lv_at hl 0 rfl) ?_
        refine lv_iload_n hx hb dL_law_430 rfl (lv_at hl 3 rfl) ?_
        refine li_iconst hx hb dL_law_431 ?_
        refine li_iadd hx hb dL_law_432 ?_
        refine lw_sld hx hb hX hbl I (i := (i + 1)) ⟨by omega, by omega⟩ hL dL_law_433 ?_
        refine lv_aload_n hx hb dL_law_434 rfl (lv_at hl 0 rfl) ?_
        refine lv_iload_n hx hb dL_law_435 rfl (lv_at hl 3 rfl) ?_
        refine li_iconst hx hb dL_law_436 ?_
        refine li_iadd hx hb dL_law_437 ?_
        refine lw_sld hx hb hX hbl I (i := (i + 2)) ⟨by omega, by omega⟩ hL dL_law_438 ?_
        refine lw_callX (As := [.int (i32 (xs (i + 1).toNat).toInt), .int (i32 (xs (i + 2).toNat).toInt)]) (rest := []) ⟨hx, hb, hml, hown, hts⟩ I (mX8_least l g ((xs (i + 1).toNat).toInt) ((xs (i + 2).toNat).toInt) (inR_toInt _) (inR_toInt _) MX _ _ (h_least ((xs (i + 1).toNat).toInt) ((xs (i + 2).toNat).toInt) MX MR (inR_toInt _) (inR_toInt _) hI)) (cwV 2 hts (gd_V wm_L_57 wi_X8_least wl_X8_least wn_X8 wc_X8_least) rfl rfl rfl wd_X8_least ⟨Nat.le_of_ble_eq_true rfl, Nat.le_of_ble_eq_true rfl⟩) rfl hl.1 rfl (Nat.le_of_ble_eq_true rfl) dL_law_439 ⟨Nat.le_of_ble_eq_true rfl, Nat.le_of_ble_eq_true rfl⟩ (fun r1 MX H locs hr1 hw I => ?_)
        refine lv_aload_n hx hb dL_law_442 rfl (lv_at hl 2 rfl) ?_
        refine lv_aload_n hx hb dL_law_443 rfl (lv_at hl 0 rfl) ?_
        refine lv_iload_n hx hb dL_law_444 rfl (lv_at hl 3 rfl) ?_
        refine li_iconst hx hb dL_law_445 ?_
        refine li_iadd hx hb dL_law_446 ?_
        refine lw_sld hx hb hX hbl I (i := (i + 1)) ⟨by omega, by omega⟩ hL dL_law_447 ?_
        refine lv_aload_n hx hb dL_law_448 rfl (lv_at hl 0 rfl) ?_
        refine lv_iload_n hx hb dL_law_449 rfl (lv_at hl 3 rfl) ?_
        refine li_iconst hx hb dL_law_450 ?_
        refine li_iadd hx hb dL_law_451 ?_
        refine lw_sld hx hb hX hbl I (i := (i + 2)) ⟨by omega, by omega⟩ hL dL_law_452 ?_
        refine lw_callR (As := [.int (i32 (xs (i + 1).toNat).toInt), .int (i32 (xs (i + 2).toNat).toInt)]) (rest := [.int (i32 r1)]) ⟨hx, hb, hml, hown, hts⟩ I (mX9_least l g2 ((xs (i + 1).toNat).toInt) ((xs (i + 2).toNat).toInt) (inR_toInt _) (inR_toInt _) MR _ _ hw) (cwV 2 hts (gd_V wm_L_60 wi_X9_least wl_X9_least wn_X9 wc_X9_least) rfl rfl rfl wd_X9_least ⟨Nat.le_of_ble_eq_true rfl, Nat.le_of_ble_eq_true rfl⟩) rfl hl.1 rfl (Nat.le_of_ble_eq_true rfl) dL_law_453 ⟨Nat.le_of_ble_eq_true rfl, Nat.le_of_ble_eq_true rfl⟩ (fun r2 MR H locs hr2 hw I => ?_)
        refine li_icmp_eq (tgt := 953) hx hb dL_law_456 (by decide) hr1 hr2 (fun c1 => ?_) (fun c1 => absurd hw.1 c1)
        exact law_next hL C0 ih hi0 hi1 hw.2 I hl
      by_cases q11 : k = 11
      · subst q11
        refine li_tabIn (tgt := 461) hx hb dL_law_32 11 (by decide) rfl (by decide) (by decide) rfl (by decide) ?_
        refine lv_aload_n hx hb dL_law_461 rfl (lv_at hl 1 rfl) ?_
        refine lv_aload_n hx hb dL_law_462 rfl (lv_at hl 0 rfl) ?_
        refine lv_iload_n hx hb dL_law_463 rfl (lv_at hl 3 rfl) ?_
        refine li_iconst hx hb dL_law_464 ?_
        refine li_iadd hx hb dL_law_465 ?_
        refine lw_sld hx hb hX hbl I (i := (i + 1)) ⟨by omega, by omega⟩ hL dL_law_466 ?_
        refine lv_aload_n hx hb dL_law_467 rfl (lv_at hl 0 rfl) ?_
        refine lv_iload_n hx hb dL_law_468 rfl (lv_at hl 3 rfl) ?_
        refine li_iconst hx hb dL_law_469 ?_
        refine li_iadd hx hb dL_law_470 ?_
        refine lw_sld hx hb hX hbl I (i := (i + 2)) ⟨by omega, by omega⟩ hL dL_law_471 ?_
        refine lv_aload_n hx hb dL_law_472 rfl (lv_at hl 0 rfl) ?_
        refine lv_iload_n hx hb dL_law_473 rfl (lv_at hl 3 rfl) ?_
        refine li_iconst hx hb dL_law_474 ?_
        refine li_iadd hx hb dL_law_475 ?_
        refine lw_sld hx hb hX hbl I (i := (i + 3)) ⟨by omega, by omega⟩ hL dL_law_476 ?_
        refine lv_aload_n hx hb dL_law_477 rfl (lv_at hl 0 rfl) ?_
        refine lv_iload_n hx hb dL_law_478 rfl (lv_at hl 3 rfl) ?_
        refine li_iconst hx hb dL_law_479 ?_
        refine li_iadd hx hb dL_law_480 ?_
        refine lw_sld hx hb hX hbl I (i := (i + 4)) ⟨by omega, by omega⟩ hL dL_law_481 ?_
        refine lw_callX (As := [.int (i32 (xs (i + 1).toNat).toInt), .int (i32 (xs (i + 2).toNat).toInt), .int (i32 (xs (i + 3).toNat).toInt), .int (i32 (xs (i + 4).toNat).toInt)]) (rest := []) ⟨hx, hb, hml, hown, hts⟩ I (mX8_plan l g ((xs (i + 1).toNat).toInt) ((xs (i + 2).toNat).toInt) ((xs (i + 3).toNat).toInt) ((xs (i + 4).toNat).toInt) (inR_toInt _) (inR_toInt _) (inR_toInt _) (inR_toInt _) MX _ _ (h_plan ((xs (i + 1).toNat).toInt) ((xs (i + 2).toNat).toInt) ((xs (i + 3).toNat).toInt) ((xs (i + 4).toNat).toInt) MX MR (inR_toInt _) (inR_toInt _) (inR_toInt _) (inR_toInt _) hI)) (cwV 4 hts (gd_V wm_L_61 wi_X8_plan wl_X8_plan wn_X8 wc_X8_plan) rfl rfl rfl wd_X8_plan ⟨Nat.le_of_ble_eq_true rfl, Nat.le_of_ble_eq_true rfl⟩) rfl hl.1 rfl (Nat.le_of_ble_eq_true rfl) dL_law_482 ⟨Nat.le_of_ble_eq_true rfl, Nat.le_of_ble_eq_true rfl⟩ (fun r1 MX H locs hr1 hw I => ?_)
        refine lv_aload_n hx hb dL_law_485 rfl (lv_at hl 2 rfl) ?_
        refine lv_aload_n hx hb dL_law_486 rfl (lv_at hl 0 rfl) ?_
        refine lv_iload_n hx hb dL_law_487 rfl (lv_at hl 3 rfl) ?_
        refine li_iconst hx hb dL_law_488 ?_
        refine li_iadd hx hb dL_law_489 ?_
        refine lw_sld hx hb hX hbl I (i := (i + 1)) ⟨by omega, by omega⟩ hL dL_law_490 ?_
        refine lv_aload_n hx hb dL_law_491 rfl (lv_at hl 0 rfl) ?_
        refine lv_iload_n hx hb dL_law_492 rfl (lv_at hl 3 rfl) ?_
        refine li_iconst hx hb dL_law_493 ?_
        refine li_iadd hx hb dL_law_494 ?_
        refine lw_sld hx hb hX hbl I (i := (i + 2)) ⟨by omega, by omega⟩ hL dL_law_495 ?_
        refine lv_aload_n hx hb dL_law_496 rfl (lv_at hl 0 rfl) ?_
        refine lv_iload_n hx hb dL_law_497 rfl (lv_at hl 3 rfl) ?_
        refine li_iconst hx hb dL_law_498 ?_
        refine li_iadd hx hb dL_law_499 ?_
        refine lw_sld hx hb hX hbl I (i := (i + 3)) ⟨by omega, by omega⟩ hL dL_law_500 ?_
        refine lv_aload_n hx hb dL_law_501 rfl (lv_at hl 0 rfl) ?_
        refine lv_iload_n hx hb dL_law_502 rfl (lv_at hl 3 rfl) ?_
        refine li_iconst hx hb dL_law_503 ?_
        refine li_iadd hx hb dL_law_504 ?_
        refine lw_sld hx hb hX hbl I (i := (i + 4)) ⟨by omega, by omega⟩ hL dL_law_505 ?_
        refine lw_callR (As := [.int (i32 (xs (i + 1).toNat).toInt), .int (i32 (xs (i + 2).toNat).toInt), .int (i32 (xs (i + 3).toNat).toInt), .int (i32 (xs (i + 4).toNat).toInt)]) (rest := [.int (i32 r1)]) ⟨hx, hb, hml, hown, hts⟩ I (mX9_plan l g2 ((xs (i + 1).toNat).toInt) ((xs (i + 2).toNat).toInt) ((xs (i + 3).toNat).toInt) ((xs (i + 4).toNat).toInt) (inR_toInt _) (inR_toInt _) (inR_toInt _) (inR_toInt _) MR _ _ hw) (cwV 4 hts (gd_V wm_L_65 wi_X9_plan wl_X9_plan wn_X9 wc_X9_plan) rfl rfl rfl wd_X9_plan ⟨Nat.le_of_ble_eq_true rfl, Nat.le_of_ble_eq_true rfl⟩) rfl hl.1 rfl (Nat.le_of_ble_eq_true rfl) dL_law_506 ⟨Nat.le_of_ble_eq_true rfl, Nat.le_of_ble_eq_true rfl⟩ (fun r2 MR H locs hr2 hw I => ?_)
        refine li_icmp_eq (tgt := 953) hx hb dL_law_509 (by decide) hr1 hr2 (fun c1 => ?_) (fun c1 => absurd hw.1 c1)
        exact law_next hL C0 ih hi0 hi1 hw.2 I hl
      by_cases q12 : k = 12
      · subst q12
        refine li_tabIn (tgt := 514) hx hb dL_law_32 12 (by decide) rfl (by decide) (by decide) rfl (by decide) ?_
        refine lv_aload_n hx hb dL_law_514 rfl (lv_at hl 1 rfl) ?_
        refine lv_aload_n hx hb dL_law_515 rfl (lv_at hl 0 rfl) ?_
        refine lv_iload_n hx hb dL_law_516 rfl (lv_at hl 3 rfl) ?_
        refine li_iconst hx hb dL_law_517 ?_
        refine li_iadd hx hb dL_law_518 ?_
        refine lw_sld hx hb hX hbl I (i := (i + 1)) ⟨by omega, by omega⟩ hL dL_law_519 ?_
        refine lv_aload_n hx hb dL_law_520 rfl (lv_at hl 0 rfl) ?_
        refine lv_iload_n hx hb dL_law_521 rfl (lv_at hl 3 rfl) ?_
        refine li_iconst hx hb dL_law_522 ?_
        refine li_iadd hx hb dL_law_523 ?_
        refine lw_sld hx hb hX hbl I (i := (i + 2)) ⟨by omega, by omega⟩ hL dL_law_524 ?_
        refine lw_callX (As := [.int (i32 (xs (i + 1).toNat).toInt), .int (i32 (xs (i + 2).toNat).toInt)]) (rest := []) ⟨hx, hb, hml, hown, hts⟩ I (mX8_alone l g ((xs (i + 1).toNat).toInt) ((xs (i + 2).toNat).toInt) (inR_toInt _) (inR_toInt _) MX _ _ (h_alone ((xs (i + 1).toNat).toInt) ((xs (i + 2).toNat).toInt) MX MR (inR_toInt _) (inR_toInt _) hI)) (cwV 2 hts (gd_V wm_L_66 wi_X8_alone wl_X8_alone wn_X8 wc_X8_alone) rfl rfl rfl wd_X8_alone ⟨Nat.le_of_ble_eq_true rfl, Nat.le_of_ble_eq_true rfl⟩) rfl hl.1 rfl (Nat.le_of_ble_eq_true rfl) dL_law_525 ⟨Nat.le_of_ble_eq_true rfl, Nat.le_of_ble_eq_true rfl⟩ (fun r1 MX H locs hr1 hw I => ?_)
        refine lv_aload_n hx hb dL_law_528 rfl (lv_at hl 2 rfl) ?_
        refine lv_aload_n hx hb dL_law_529 rfl (lv_at hl 0 rfl) ?_
        refine lv_iload_n hx hb dL_law_530 rfl (lv_at hl 3 rfl) ?_
        refine li_iconst hx hb dL_law_531 ?_
        refine li_iadd hx hb dL_law_532 ?_
        refine lw_sld hx hb hX hbl I (i := (i + 1)) ⟨by omega, by omega⟩ hL dL_law_533 ?_
        refine lv_aload_n hx hb dL_law_534 rfl (lv_at hl 0 rfl) ?_
        refine lv_iload_n hx hb dL_law_535 rfl (lv_at hl 3 rfl) ?_
        refine li_iconst hx hb dL_law_536 ?_
        refine li_iadd hx hb dL_law_537 ?_
        refine lw_sld hx hb hX hbl I (i := (i + 2)) ⟨by omega, by omega⟩ hL dL_law_538 ?_
        refine lw_callR (As := [.int (i32 (xs (i + 1).toNat).toInt), .int (i32 (xs (i + 2).toNat).toInt)]) (rest := [.int (i32 r1)]) ⟨hx, hb, hml, hown, hts⟩ I (mX9_alone l g2 ((xs (i + 1).toNat).toInt) ((xs (i + 2).toNat).toInt) (inR_toInt _) (inR_toInt _) MR _ _ hw) (cwV 2 hts (gd_V wm_L_69 wi_X9_alone wl_X9_alone wn_X9 wc_X9_alone) rfl rfl rfl wd_X9_alone ⟨Nat.le_of_ble_eq_true rfl, Nat.le_of_ble_eq_true rfl⟩) rfl hl.1 rfl (Nat.le_of_ble_eq_true rfl) dL_law_539 ⟨Nat.le_of_ble_eq_true rfl, Nat.le_of_ble_eq_true rfl⟩ (fun r2 MR H locs hr2 hw I => ?_)
        refine li_icmp_eq (tgt := 953) hx hb dL_law_542 (by decide) hr1 hr2 (fun c1 => ?_) (fun c1 => absurd hw.1 c1)
        exact law_next hL C0 ih hi0 hi1 hw.2 I hl
      by_cases q13 : k = 13
      · subst q13
        refine li_tabIn (tgt := 547) hx hb dL_law_32 13 (by decide) rfl (by decide) (by decide) rfl (by decide) ?_
        refine lv_aload_n hx hb dL_law_547 rfl (lv_at hl 1 rfl) ?_
        refine lv_aload_n hx hb dL_law_548 rfl (lv_at hl 0 rfl) ?_
        refine lv_iload_n hx hb dL_law_549 rfl (lv_at hl 3 rfl) ?_
        refine li_iconst hx hb dL_law_550 ?_
        refine li_iadd hx hb dL_law_551 ?_
        refine lw_sld hx hb hX hbl I (i := (i + 1)) ⟨by omega, by omega⟩ hL dL_law_552 ?_
        refine lv_aload_n hx hb dL_law_553 rfl (lv_at hl 0 rfl) ?_
        refine lv_iload_n hx hb dL_law_554 rfl (lv_at hl 3 rfl) ?_
        refine li_iconst hx hb dL_law_555 ?_
        refine li_iadd hx hb dL_law_556 ?_
        refine lw_sld hx hb hX hbl I (i := (i + 2)) ⟨by omega, by omega⟩ hL dL_law_557 ?_
        refine lv_aload_n hx hb dL_law_558 rfl (lv_at hl 0 rfl) ?_
        refine lv_iload_n hx hb dL_law_559 rfl (lv_at hl 3 rfl) ?_
        refine li_iconst hx hb dL_law_560 ?_
        refine li_iadd hx hb dL_law_561 ?_
        refine lw_sld hx hb hX hbl I (i := (i + 3)) ⟨by omega, by omega⟩ hL dL_law_562 ?_
        refine lw_callX (As := [.int (i32 (xs (i + 1).toNat).toInt), .int (i32 (xs (i + 2).toNat).toInt), .int (i32 (xs (i + 3).toNat).toInt)]) (rest := []) ⟨hx, hb, hml, hown, hts⟩ I (mX8_height l g ((xs (i + 1).toNat).toInt) ((xs (i + 2).toNat).toInt) ((xs (i + 3).toNat).toInt) (inR_toInt _) (inR_toInt _) (inR_toInt _) MX _ _ (h_height ((xs (i + 1).toNat).toInt) ((xs (i + 2).toNat).toInt) ((xs (i + 3).toNat).toInt) MX MR (inR_toInt _) (inR_toInt _) (inR_toInt _) hI)) (cwV 3 hts (gd_V wm_L_70 wi_X8_height wl_X8_height wn_X8 wc_X8_height) rfl rfl rfl wd_X8_height ⟨Nat.le_of_ble_eq_true rfl, Nat.le_of_ble_eq_true rfl⟩) rfl hl.1 rfl (Nat.le_of_ble_eq_true rfl) dL_law_563 ⟨Nat.le_of_ble_eq_true rfl, Nat.le_of_ble_eq_true rfl⟩ (fun r1 MX H locs hr1 hw I => ?_)
        refine lv_aload_n hx hb dL_law_566 rfl (lv_at hl 2 rfl) ?_
        refine lv_aload_n hx hb dL_law_567 rfl (lv_at hl 0 rfl) ?_
        refine lv_iload_n hx hb dL_law_568 rfl (lv_at hl 3 rfl) ?_
        refine li_iconst hx hb dL_law_569 ?_
        refine li_iadd hx hb dL_law_570 ?_
        refine lw_sld hx hb hX hbl I (i := (i + 1)) ⟨by omega, by omega⟩ hL dL_law_571 ?_
        refine lv_aload_n hx hb dL_law_572 rfl (lv_at hl 0 rfl) ?_
        refine lv_iload_n hx hb dL_law_573 rfl (lv_at hl 3 rfl) ?_
        refine li_iconst hx hb dL_law_574 ?_
        refine li_iadd hx hb dL_law_575 ?_
        refine lw_sld hx hb hX hbl I (i := (i + 2)) ⟨by omega, by omega⟩ hL dL_law_576 ?_
        refine lv_aload_n hx hb dL_law_577 rfl (lv_at hl 0 rfl) ?_
        refine lv_iload_n hx hb dL_law_578 rfl (lv_at hl 3 rfl) ?_
        refine li_iconst hx hb dL_law_579 ?_
        refine li_iadd hx hb dL_law_580 ?_
        refine lw_sld hx hb hX hbl I (i := (i + 3)) ⟨by omega, by omega⟩ hL dL_law_581 ?_
        refine lw_callR (As := [.int (i32 (xs (i + 1).toNat).toInt), .int (i32 (xs (i + 2).toNat).toInt), .int (i32 (xs (i + 3).toNat).toInt)]) (rest := [.int (i32 r1)]) ⟨hx, hb, hml, hown, hts⟩ I (mX9_height l g2 ((xs (i + 1).toNat).toInt) ((xs (i + 2).toNat).toInt) ((xs (i + 3).toNat).toInt) (inR_toInt _) (inR_toInt _) (inR_toInt _) MR _ _ hw) (cwV 3 hts (gd_V wm_L_73 wi_X9_height wl_X9_height wn_X9 wc_X9_height) rfl rfl rfl wd_X9_height ⟨Nat.le_of_ble_eq_true rfl, Nat.le_of_ble_eq_true rfl⟩) rfl hl.1 rfl (Nat.le_of_ble_eq_true rfl) dL_law_582 ⟨Nat.le_of_ble_eq_true rfl, Nat.le_of_ble_eq_true rfl⟩ (fun r2 MR H locs hr2 hw I => ?_)
        refine li_icmp_eq (tgt := 953) hx hb dL_law_585 (by decide) hr1 hr2 (fun c1 => ?_) (fun c1 => absurd hw.1 c1)
        exact law_next hL C0 ih hi0 hi1 hw.2 I hl
      by_cases q14 : k = 14
      · subst q14
        refine li_tabIn (tgt := 590) hx hb dL_law_32 14 (by decide) rfl (by decide) (by decide) rfl (by decide) ?_
        refine lv_aload_n hx hb dL_law_590 rfl (lv_at hl 1 rfl) ?_
        refine lv_aload_n hx hb dL_law_591 rfl (lv_at hl 0 rfl) ?_
        refine lv_iload_n hx hb dL_law_592 rfl (lv_at hl 3 rfl) ?_
        refine li_iconst hx hb dL_law_593 ?_
        refine li_iadd hx hb dL_law_594 ?_
        refine lw_sld hx hb hX hbl I (i := (i + 1)) ⟨by omega, by omega⟩ hL dL_law_595 ?_
        refine lv_aload_n hx hb dL_law_596 rfl (lv_at hl 0 rfl) ?_
        refine lv_iload_n hx hb dL_law_597 rfl (lv_at hl 3 rfl) ?_
        refine li_iconst hx hb dL_law_598 ?_
        refine li_iadd hx hb dL_law_599 ?_
        refine lw_sld hx hb hX hbl I (i := (i + 2)) ⟨by omega, by omega⟩ hL dL_law_600 ?_
        refine lv_aload_n hx hb dL_law_601 rfl (lv_at hl 0 rfl) ?_
        refine lv_iload_n hx hb dL_law_602 rfl (lv_at hl 3 rfl) ?_
        refine li_iconst hx hb dL_law_603 ?_
        refine li_iadd hx hb dL_law_604 ?_
        refine lw_sld hx hb hX hbl I (i := (i + 3)) ⟨by omega, by omega⟩ hL dL_law_605 ?_
        refine lv_aload_n hx hb dL_law_606 rfl (lv_at hl 0 rfl) ?_
        refine lv_iload_n hx hb dL_law_607 rfl (lv_at hl 3 rfl) ?_
        refine li_iconst hx hb dL_law_608 ?_
        refine li_iadd hx hb dL_law_609 ?_
        refine lw_sld hx hb hX hbl I (i := (i + 4)) ⟨by omega, by omega⟩ hL dL_law_610 ?_
        refine lw_callX (As := [.int (i32 (xs (i + 1).toNat).toInt), .int (i32 (xs (i + 2).toNat).toInt), .int (i32 (xs (i + 3).toNat).toInt), .int (i32 (xs (i + 4).toNat).toInt)]) (rest := []) ⟨hx, hb, hml, hown, hts⟩ I (mX8_load l g ((xs (i + 1).toNat).toInt) ((xs (i + 2).toNat).toInt) ((xs (i + 3).toNat).toInt) ((xs (i + 4).toNat).toInt) (inR_toInt _) (inR_toInt _) (inR_toInt _) (inR_toInt _) MX _ _ (h_load ((xs (i + 1).toNat).toInt) ((xs (i + 2).toNat).toInt) ((xs (i + 3).toNat).toInt) ((xs (i + 4).toNat).toInt) MX MR (inR_toInt _) (inR_toInt _) (inR_toInt _) (inR_toInt _) hI)) (cwV 4 hts (gd_V wm_L_74 wi_X8_load wl_X8_load wn_X8 wc_X8_load) rfl rfl rfl wd_X8_load ⟨Nat.le_of_ble_eq_true rfl, Nat.le_of_ble_eq_true rfl⟩) rfl hl.1 rfl (Nat.le_of_ble_eq_true rfl) dL_law_611 ⟨Nat.le_of_ble_eq_true rfl, Nat.le_of_ble_eq_true rfl⟩ (fun r1 MX H locs hr1 hw I => ?_)
        refine lv_aload_n hx hb dL_law_614 rfl (lv_at hl 2 rfl) ?_
        refine lv_aload_n hx hb dL_law_615 rfl (lv_at hl 0 rfl) ?_
        refine lv_iload_n hx hb dL_law_616 rfl (lv_at hl 3 rfl) ?_
        refine li_iconst hx hb dL_law_617 ?_
        refine li_iadd hx hb dL_law_618 ?_
        refine lw_sld hx hb hX hbl I (i := (i + 1)) ⟨by omega, by omega⟩ hL dL_law_619 ?_
        refine lv_aload_n hx hb dL_law_620 rfl (lv_at hl 0 rfl) ?_
        refine lv_iload_n hx hb dL_law_621 rfl (lv_at hl 3 rfl) ?_
        refine li_iconst hx hb dL_law_622 ?_
        refine li_iadd hx hb dL_law_623 ?_
        refine lw_sld hx hb hX hbl I (i := (i + 2)) ⟨by omega, by omega⟩ hL dL_law_624 ?_
        refine lv_aload_n hx hb dL_law_625 rfl (lv_at hl 0 rfl) ?_
        refine lv_iload_n hx hb dL_law_626 rfl (lv_at hl 3 rfl) ?_
        refine li_iconst hx hb dL_law_627 ?_
        refine li_iadd hx hb dL_law_628 ?_
        refine lw_sld hx hb hX hbl I (i := (i + 3)) ⟨by omega, by omega⟩ hL dL_law_629 ?_
        refine lv_aload_n hx hb dL_law_630 rfl (lv_at hl 0 rfl) ?_
        refine lv_iload_n hx hb dL_law_631 rfl (lv_at hl 3 rfl) ?_
        refine li_iconst hx hb dL_law_632 ?_
        refine li_iadd hx hb dL_law_633 ?_
        refine lw_sld hx hb hX hbl I (i := (i + 4)) ⟨by omega, by omega⟩ hL dL_law_634 ?_
        refine lw_callR (As := [.int (i32 (xs (i + 1).toNat).toInt), .int (i32 (xs (i + 2).toNat).toInt), .int (i32 (xs (i + 3).toNat).toInt), .int (i32 (xs (i + 4).toNat).toInt)]) (rest := [.int (i32 r1)]) ⟨hx, hb, hml, hown, hts⟩ I (mX9_load l g2 ((xs (i + 1).toNat).toInt) ((xs (i + 2).toNat).toInt) ((xs (i + 3).toNat).toInt) ((xs (i + 4).toNat).toInt) (inR_toInt _) (inR_toInt _) (inR_toInt _) (inR_toInt _) MR _ _ hw) (cwV 4 hts (gd_V wm_L_77 wi_X9_load wl_X9_load wn_X9 wc_X9_load) rfl rfl rfl wd_X9_load ⟨Nat.le_of_ble_eq_true rfl, Nat.le_of_ble_eq_true rfl⟩) rfl hl.1 rfl (Nat.le_of_ble_eq_true rfl) dL_law_635 ⟨Nat.le_of_ble_eq_true rfl, Nat.le_of_ble_eq_true rfl⟩ (fun r2 MR H locs hr2 hw I => ?_)
        refine li_icmp_eq (tgt := 953) hx hb dL_law_638 (by decide) hr1 hr2 (fun c1 => ?_) (fun c1 => absurd hw.1 c1)
        exact law_next hL C0 ih hi0 hi1 hw.2 I hl
      by_cases q15 : k = 15
      · subst q15
        refine li_tabIn (tgt := 643) hx hb dL_law_32 15 (by decide) rfl (by decide) (by decide) rfl (by decide) ?_
        refine lv_aload_n hx hb dL_law_643 rfl (lv_at hl 1 rfl) ?_
        refine lv_aload_n hx hb dL_law_644 rfl (lv_at hl 0 rfl) ?_
        refine lv_iload_n hx hb dL_law_645 rfl (lv_at hl 3 rfl) ?_
        refine li_iconst hx hb dL_law_646 ?_
        refine li_iadd hx hb dL_law_647 ?_
        refine lw_sld hx hb hX hbl I (i := (i + 1)) ⟨by omega, by omega⟩ hL dL_law_648 ?_
        refine lv_aload_n hx hb dL_law_649 rfl (lv_at hl 0 rfl) ?_
        refine lv_iload_n hx hb dL_law_650 rfl (lv_at hl 3 rfl) ?_
        refine li_iconst hx hb dL_law_651 ?_
        refine li_iadd hx hb dL_law_652 ?_
        refine lw_sld hx hb hX hbl I (i := (i + 2)) ⟨by omega, by omega⟩ hL dL_law_653 ?_
        refine lw_callX (As := [.int (i32 (xs (i + 1).toNat).toInt), .int (i32 (xs (i + 2).toNat).toInt)]) (rest := []) ⟨hx, hb, hml, hown, hts⟩ I (mX8_far l g ((xs (i + 1).toNat).toInt) ((xs (i + 2).toNat).toInt) (inR_toInt _) (inR_toInt _) MX _ _ (h_far ((xs (i + 1).toNat).toInt) ((xs (i + 2).toNat).toInt) MX MR (inR_toInt _) (inR_toInt _) hI)) (cwV 2 hts (gd_V wm_L_78 wi_X8_far wl_X8_far wn_X8 wc_X8_far) rfl rfl rfl wd_X8_far ⟨Nat.le_of_ble_eq_true rfl, Nat.le_of_ble_eq_true rfl⟩) rfl hl.1 rfl (Nat.le_of_ble_eq_true rfl) dL_law_654 ⟨Nat.le_of_ble_eq_true rfl, Nat.le_of_ble_eq_true rfl⟩ (fun r1 MX H locs hr1 hw I => ?_)
        refine lv_aload_n hx hb dL_law_657 rfl (lv_at hl 2 rfl) ?_
        refine lv_aload_n hx hb dL_law_658 rfl (lv_at hl 0 rfl) ?_
        refine lv_iload_n hx hb dL_law_659 rfl (lv_at hl 3 rfl) ?_
        refine li_iconst hx hb dL_law_660 ?_
        refine li_iadd hx hb dL_law_661 ?_
        refine lw_sld hx hb hX hbl I (i := (i + 1)) ⟨by omega, by omega⟩ hL dL_law_662 ?_
        refine lv_aload_n hx hb dL_law_663 rfl (lv_at hl 0 rfl) ?_
        refine lv_iload_n hx hb dL_law_664 rfl (lv_at hl 3 rfl) ?_
        refine li_iconst hx hb dL_law_665 ?_
        refine li_iadd hx hb dL_law_666 ?_
        refine lw_sld hx hb hX hbl I (i := (i + 2)) ⟨by omega, by omega⟩ hL dL_law_667 ?_
        refine lw_callR (As := [.int (i32 (xs (i + 1).toNat).toInt), .int (i32 (xs (i + 2).toNat).toInt)]) (rest := [.int (i32 r1)]) ⟨hx, hb, hml, hown, hts⟩ I (mX9_far l g2 ((xs (i + 1).toNat).toInt) ((xs (i + 2).toNat).toInt) (inR_toInt _) (inR_toInt _) MR _ _ hw) (cwV 2 hts (gd_V wm_L_81 wi_X9_far wl_X9_far wn_X9 wc_X9_far) rfl rfl rfl wd_X9_far ⟨Nat.le_of_ble_eq_true rfl, Nat.le_of_ble_eq_true rfl⟩) rfl hl.1 rfl (Nat.le_of_ble_eq_true rfl) dL_law_668 ⟨Nat.le_of_ble_eq_true rfl, Nat.le_of_ble_eq_true rfl⟩ (fun r2 MR H locs hr2 hw I => ?_)
        refine li_icmp_eq (tgt := 953) hx hb dL_law_671 (by decide) hr1 hr2 (fun c1 => ?_) (fun c1 => absurd hw.1 c1)
        exact law_next hL C0 ih hi0 hi1 hw.2 I hl
      by_cases q16 : k = 16
      · subst q16
        refine li_tabIn (tgt := 676) hx hb dL_law_32 16 (by decide) rfl (by decide) (by decide) rfl (by decide) ?_
        refine lv_aload_n hx hb dL_law_676 rfl (lv_at hl 1 rfl) ?_
        refine lv_aload_n hx hb dL_law_677 rfl (lv_at hl 0 rfl) ?_
        refine lv_iload_n hx hb dL_law_678 rfl (lv_at hl 3 rfl) ?_
        refine li_iconst hx hb dL_law_679 ?_
        refine li_iadd hx hb dL_law_680 ?_
        refine lw_sld hx hb hX hbl I (i := (i + 1)) ⟨by omega, by omega⟩ hL dL_law_681 ?_
        refine lv_aload_n hx hb dL_law_682 rfl (lv_at hl 0 rfl) ?_
        refine lv_iload_n hx hb dL_law_683 rfl (lv_at hl 3 rfl) ?_
        refine li_iconst hx hb dL_law_684 ?_
        refine li_iadd hx hb dL_law_685 ?_
        refine lw_sld hx hb hX hbl I (i := (i + 2)) ⟨by omega, by omega⟩ hL dL_law_686 ?_
        refine lv_aload_n hx hb dL_law_687 rfl (lv_at hl 0 rfl) ?_
        refine lv_iload_n hx hb dL_law_688 rfl (lv_at hl 3 rfl) ?_
        refine li_iconst hx hb dL_law_689 ?_
        refine li_iadd hx hb dL_law_690 ?_
        refine lw_sld hx hb hX hbl I (i := (i + 3)) ⟨by omega, by omega⟩ hL dL_law_691 ?_
        refine lw_callX (As := [.int (i32 (xs (i + 1).toNat).toInt), .int (i32 (xs (i + 2).toNat).toInt), .int (i32 (xs (i + 3).toNat).toInt)]) (rest := []) ⟨hx, hb, hml, hown, hts⟩ I (mX8_shown l g ((xs (i + 1).toNat).toInt) ((xs (i + 2).toNat).toInt) ((xs (i + 3).toNat).toInt) (inR_toInt _) (inR_toInt _) (inR_toInt _) MX _ _ (h_shown ((xs (i + 1).toNat).toInt) ((xs (i + 2).toNat).toInt) ((xs (i + 3).toNat).toInt) MX MR (inR_toInt _) (inR_toInt _) (inR_toInt _) hI)) (cwV 3 hts (gd_V wm_L_82 wi_X8_shown wl_X8_shown wn_X8 wc_X8_shown) rfl rfl rfl wd_X8_shown ⟨Nat.le_of_ble_eq_true rfl, Nat.le_of_ble_eq_true rfl⟩) rfl hl.1 rfl (Nat.le_of_ble_eq_true rfl) dL_law_692 ⟨Nat.le_of_ble_eq_true rfl, Nat.le_of_ble_eq_true rfl⟩ (fun r1 MX H locs hr1 hw I => ?_)
        refine lv_aload_n hx hb dL_law_695 rfl (lv_at hl 2 rfl) ?_
        refine lv_aload_n hx hb dL_law_696 rfl (lv_at hl 0 rfl) ?_
        refine lv_iload_n hx hb dL_law_697 rfl (lv_at hl 3 rfl) ?_
        refine li_iconst hx hb dL_law_698 ?_
        refine li_iadd hx hb dL_law_699 ?_
        refine lw_sld hx hb hX hbl I (i := (i + 1)) ⟨by omega, by omega⟩ hL dL_law_700 ?_
        refine lv_aload_n hx hb dL_law_701 rfl (lv_at hl 0 rfl) ?_
        refine lv_iload_n hx hb dL_law_702 rfl (lv_at hl 3 rfl) ?_
        refine li_iconst hx hb dL_law_703 ?_
        refine li_iadd hx hb dL_law_704 ?_
        refine lw_sld hx hb hX hbl I (i := (i + 2)) ⟨by omega, by omega⟩ hL dL_law_705 ?_
        refine lv_aload_n hx hb dL_law_706 rfl (lv_at hl 0 rfl) ?_
        refine lv_iload_n hx hb dL_law_707 rfl (lv_at hl 3 rfl) ?_
        refine li_iconst hx hb dL_law_708 ?_
        refine li_iadd hx hb dL_law_709 ?_
        refine lw_sld hx hb hX hbl I (i := (i + 3)) ⟨by omega, by omega⟩ hL dL_law_710 ?_
        refine lw_callR (As := [.int (i32 (xs (i + 1).toNat).toInt), .int (i32 (xs (i + 2).toNat).toInt), .int (i32 (xs (i + 3).toNat).toInt)]) (rest := [.int (i32 r1)]) ⟨hx, hb, hml, hown, hts⟩ I (mX9_shown l g2 ((xs (i + 1).toNat).toInt) ((xs (i + 2).toNat).toInt) ((xs (i + 3).toNat).toInt) (inR_toInt _) (inR_toInt _) (inR_toInt _) MR _ _ hw) (cwV 3 hts (gd_V wm_L_85 wi_X9_shown wl_X9_shown wn_X9 wc_X9_shown) rfl rfl rfl wd_X9_shown ⟨Nat.le_of_ble_eq_true rfl, Nat.le_of_ble_eq_true rfl⟩) rfl hl.1 rfl (Nat.le_of_ble_eq_true rfl) dL_law_711 ⟨Nat.le_of_ble_eq_true rfl, Nat.le_of_ble_eq_true rfl⟩ (fun r2 MR H locs hr2 hw I => ?_)
        refine li_icmp_eq (tgt := 953) hx hb dL_law_714 (by decide) hr1 hr2 (fun c1 => ?_) (fun c1 => absurd hw.1 c1)
        exact law_next hL C0 ih hi0 hi1 hw.2 I hl
      by_cases q17 : k = 17
      · subst q17
        refine li_tabIn (tgt := 719) hx hb dL_law_32 17 (by decide) rfl (by decide) (by decide) rfl (by decide) ?_
        refine lv_aload_n hx hb dL_law_719 rfl (lv_at hl 1 rfl) ?_
        refine lv_aload_n hx hb dL_law_720 rfl (lv_at hl 0 rfl) ?_
        refine lv_iload_n hx hb dL_law_721 rfl (lv_at hl 3 rfl) ?_
        refine li_iconst hx hb dL_law_722 ?_
        refine li_iadd hx hb dL_law_723 ?_
        refine lw_sld hx hb hX hbl I (i := (i + 1)) ⟨by omega, by omega⟩ hL dL_law_724 ?_
        refine lv_aload_n hx hb dL_law_725 rfl (lv_at hl 0 rfl) ?_
        refine lv_iload_n hx hb dL_law_726 rfl (lv_at hl 3 rfl) ?_
        refine li_iconst hx hb dL_law_727 ?_
        refine li_iadd hx hb dL_law_728 ?_
        refine lw_sld hx hb hX hbl I (i := (i + 2)) ⟨by omega, by omega⟩ hL dL_law_729 ?_
        refine lv_aload_n hx hb dL_law_730 rfl (lv_at hl 0 rfl) ?_
        refine lv_iload_n hx hb dL_law_731 rfl (lv_at hl 3 rfl) ?_
        refine li_iconst hx hb dL_law_732 ?_
        refine li_iadd hx hb dL_law_733 ?_
        refine lw_sld hx hb hX hbl I (i := (i + 3)) ⟨by omega, by omega⟩ hL dL_law_734 ?_
        refine lw_callX (As := [.int (i32 (xs (i + 1).toNat).toInt), .int (i32 (xs (i + 2).toNat).toInt), .int (i32 (xs (i + 3).toNat).toInt)]) (rest := []) ⟨hx, hb, hml, hown, hts⟩ I (mX8_some l g ((xs (i + 1).toNat).toInt) ((xs (i + 2).toNat).toInt) ((xs (i + 3).toNat).toInt) (inR_toInt _) (inR_toInt _) (inR_toInt _) MX _ _ (h_some ((xs (i + 1).toNat).toInt) ((xs (i + 2).toNat).toInt) ((xs (i + 3).toNat).toInt) MX MR (inR_toInt _) (inR_toInt _) (inR_toInt _) hI)) (cwV 3 hts (gd_V wm_L_86 wi_X8_some wl_X8_some wn_X8 wc_X8_some) rfl rfl rfl wd_X8_some ⟨Nat.le_of_ble_eq_true rfl, Nat.le_of_ble_eq_true rfl⟩) rfl hl.1 rfl (Nat.le_of_ble_eq_true rfl) dL_law_735 ⟨Nat.le_of_ble_eq_true rfl, Nat.le_of_ble_eq_true rfl⟩ (fun r1 MX H locs hr1 hw I => ?_)
        refine lv_aload_n hx hb dL_law_738 rfl (lv_at hl 2 rfl) ?_
        refine lv_aload_n hx hb dL_law_739 rfl (lv_at hl 0 rfl) ?_
        refine lv_iload_n hx hb dL_law_740 rfl (lv_at hl 3 rfl) ?_
        refine li_iconst hx hb dL_law_741 ?_
        refine li_iadd hx hb dL_law_742 ?_
        refine lw_sld hx hb hX hbl I (i := (i + 1)) ⟨by omega, by omega⟩ hL dL_law_743 ?_
        refine lv_aload_n hx hb dL_law_744 rfl (lv_at hl 0 rfl) ?_
        refine lv_iload_n hx hb dL_law_745 rfl (lv_at hl 3 rfl) ?_
        refine li_iconst hx hb dL_law_746 ?_
        refine li_iadd hx hb dL_law_747 ?_
        refine lw_sld hx hb hX hbl I (i := (i + 2)) ⟨by omega, by omega⟩ hL dL_law_748 ?_
        refine lv_aload_n hx hb dL_law_749 rfl (lv_at hl 0 rfl) ?_
        refine lv_iload_n hx hb dL_law_750 rfl (lv_at hl 3 rfl) ?_
        refine li_iconst hx hb dL_law_751 ?_
        refine li_iadd hx hb dL_law_752 ?_
        refine lw_sld hx hb hX hbl I (i := (i + 3)) ⟨by omega, by omega⟩ hL dL_law_753 ?_
        refine lw_callR (As := [.int (i32 (xs (i + 1).toNat).toInt), .int (i32 (xs (i + 2).toNat).toInt), .int (i32 (xs (i + 3).toNat).toInt)]) (rest := [.int (i32 r1)]) ⟨hx, hb, hml, hown, hts⟩ I (mX9_some l g2 ((xs (i + 1).toNat).toInt) ((xs (i + 2).toNat).toInt) ((xs (i + 3).toNat).toInt) (inR_toInt _) (inR_toInt _) (inR_toInt _) MR _ _ hw) (cwV 3 hts (gd_V wm_L_89 wi_X9_some wl_X9_some wn_X9 wc_X9_some) rfl rfl rfl wd_X9_some ⟨Nat.le_of_ble_eq_true rfl, Nat.le_of_ble_eq_true rfl⟩) rfl hl.1 rfl (Nat.le_of_ble_eq_true rfl) dL_law_754 ⟨Nat.le_of_ble_eq_true rfl, Nat.le_of_ble_eq_true rfl⟩ (fun r2 MR H locs hr2 hw I => ?_)
        refine li_icmp_eq (tgt := 953) hx hb dL_law_757 (by decide) hr1 hr2 (fun c1 => ?_) (fun c1 => absurd hw.1 c1)
        exact law_next hL C0 ih hi0 hi1 hw.2 I hl
      by_cases q18 : k = 18
      · subst q18
        refine li_tabIn (tgt := 762) hx hb dL_law_32 18 (by decide) rfl (by decide) (by decide) rfl (by decide) ?_
        refine lv_aload_n hx hb dL_law_762 rfl (lv_at hl 1 rfl) ?_
        refine lv_aload_n hx hb dL_law_763 rfl (lv_at hl 0 rfl) ?_
        refine lv_iload_n hx hb dL_law_764 rfl (lv_at hl 3 rfl) ?_
        refine li_iconst hx hb dL_law_765 ?_
        refine li_iadd hx hb dL_law_766 ?_
        refine lw_sld hx hb hX hbl I (i := (i + 1)) ⟨by omega, by omega⟩ hL dL_law_767 ?_
        refine lv_aload_n hx hb dL_law_768 rfl (lv_at hl 0 rfl) ?_
        refine lv_iload_n hx hb dL_law_769 rfl (lv_at hl 3 rfl) ?_
        refine li_iconst hx hb dL_law_770 ?_
        refine li_iadd hx hb dL_law_771 ?_
        refine lw_sld hx hb hX hbl I (i := (i + 2)) ⟨by omega, by omega⟩ hL dL_law_772 ?_
        refine lw_callX (As := [.int (i32 (xs (i + 1).toNat).toInt), .int (i32 (xs (i + 2).toNat).toInt)]) (rest := []) ⟨hx, hb, hml, hown, hts⟩ I (mX8_gated l g ((xs (i + 1).toNat).toInt) ((xs (i + 2).toNat).toInt) (inR_toInt _) (inR_toInt _) MX _ _ (h_gated ((xs (i + 1).toNat).toInt) ((xs (i + 2).toNat).toInt) MX MR (inR_toInt _) (inR_toInt _) hI)) (cwV 2 hts (gd_V wm_L_90 wi_X8_gated wl_X8_gated wn_X8 wc_X8_gated) rfl rfl rfl wd_X8_gated ⟨Nat.le_of_ble_eq_true rfl, Nat.le_of_ble_eq_true rfl⟩) rfl hl.1 rfl (Nat.le_of_ble_eq_true rfl) dL_law_773 ⟨Nat.le_of_ble_eq_true rfl, Nat.le_of_ble_eq_true rfl⟩ (fun r1 MX H locs hr1 hw I => ?_)
        refine lv_aload_n hx hb dL_law_776 rfl (lv_at hl 2 rfl) ?_
        refine lv_aload_n hx hb dL_law_777 rfl (lv_at hl 0 rfl) ?_
        refine lv_iload_n hx hb dL_law_778 rfl (lv_at hl 3 rfl) ?_
        refine li_iconst hx hb dL_law_779 ?_
        refine li_iadd hx hb dL_law_780 ?_
        refine lw_sld hx hb hX hbl I (i := (i + 1)) ⟨by omega, by omega⟩ hL dL_law_781 ?_
        refine lv_aload_n hx hb dL_law_782 rfl (lv_at hl 0 rfl) ?_
        refine lv_iload_n hx hb dL_law_783 rfl (lv_at hl 3 rfl) ?_
        refine li_iconst hx hb dL_law_784 ?_
        refine li_iadd hx hb dL_law_785 ?_
        refine lw_sld hx hb hX hbl I (i := (i + 2)) ⟨by omega, by omega⟩ hL dL_law_786 ?_
        refine lw_callR (As := [.int (i32 (xs (i + 1).toNat).toInt), .int (i32 (xs (i + 2).toNat).toInt)]) (rest := [.int (i32 r1)]) ⟨hx, hb, hml, hown, hts⟩ I (mX9_gated l g2 ((xs (i + 1).toNat).toInt) ((xs (i + 2).toNat).toInt) (inR_toInt _) (inR_toInt _) MR _ _ hw) (cwV 2 hts (gd_V wm_L_93 wi_X9_gated wl_X9_gated wn_X9 wc_X9_gated) rfl rfl rfl wd_X9_gated ⟨Nat.le_of_ble_eq_true rfl, Nat.le_of_ble_eq_true rfl⟩) rfl hl.1 rfl (Nat.le_of_ble_eq_true rfl) dL_law_787 ⟨Nat.le_of_ble_eq_true rfl, Nat.le_of_ble_eq_true rfl⟩ (fun r2 MR H locs hr2 hw I => ?_)
        refine li_icmp_eq (tgt := 953) hx hb dL_law_790 (by decide) hr1 hr2 (fun c1 => ?_) (fun c1 => absurd hw.1 c1)
        exact law_next hL C0 ih hi0 hi1 hw.2 I hl
      by_cases q19 : k = 19
      · subst q19
        refine li_tabIn (tgt := 795) hx hb dL_law_32 19 (by decide) rfl (by decide) (by decide) rfl (by decide) ?_
        refine lv_aload_n hx hb dL_law_795 rfl (lv_at hl 1 rfl) ?_
        refine lv_aload_n hx hb dL_law_796 rfl (lv_at hl 0 rfl) ?_
        refine lv_iload_n hx hb dL_law_797 rfl (lv_at hl 3 rfl) ?_
        refine li_iconst hx hb dL_law_798 ?_
        refine li_iadd hx hb dL_law_799 ?_
        refine lw_sld hx hb hX hbl I (i := (i + 1)) ⟨by omega, by omega⟩ hL dL_law_800 ?_
        refine lv_aload_n hx hb dL_law_801 rfl (lv_at hl 0 rfl) ?_
        refine lv_iload_n hx hb dL_law_802 rfl (lv_at hl 3 rfl) ?_
        refine li_iconst hx hb dL_law_803 ?_
        refine li_iadd hx hb dL_law_804 ?_
        refine lw_sld hx hb hX hbl I (i := (i + 2)) ⟨by omega, by omega⟩ hL dL_law_805 ?_
        refine lv_aload_n hx hb dL_law_806 rfl (lv_at hl 0 rfl) ?_
        refine lv_iload_n hx hb dL_law_807 rfl (lv_at hl 3 rfl) ?_
        refine li_iconst hx hb dL_law_808 ?_
        refine li_iadd hx hb dL_law_809 ?_
        refine lw_sld hx hb hX hbl I (i := (i + 3)) ⟨by omega, by omega⟩ hL dL_law_810 ?_
        refine lw_callX (As := [.int (i32 (xs (i + 1).toNat).toInt), .int (i32 (xs (i + 2).toNat).toInt), .int (i32 (xs (i + 3).toNat).toInt)]) (rest := []) ⟨hx, hb, hml, hown, hts⟩ I (mX8_draft l g ((xs (i + 1).toNat).toInt) ((xs (i + 2).toNat).toInt) ((xs (i + 3).toNat).toInt) (inR_toInt _) (inR_toInt _) (inR_toInt _) MX _ _ (h_draft ((xs (i + 1).toNat).toInt) ((xs (i + 2).toNat).toInt) ((xs (i + 3).toNat).toInt) MX MR (inR_toInt _) (inR_toInt _) (inR_toInt _) hI)) (cwV 3 hts (gd_V wm_L_94 wi_X8_draft wl_X8_draft wn_X8 wc_X8_draft) rfl rfl rfl wd_X8_draft ⟨Nat.le_of_ble_eq_true rfl, Nat.le_of_ble_eq_true rfl⟩) rfl hl.1 rfl (Nat.le_of_ble_eq_true rfl) dL_law_811 ⟨Nat.le_of_ble_eq_true rfl, Nat.le_of_ble_eq_true rfl⟩ (fun r1 MX H locs hr1 hw I => ?_)
        refine lv_aload_n hx hb dL_law_814 rfl (lv_at hl 2 rfl) ?_
        refine lv_aload_n hx hb dL_law_815 rfl (lv_at hl 0 rfl) ?_
        refine lv_iload_n hx hb dL_law_816 rfl (lv_at hl 3 rfl) ?_
        refine li_iconst hx hb dL_law_817 ?_
        refine li_iadd hx hb dL_law_818 ?_
        refine lw_sld hx hb hX hbl I (i := (i + 1)) ⟨by omega, by omega⟩ hL dL_law_819 ?_
        refine lv_aload_n hx hb dL_law_820 rfl (lv_at hl 0 rfl) ?_
        refine lv_iload_n hx hb dL_law_821 rfl (lv_at hl 3 rfl) ?_
        refine li_iconst hx hb dL_law_822 ?_
        refine li_iadd hx hb dL_law_823 ?_
        refine lw_sld hx hb hX hbl I (i := (i + 2)) ⟨by omega, by omega⟩ hL dL_law_824 ?_
        refine lv_aload_n hx hb dL_law_825 rfl (lv_at hl 0 rfl) ?_
        refine lv_iload_n hx hb dL_law_826 rfl (lv_at hl 3 rfl) ?_
        refine li_iconst hx hb dL_law_827 ?_
        refine li_iadd hx hb dL_law_828 ?_
        refine lw_sld hx hb hX hbl I (i := (i + 3)) ⟨by omega, by omega⟩ hL dL_law_829 ?_
        refine lw_callR (As := [.int (i32 (xs (i + 1).toNat).toInt), .int (i32 (xs (i + 2).toNat).toInt), .int (i32 (xs (i + 3).toNat).toInt)]) (rest := [.int (i32 r1)]) ⟨hx, hb, hml, hown, hts⟩ I (mX9_draft l g2 ((xs (i + 1).toNat).toInt) ((xs (i + 2).toNat).toInt) ((xs (i + 3).toNat).toInt) (inR_toInt _) (inR_toInt _) (inR_toInt _) MR _ _ hw) (cwV 3 hts (gd_V wm_L_97 wi_X9_draft wl_X9_draft wn_X9 wc_X9_draft) rfl rfl rfl wd_X9_draft ⟨Nat.le_of_ble_eq_true rfl, Nat.le_of_ble_eq_true rfl⟩) rfl hl.1 rfl (Nat.le_of_ble_eq_true rfl) dL_law_830 ⟨Nat.le_of_ble_eq_true rfl, Nat.le_of_ble_eq_true rfl⟩ (fun r2 MR H locs hr2 hw I => ?_)
        refine li_icmp_eq (tgt := 953) hx hb dL_law_833 (by decide) hr1 hr2 (fun c1 => ?_) (fun c1 => absurd hw.1 c1)
        exact law_next hL C0 ih hi0 hi1 hw.2 I hl
      by_cases q20 : k = 20
      · subst q20
        refine li_tabIn (tgt := 838) hx hb dL_law_32 20 (by decide) rfl (by decide) (by decide) rfl (by decide) ?_
        refine lv_aload_n hx hb dL_law_838 rfl (lv_at hl 1 rfl) ?_
        refine lw_callX (As := []) (rest := []) ⟨hx, hb, hml, hown, hts⟩ I (mX8_clear l g   MX _ _ (h_clear  MX MR  hI)) (cwV 0 hts (gd_V wm_L_98 wi_X8_clear wl_X8_clear wn_X8 wc_X8_clear) rfl rfl rfl wd_X8_clear ⟨Nat.le_of_ble_eq_true rfl, Nat.le_of_ble_eq_true rfl⟩) rfl hl.1 rfl (Nat.le_of_ble_eq_true rfl) dL_law_839 ⟨Nat.le_of_ble_eq_true rfl, Nat.le_of_ble_eq_true rfl⟩ (fun r1 MX H locs hr1 hw I => ?_)
        refine lv_aload_n hx hb dL_law_842 rfl (lv_at hl 2 rfl) ?_
        refine lw_callR (As := []) (rest := [.int (i32 r1)]) ⟨hx, hb, hml, hown, hts⟩ I (mX9_clear l g2   MR _ _ hw) (cwV 0 hts (gd_V wm_L_101 wi_X9_clear wl_X9_clear wn_X9 wc_X9_clear) rfl rfl rfl wd_X9_clear ⟨Nat.le_of_ble_eq_true rfl, Nat.le_of_ble_eq_true rfl⟩) rfl hl.1 rfl (Nat.le_of_ble_eq_true rfl) dL_law_843 ⟨Nat.le_of_ble_eq_true rfl, Nat.le_of_ble_eq_true rfl⟩ (fun r2 MR H locs hr2 hw I => ?_)
        refine li_icmp_eq (tgt := 953) hx hb dL_law_846 (by decide) hr1 hr2 (fun c1 => ?_) (fun c1 => absurd hw.1 c1)
        exact law_next hL C0 ih hi0 hi1 hw.2 I hl
      by_cases q21 : k = 21
      · subst q21
        refine li_tabIn (tgt := 851) hx hb dL_law_32 21 (by decide) rfl (by decide) (by decide) rfl (by decide) ?_
        refine lv_aload_n hx hb dL_law_851 rfl (lv_at hl 1 rfl) ?_
        refine lv_aload_n hx hb dL_law_852 rfl (lv_at hl 0 rfl) ?_
        refine lv_iload_n hx hb dL_law_853 rfl (lv_at hl 3 rfl) ?_
        refine li_iconst hx hb dL_law_854 ?_
        refine li_iadd hx hb dL_law_855 ?_
        refine lw_sld hx hb hX hbl I (i := (i + 1)) ⟨by omega, by omega⟩ hL dL_law_856 ?_
        refine lv_aload_n hx hb dL_law_857 rfl (lv_at hl 0 rfl) ?_
        refine lv_iload_n hx hb dL_law_858 rfl (lv_at hl 3 rfl) ?_
        refine li_iconst hx hb dL_law_859 ?_
        refine li_iadd hx hb dL_law_860 ?_
        refine lw_sld hx hb hX hbl I (i := (i + 2)) ⟨by omega, by omega⟩ hL dL_law_861 ?_
        refine lw_callX (As := [.int (i32 (xs (i + 1).toNat).toInt), .int (i32 (xs (i + 2).toNat).toInt)]) (rest := []) ⟨hx, hb, hml, hown, hts⟩ I (mX8_copy l g ((xs (i + 1).toNat).toInt) ((xs (i + 2).toNat).toInt) (inR_toInt _) (inR_toInt _) MX _ _ (h_copy ((xs (i + 1).toNat).toInt) ((xs (i + 2).toNat).toInt) MX MR (inR_toInt _) (inR_toInt _) hI)) (cwV 2 hts (gd_V wm_L_102 wi_X8_copy wl_X8_copy wn_X8 wc_X8_copy) rfl rfl rfl wd_X8_copy ⟨Nat.le_of_ble_eq_true rfl, Nat.le_of_ble_eq_true rfl⟩) rfl hl.1 rfl (Nat.le_of_ble_eq_true rfl) dL_law_862 ⟨Nat.le_of_ble_eq_true rfl, Nat.le_of_ble_eq_true rfl⟩ (fun r1 MX H locs hr1 hw I => ?_)
        refine lv_aload_n hx hb dL_law_865 rfl (lv_at hl 2 rfl) ?_
        refine lv_aload_n hx hb dL_law_866 rfl (lv_at hl 0 rfl) ?_
        refine lv_iload_n hx hb dL_law_867 rfl (lv_at hl 3 rfl) ?_
        refine li_iconst hx hb dL_law_868 ?_
        refine li_iadd hx hb dL_law_869 ?_
        refine lw_sld hx hb hX hbl I (i := (i + 1)) ⟨by omega, by omega⟩ hL dL_law_870 ?_
        refine lv_aload_n hx hb dL_law_871 rfl (lv_at hl 0 rfl) ?_
        refine lv_iload_n hx hb dL_law_872 rfl (lv_at hl 3 rfl) ?_
        refine li_iconst hx hb dL_law_873 ?_
        refine li_iadd hx hb dL_law_874 ?_
        refine lw_sld hx hb hX hbl I (i := (i + 2)) ⟨by omega, by omega⟩ hL dL_law_875 ?_
        refine lw_callR (As := [.int (i32 (xs (i + 1).toNat).toInt), .int (i32 (xs (i + 2).toNat).toInt)]) (rest := [.int (i32 r1)]) ⟨hx, hb, hml, hown, hts⟩ I (mX9_copy l g2 ((xs (i + 1).toNat).toInt) ((xs (i + 2).toNat).toInt) (inR_toInt _) (inR_toInt _) MR _ _ hw) (cwV 2 hts (gd_V wm_L_105 wi_X9_copy wl_X9_copy wn_X9 wc_X9_copy) rfl rfl rfl wd_X9_copy ⟨Nat.le_of_ble_eq_true rfl, Nat.le_of_ble_eq_true rfl⟩) rfl hl.1 rfl (Nat.le_of_ble_eq_true rfl) dL_law_876 ⟨Nat.le_of_ble_eq_true rfl, Nat.le_of_ble_eq_true rfl⟩ (fun r2 MR H locs hr2 hw I => ?_)
        refine li_icmp_eq (tgt := 953) hx hb dL_law_879 (by decide) hr1 hr2 (fun c1 => ?_) (fun c1 => absurd hw.1 c1)
        exact law_next hL C0 ih hi0 hi1 hw.2 I hl
      by_cases q22 : k = 22
      · subst q22
        refine li_tabIn (tgt := 884) hx hb dL_law_32 22 (by decide) rfl (by decide) (by decide) rfl (by decide) ?_
        refine lv_aload_n hx hb dL_law_884 rfl (lv_at hl 1 rfl) ?_
        refine lv_aload_n hx hb dL_law_885 rfl (lv_at hl 0 rfl) ?_
        refine lv_iload_n hx hb dL_law_886 rfl (lv_at hl 3 rfl) ?_
        refine li_iconst hx hb dL_law_887 ?_
        refine li_iadd hx hb dL_law_888 ?_
        refine lw_sld hx hb hX hbl I (i := (i + 1)) ⟨by omega, by omega⟩ hL dL_law_889 ?_
        refine lv_aload_n hx hb dL_law_890 rfl (lv_at hl 0 rfl) ?_
        refine lv_iload_n hx hb dL_law_891 rfl (lv_at hl 3 rfl) ?_
        refine li_iconst hx hb dL_law_892 ?_
        refine li_iadd hx hb dL_law_893 ?_
        refine lw_sld hx hb hX hbl I (i := (i + 2)) ⟨by omega, by omega⟩ hL dL_law_894 ?_
        refine lw_callX (As := [.int (i32 (xs (i + 1).toNat).toInt), .int (i32 (xs (i + 2).toNat).toInt)]) (rest := []) ⟨hx, hb, hml, hown, hts⟩ I (mX8_judge l g ((xs (i + 1).toNat).toInt) ((xs (i + 2).toNat).toInt) (inR_toInt _) (inR_toInt _) MX _ _ (h_judge ((xs (i + 1).toNat).toInt) ((xs (i + 2).toNat).toInt) MX MR (inR_toInt _) (inR_toInt _) hI)) (cwV 2 hts (gd_V wm_L_106 wi_X8_judge wl_X8_judge wn_X8 wc_X8_judge) rfl rfl rfl wd_X8_judge ⟨Nat.le_of_ble_eq_true rfl, Nat.le_of_ble_eq_true rfl⟩) rfl hl.1 rfl (Nat.le_of_ble_eq_true rfl) dL_law_895 ⟨Nat.le_of_ble_eq_true rfl, Nat.le_of_ble_eq_true rfl⟩ (fun r1 MX H locs hr1 hw I => ?_)
        refine lv_aload_n hx hb dL_law_898 rfl (lv_at hl 2 rfl) ?_
        refine lv_aload_n hx hb dL_law_899 rfl (lv_at hl 0 rfl) ?_
        refine lv_iload_n hx hb dL_law_900 rfl (lv_at hl 3 rfl) ?_
        refine li_iconst hx hb dL_law_901 ?_
        refine li_iadd hx hb dL_law_902 ?_
        refine lw_sld hx hb hX hbl I (i := (i + 1)) ⟨by omega, by omega⟩ hL dL_law_903 ?_
        refine lv_aload_n hx hb dL_law_904 rfl (lv_at hl 0 rfl) ?_
        refine lv_iload_n hx hb dL_law_905 rfl (lv_at hl 3 rfl) ?_
        refine li_iconst hx hb dL_law_906 ?_
        refine li_iadd hx hb dL_law_907 ?_
        refine lw_sld hx hb hX hbl I (i := (i + 2)) ⟨by omega, by omega⟩ hL dL_law_908 ?_
        refine lw_callR (As := [.int (i32 (xs (i + 1).toNat).toInt), .int (i32 (xs (i + 2).toNat).toInt)]) (rest := [.int (i32 r1)]) ⟨hx, hb, hml, hown, hts⟩ I (mX9_judge l g2 ((xs (i + 1).toNat).toInt) ((xs (i + 2).toNat).toInt) (inR_toInt _) (inR_toInt _) MR _ _ hw) (cwV 2 hts (gd_V wm_L_109 wi_X9_judge wl_X9_judge wn_X9 wc_X9_judge) rfl rfl rfl wd_X9_judge ⟨Nat.le_of_ble_eq_true rfl, Nat.le_of_ble_eq_true rfl⟩) rfl hl.1 rfl (Nat.le_of_ble_eq_true rfl) dL_law_909 ⟨Nat.le_of_ble_eq_true rfl, Nat.le_of_ble_eq_true rfl⟩ (fun r2 MR H locs hr2 hw I => ?_)
        refine li_icmp_eq (tgt := 953) hx hb dL_law_912 (by decide) hr1 hr2 (fun c1 => ?_) (fun c1 => absurd hw.1 c1)
        exact law_next hL C0 ih hi0 hi1 hw.2 I hl
      by_cases q23 : k = 23
      · subst q23
        refine li_tabIn (tgt := 917) hx hb dL_law_32 23 (by decide) rfl (by decide) (by decide) rfl (by decide) ?_
        refine lv_aload_n hx hb dL_law_917 rfl (lv_at hl 1 rfl) ?_
        refine lw_callX (As := []) (rest := []) ⟨hx, hb, hml, hown, hts⟩ I (mX8_beside l g   MX _ _ (h_beside  MX MR  hI)) (cwV 0 hts (gd_V wm_L_110 wi_X8_beside wl_X8_beside wn_X8 wc_X8_beside) rfl rfl rfl wd_X8_beside ⟨Nat.le_of_ble_eq_true rfl, Nat.le_of_ble_eq_true rfl⟩) rfl hl.1 rfl (Nat.le_of_ble_eq_true rfl) dL_law_918 ⟨Nat.le_of_ble_eq_true rfl, Nat.le_of_ble_eq_true rfl⟩ (fun r1 MX H locs hr1 hw I => ?_)
        refine lv_aload_n hx hb dL_law_921 rfl (lv_at hl 2 rfl) ?_
        refine lw_callR (As := []) (rest := [.int (i32 r1)]) ⟨hx, hb, hml, hown, hts⟩ I (mX9_beside l g2   MR _ _ hw) (cwV 0 hts (gd_V wm_L_113 wi_X9_beside wl_X9_beside wn_X9 wc_X9_beside) rfl rfl rfl wd_X9_beside ⟨Nat.le_of_ble_eq_true rfl, Nat.le_of_ble_eq_true rfl⟩) rfl hl.1 rfl (Nat.le_of_ble_eq_true rfl) dL_law_922 ⟨Nat.le_of_ble_eq_true rfl, Nat.le_of_ble_eq_true rfl⟩ (fun r2 MR H locs hr2 hw I => ?_)
        refine li_icmp_eq (tgt := 953) hx hb dL_law_925 (by decide) hr1 hr2 (fun c1 => ?_) (fun c1 => absurd hw.1 c1)
        exact law_next hL C0 ih hi0 hi1 hw.2 I hl
      by_cases q24 : k = 24
      · subst q24
        refine li_tabIn (tgt := 930) hx hb dL_law_32 24 (by decide) rfl (by decide) (by decide) rfl (by decide) ?_
        refine lv_aload_n hx hb dL_law_930 rfl (lv_at hl 1 rfl) ?_
        refine lv_aload_n hx hb dL_law_931 rfl (lv_at hl 0 rfl) ?_
        refine lv_iload_n hx hb dL_law_932 rfl (lv_at hl 3 rfl) ?_
        refine li_iconst hx hb dL_law_933 ?_
        refine li_iadd hx hb dL_law_934 ?_
        refine lw_sld hx hb hX hbl I (i := (i + 1)) ⟨by omega, by omega⟩ hL dL_law_935 ?_
        refine lw_callX (As := [.int (i32 (xs (i + 1).toNat).toInt)]) (rest := []) ⟨hx, hb, hml, hown, hts⟩ I (mX8_count l g ((xs (i + 1).toNat).toInt) (inR_toInt _) MX _ _ (h_count ((xs (i + 1).toNat).toInt) MX MR (inR_toInt _) hI)) (cwV 1 hts (gd_V wm_L_114 wi_X8_count wl_X8_count wn_X8 wc_X8_count) rfl rfl rfl wd_X8_count ⟨Nat.le_of_ble_eq_true rfl, Nat.le_of_ble_eq_true rfl⟩) rfl hl.1 rfl (Nat.le_of_ble_eq_true rfl) dL_law_936 ⟨Nat.le_of_ble_eq_true rfl, Nat.le_of_ble_eq_true rfl⟩ (fun r1 MX H locs hr1 hw I => ?_)
        refine lv_aload_n hx hb dL_law_939 rfl (lv_at hl 2 rfl) ?_
        refine lv_aload_n hx hb dL_law_940 rfl (lv_at hl 0 rfl) ?_
        refine lv_iload_n hx hb dL_law_941 rfl (lv_at hl 3 rfl) ?_
        refine li_iconst hx hb dL_law_942 ?_
        refine li_iadd hx hb dL_law_943 ?_
        refine lw_sld hx hb hX hbl I (i := (i + 1)) ⟨by omega, by omega⟩ hL dL_law_944 ?_
        refine lw_callR (As := [.int (i32 (xs (i + 1).toNat).toInt)]) (rest := [.int (i32 r1)]) ⟨hx, hb, hml, hown, hts⟩ I (mX9_count l g2 ((xs (i + 1).toNat).toInt) (inR_toInt _) MR _ _ hw) (cwV 1 hts (gd_V wm_L_117 wi_X9_count wl_X9_count wn_X9 wc_X9_count) rfl rfl rfl wd_X9_count ⟨Nat.le_of_ble_eq_true rfl, Nat.le_of_ble_eq_true rfl⟩) rfl hl.1 rfl (Nat.le_of_ble_eq_true rfl) dL_law_945 ⟨Nat.le_of_ble_eq_true rfl, Nat.le_of_ble_eq_true rfl⟩ (fun r2 MR H locs hr2 hw I => ?_)
        refine li_icmp_eq (tgt := 953) hx hb dL_law_948 (by decide) hr1 hr2 (fun c1 => ?_) (fun c1 => absurd hw.1 c1)
        exact law_next hL C0 ih hi0 hi1 hw.2 I hl
      refine li_tabOut (tgt := 953) hx hb dL_law_32 ⟨by omega, by omega⟩ (Or.inr (by omega)) (by decide) ?_
      exact law_next hL C0 ih hi0 hi1 hI I hl
