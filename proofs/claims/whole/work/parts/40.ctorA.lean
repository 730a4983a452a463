theorem wt_oi1 : Cond.instanceMethod objectInit ∈ wt := wt_t 20 (by decide +kernel) (by decide +kernel)
theorem wt_oi2 : Cond.code objectInit ⟨#[0xb1]⟩ 1 none ∈ wt := wt_t 21 (by decide +kernel) (by decide +kernel)
theorem wt_arI : Cond.arrayClass .int ∈ wt := wt_t 64 (by decide +kernel) (by decide +kernel)
theorem wt_arB : Cond.arrayClass .byte ∈ wt := wt_t 132 (by decide +kernel) (by decide +kernel)
theorem wt_c0 : Cond.code yX0_init cX0_init 1 none ∈ wt := wt_t 33 (by decide +kernel) (by decide +kernel)
theorem wt_m0 : Cond.instanceMethod yX0_init ∈ wt := wt_t 32 (by decide +kernel) (by decide +kernel)
theorem wt_i0 : Cond.initialized RX0 ∈ wt := wt_t 3 (by decide +kernel) (by decide +kernel)
theorem wt_n0 : Cond.instantiable RX0 6 ∈ wt := wt_t 30 (by decide +kernel) (by decide +kernel)
theorem wt_c1 : Cond.code yX1_init cX1_init 2 none ∈ wt := wt_t 26 (by decide +kernel) (by decide +kernel)
theorem wt_m1 : Cond.instanceMethod yX1_init ∈ wt := wt_t 25 (by decide +kernel) (by decide +kernel)
theorem wt_i1 : Cond.initialized RX1 ∈ wt := wt_t 2 (by decide +kernel) (by decide +kernel)
theorem wt_n1 : Cond.instantiable RX1 9 ∈ wt := wt_t 23 (by decide +kernel) (by decide +kernel)
theorem wt_c2 : Cond.code yX2_init cX2_init 1 none ∈ wt := wt_t 138 (by decide +kernel) (by decide +kernel)
theorem wt_m2 : Cond.instanceMethod yX2_init ∈ wt := wt_t 137 (by decide +kernel) (by decide +kernel)
theorem wt_i2 : Cond.initialized RX2 ∈ wt := wt_t 5 (by decide +kernel) (by decide +kernel)
theorem wt_n2 : Cond.instantiable RX2 3 ∈ wt := wt_t 135 (by decide +kernel) (by decide +kernel)
theorem wt_c3 : Cond.code yX3_init cX3_init 1 none ∈ wt := wt_t 110 (by decide +kernel) (by decide +kernel)
theorem wt_m3 : Cond.instanceMethod yX3_init ∈ wt := wt_t 109 (by decide +kernel) (by decide +kernel)
theorem wt_i3 : Cond.initialized RX3 ∈ wt := wt_t 4 (by decide +kernel) (by decide +kernel)
theorem wt_n3 : Cond.instantiable RX3 6 ∈ wt := wt_t 107 (by decide +kernel) (by decide +kernel)
theorem wt_c4 : Cond.code yX4_init cX4_init 2 none ∈ wt := wt_t 18 (by decide +kernel) (by decide +kernel)
theorem wt_m4 : Cond.instanceMethod yX4_init ∈ wt := wt_t 17 (by decide +kernel) (by decide +kernel)
theorem wt_i4 : Cond.initialized RX4 ∈ wt := wt_t 1 (by decide +kernel) (by decide +kernel)
theorem wt_n4 : Cond.instantiable RX4 8 ∈ wt := wt_t 15 (by decide +kernel) (by decide +kernel)
theorem wt_c5 : Cond.code yX5_init cX5_init 2 none ∈ wt := wt_t 681 (by decide +kernel) (by decide +kernel)
theorem wt_m5 : Cond.instanceMethod yX5_init ∈ wt := wt_t 680 (by decide +kernel) (by decide +kernel)
theorem wt_i5 : Cond.initialized RX5 ∈ wt := wt_t 6 (by decide +kernel) (by decide +kernel)
theorem wt_n5 : Cond.instantiable RX5 20 ∈ wt := wt_t 678 (by decide +kernel) (by decide +kernel)
theorem wt_kL_7 : Cond.classLink RL 7 "CurtainHouse" ∈ wt := wt_t 14 (by decide +kernel) (by decide +kernel)
theorem wt_kX4_7 : Cond.classLink RX4 7 "CurtainHouse$House" ∈ wt := wt_t 22 (by decide +kernel) (by decide +kernel)
theorem wt_kX1_22 : Cond.classLink RX1 22 "CurtainHouse$Curtain" ∈ wt := wt_t 28 (by decide +kernel) (by decide +kernel)
theorem wt_kX4_22 : Cond.classLink RX4 22 "CurtainHouse$Curtain" ∈ wt := wt_t 104 (by decide +kernel) (by decide +kernel)
theorem wt_kX4_29 : Cond.classLink RX4 29 "CurtainHouse$Tape" ∈ wt := wt_t 106 (by decide +kernel) (by decide +kernel)
theorem wt_kX4_36 : Cond.classLink RX4 36 "CurtainHouse$Sheet" ∈ wt := wt_t 133 (by decide +kernel) (by decide +kernel)
theorem wt_kL_10 : Cond.classLink RL 10 "CurtainHouseModel" ∈ wt := wt_t 677 (by decide +kernel) (by decide +kernel)
theorem wt_kX5_25 : Cond.classLink RX5 25 "java/lang/String" ∈ wt := wt_t 683 (by decide +kernel) (by decide +kernel)
def AX (U : State) : Prop := (∀ w ∈ wN, va_Nw w U) ∧ va_AO "CurtainHouse$Curtain" U ∧ va_AO "CurtainHouse$Sheet" U ∧ va_AO "java/lang/String" U
theorem AX.warm {s U : State} (hW : s.WarmedH U.vm) (h : AX s) : AX U := by
  refine ⟨fun w hw => ?_, h.2.1.moved hW.alike, h.2.2.1.moved hW.alike, h.2.2.2.moved hW.alike⟩
  have h8 := h.1 w hw
  rcases wN_kind w hw with ⟨a, i, b, n, d, h, rfl⟩ | ⟨a, i, x, h, rfl⟩
  · exact va_Nw.warmF hW h8
  · exact va_Nw.warmM hW h8
theorem AX.same {u U : State} (hv : U.vm = u.vm) (h : AX u) : AX U := by
  have hA : u.vm.Alike U.vm := by rw [hv]; exact Vm.Alike.refl _
  refine ⟨fun w hw => ?_, h.2.1.moved hA, h.2.2.1.moved hA, h.2.2.2.moved hA⟩
  have h8 := h.1 w hw
  rcases wN_kind w hw with ⟨a, i, b, n, d, h, rfl⟩ | ⟨a, i, x, h, rfl⟩
  · exact va_Nw.same rfl hv.symm h8
  · exact va_Nw.same rfl hv.symm h8
/-- the String constants that a constructor loads, none of them in the cells A -/
def SX (aK aV : Nat → Nat) (A : Nat → Prop) (U : State) (H : Heap) : Prop := kS aK aV A U H ∧ ∀ q ∈ kRefs, vk_R q.1 q.2.1 q.2.2.1 (aK q.2.2.2) U
theorem vin {x : Int32} {n : Nat} (h : ¬ (x < 0 ∨ n ≤ x.toNatClampNeg)) : vp_in x n := h
set_option maxHeartbeats 4000000 in
set_option maxRecDepth 100000 in
theorem c_X0_init (l : Launch) (dC : Nat → ClassId) (dI : Nat → Nat → Nat) (h0 sz : Nat) : Met l yX0_init (Cond.code yX0_init cX0_init 1 none :: wt) ({ frames := 1, cells := 0, slots := 0, locals := 12 }) (va_Pc [.ref h0] (fun U => U.heap.size = sz ∧ va_P (dC, dI) vwCl [(h0, .inr (0, [.int 0, .int 0, .int 0, .int 0, .int 0, .int 0]))] U.heap ∧ va_K (dC, dI) vwCl [] U ∧ va_D (fun _ => True) [(h0, .inr (0, [.int 0, .int 0, .int 0, .int 0, .int 0, .int 0]))] ∧ AX U)) (va_Qv (fun _ : Unit => True) (fun _ t => va_P (dC, dI) vwCl [(h0, .inr (0, [.int 0, .int 0, .int 0, .int 0, .int 0, .int 0]))] t.heap ∧ va_K (dC, dI) vwCl [] t ∧ va_D (va_A [(h0, .inr (0, [.int 0, .int 0, .int 0, .int 0, .int 0, .int 0]))] sz) [(h0, .inr (0, [.int 0, .int 0, .int 0, .int 0, .int 0, .int 0]))]) (va_A [(h0, .inr (0, [.int 0, .int 0, .int 0, .int 0, .int 0, .int 0]))] sz)) 0 0 (va_A [(h0, .inr (0, [.int 0, .int 0, .int 0, .int 0, .int 0, .int 0]))] sz) := by
  refine Met.ofW (cc := cX0_init) (maxL := 1) (ret := none) (by decide) rfl ?_
  intro p e s m args below meth c s₁ B hml hv
  obtain ⟨rfl, hsz, hP, hK, hD0, hAX⟩ := hv
  have hx := B.exec
  have hb := B.bytes
  have hr := B.returns
  have hts0 := atoms_spec (ws := Cond.code yX0_init cX0_init 1 none :: wt) B.pre
  have hts : ∀ w ∈ wt, w.before #[Value.ref h0] s = true := fun w h => hts0 w (List.mem_cons_of_mem _ h)
  have hown : s.vm.findClass RX0 = some m.cls := findClass_of_methodNamed B.named
  have hlocks := B.notSynchronized
  have hin : meth.name = "<init>" := (name_of_methodNamed B.named B.method).1
  subst hsz
  have hD := hD0.self (sz := s.heap.size)
  generalize hAe : va_A [(h0, .inr (0, [.int 0, .int 0, .int 0, .int 0, .int 0, .int 0]))] s.heap.size = A at hD ⊢
  have hA : ∀ q : Nat, s.heap.size ≤ q → A q := fun q h => by rw [← hAe]; exact Or.inr h
  have hS : va_S A s.heap s.heap [] := va_S.rf
  have hl := lv_entry ([.ref h0]) (n := 1) (Nat.le_of_ble_eq_true rfl)
  rw [lg_entry_eq]
  generalize (lg_sl ([.ref h0]) ++ List.replicate (1 - (lg_sl ([.ref h0])).length) Slot.unset).toArray = ls at hl ⊢
  have hl : lv_has ls 1 [(0, .ref h0)] := hl
  refine lv_aload_n hx hb dX0_init_0 rfl (lv_at hl 0 rfl) ?_
  refine W.objInit hx hb hown (hts _ lk_X0_3) (hts _ wt_oi1) (hts _ wt_oi2) rfl (by rw [hml]; exact hl.1) rfl dX0_init_1 (Nat.le_of_ble_eq_true rfl) (Nat.le_of_ble_eq_true rfl) ?_
  refine W.eq (g2 := F0 m 4 ls []) rfl ?_
  exact W.vret hx hb hr (fun t ht hW => ⟨⟨(), rfl, trivial, by rw [ht]; exact hP, va_K.moved hW.alike hK, hD⟩, hS.F ht⟩) hS.2.2 dX0_init_4

set_option maxHeartbeats 4000000 in
set_option maxRecDepth 100000 in
theorem c_X2_init (l : Launch) (dC : Nat → ClassId) (dI : Nat → Nat → Nat) (h0 sz : Nat) : Met l yX2_init (Cond.code yX2_init cX2_init 1 none :: wt) ({ frames := 1, cells := 1, slots := 40, locals := 12 }) (va_Pc [.ref h0] (fun U => U.heap.size = sz ∧ va_P (dC, dI) vwCl [(h0, .inr (2, [.int 0, .int 0, .null]))] U.heap ∧ va_K (dC, dI) vwCl [] U ∧ va_D (fun _ => True) [(h0, .inr (2, [.int 0, .int 0, .null]))] ∧ AX U)) (va_Qv (fun _ : Unit => True) (fun _ t => ∃ (q1 : Nat) (c1 : ClassId), va_P (dC, dI) vwCl [(h0, .inr (2, [.int 0, .int 0, .ref q1])), (q1, .inl (c1, 40, .inl (fun _ => 0)))] t.heap ∧ va_K (dC, dI) vwCl [(c1, .int)] t ∧ va_D (va_A [(h0, .inr (2, [.int 0, .int 0, .null]))] sz) [(h0, .inr (2, [.int 0, .int 0, .ref q1])), (q1, .inl (c1, 40, .inl (fun _ => 0)))]) (va_A [(h0, .inr (2, [.int 0, .int 0, .null]))] sz)) 1 40 (va_A [(h0, .inr (2, [.int 0, .int 0, .null]))] sz) := by
  refine Met.ofW (cc := cX2_init) (maxL := 1) (ret := none) (by decide) rfl ?_
  intro p e s m args below meth c s₁ B hml hv
  obtain ⟨rfl, hsz, hP, hK, hD0, hAX⟩ := hv
  have hx := B.exec
  have hb := B.bytes
  have hr := B.returns
  have hts0 := atoms_spec (ws := Cond.code yX2_init cX2_init 1 none :: wt) B.pre
  have hts : ∀ w ∈ wt, w.before #[Value.ref h0] s = true := fun w h => hts0 w (List.mem_cons_of_mem _ h)
  have hown : s.vm.findClass RX2 = some m.cls := findClass_of_methodNamed B.named
  have hlocks := B.notSynchronized
  have hin : meth.name = "<init>" := (name_of_methodNamed B.named B.method).1
  subst hsz
  have hD := hD0.self (sz := s.heap.size)
  generalize hAe : va_A [(h0, .inr (2, [.int 0, .int 0, .null]))] s.heap.size = A at hD ⊢
  have hA : ∀ q : Nat, s.heap.size ≤ q → A q := fun q h => by rw [← hAe]; exact Or.inr h
  have hS : va_S A s.heap s.heap [] := va_S.rf
  have hl := lv_entry ([.ref h0]) (n := 1) (Nat.le_of_ble_eq_true rfl)
  rw [lg_entry_eq]
  generalize (lg_sl ([.ref h0]) ++ List.replicate (1 - (lg_sl ([.ref h0])).length) Slot.unset).toArray = ls at hl ⊢
  have hl : lv_has ls 1 [(0, .ref h0)] := hl
  refine lv_aload_n hx hb dX2_init_0 rfl (lv_at hl 0 rfl) ?_
  refine W.objInit hx hb hown (hts _ lk_X2_3) (hts _ wt_oi1) (hts _ wt_oi2) rfl (by rw [hml]; exact hl.1) rfl dX2_init_1 (Nat.le_of_ble_eq_true rfl) (Nat.le_of_ble_eq_true rfl) ?_
  refine W.eq (g2 := F0 m 4 ls []) rfl ?_
  refine lv_aload_n hx hb dX2_init_4 rfl (lv_at hl 0 rfl) ?_
  refine lv_bipush (v := 40) hx hb dX2_init_5 (by decide) ?_
  refine va_newa (atype := .int) (ty := .int) (N' := 40) (a0 := (40, .inl (fun _ => 0))) hx hb (hts _ wt_arI) rfl hK hP hD hS hA (fun _ => rfl) (by decide) (by decide) (by decide) (Nat.le_of_ble_eq_true rfl) (Nat.le_of_ble_eq_true rfl) dX2_init_7 (fun q1 c1 H hK hP hD hS => ?_)
  have hP : va_P (dC, dI) vwCl [(h0, .inr (2, [.int 0, .int 0, .null])), (q1, .inl (c1, 40, .inl (fun _ => 0)))] H := hP
  have hD : va_D A [(h0, .inr (2, [.int 0, .int 0, .null])), (q1, .inl (c1, 40, .inl (fun _ => 0)))] := hD
  have hK : va_K (dC, dI) vwCl [(c1, .int)] s := hK
  refine W.widen (k := 1) (n := 40) (by omega) (by omega) ?_
  refine va_putF (D := (dC, dI)) (ci := 2) (v := .ref q1) (ty := .array .int) (C := RX2) (T := TX2) (N := 3) hx hb hts in_X2 tyX2 tyX2_ok nmX2 hown hK hP hD hS 0 rfl rfl 2 (by decide) (hts _ lk_X2_9) (fun _ h9 => h9) rfl hin rfl (by decide +kernel) rfl rfl (Nat.le_of_ble_eq_true rfl) dX2_init_9 (fun H locs hP hD hS => ?_)
  have hP : va_P (dC, dI) vwCl [(h0, .inr (2, [.int 0, .int 0, .ref q1])), (q1, .inl (c1, 40, .inl (fun _ => 0)))] H := hP
  have hD : va_D A [(h0, .inr (2, [.int 0, .int 0, .ref q1])), (q1, .inl (c1, 40, .inl (fun _ => 0)))] := hD
  exact W.vret hx hb hr (fun t ht hW => ⟨⟨(), rfl, trivial, q1, c1, by rw [ht]; exact hP, va_K.moved hW.alike hK, hD⟩, hS.F ht⟩) hS.2.2 dX2_init_12

set_option maxHeartbeats 4000000 in
set_option maxRecDepth 100000 in
theorem c_X3_init (l : Launch) (dC : Nat → ClassId) (dI : Nat → Nat → Nat) (h0 sz : Nat) : Met l yX3_init (Cond.code yX3_init cX3_init 1 none :: wt) ({ frames := 1, cells := 1, slots := 120, locals := 12 }) (va_Pc [.ref h0] (fun U => U.heap.size = sz ∧ va_P (dC, dI) vwCl [(h0, .inr (3, [.null, .int 0, .int 0, .int 0, .int 0, .int 0]))] U.heap ∧ va_K (dC, dI) vwCl [] U ∧ va_D (fun _ => True) [(h0, .inr (3, [.null, .int 0, .int 0, .int 0, .int 0, .int 0]))] ∧ AX U)) (va_Qv (fun _ : Unit => True) (fun _ t => ∃ (q1 : Nat) (c1 : ClassId), va_P (dC, dI) vwCl [(h0, .inr (3, [.ref q1, .int 0, .int 0, .int 0, .int 0, .int 0])), (q1, .inl (c1, 120, .inl (fun _ => 0)))] t.heap ∧ va_K (dC, dI) vwCl [(c1, .byte)] t ∧ va_D (va_A [(h0, .inr (3, [.null, .int 0, .int 0, .int 0, .int 0, .int 0]))] sz) [(h0, .inr (3, [.ref q1, .int 0, .int 0, .int 0, .int 0, .int 0])), (q1, .inl (c1, 120, .inl (fun _ => 0)))]) (va_A [(h0, .inr (3, [.null, .int 0, .int 0, .int 0, .int 0, .int 0]))] sz)) 1 120 (va_A [(h0, .inr (3, [.null, .int 0, .int 0, .int 0, .int 0, .int 0]))] sz) := by
  refine Met.ofW (cc := cX3_init) (maxL := 1) (ret := none) (by decide) rfl ?_
  intro p e s m args below meth c s₁ B hml hv
  obtain ⟨rfl, hsz, hP, hK, hD0, hAX⟩ := hv
  have hx := B.exec
  have hb := B.bytes
  have hr := B.returns
  have hts0 := atoms_spec (ws := Cond.code yX3_init cX3_init 1 none :: wt) B.pre
  have hts : ∀ w ∈ wt, w.before #[Value.ref h0] s = true := fun w h => hts0 w (List.mem_cons_of_mem _ h)
  have hown : s.vm.findClass RX3 = some m.cls := findClass_of_methodNamed B.named
  have hlocks := B.notSynchronized
  have hin : meth.name = "<init>" := (name_of_methodNamed B.named B.method).1
  subst hsz
  have hD := hD0.self (sz := s.heap.size)
  generalize hAe : va_A [(h0, .inr (3, [.null, .int 0, .int 0, .int 0, .int 0, .int 0]))] s.heap.size = A at hD ⊢
  have hA : ∀ q : Nat, s.heap.size ≤ q → A q := fun q h => by rw [← hAe]; exact Or.inr h
  have hS : va_S A s.heap s.heap [] := va_S.rf
  have hl := lv_entry ([.ref h0]) (n := 1) (Nat.le_of_ble_eq_true rfl)
  rw [lg_entry_eq]
  generalize (lg_sl ([.ref h0]) ++ List.replicate (1 - (lg_sl ([.ref h0])).length) Slot.unset).toArray = ls at hl ⊢
  have hl : lv_has ls 1 [(0, .ref h0)] := hl
  refine lv_aload_n hx hb dX3_init_0 rfl (lv_at hl 0 rfl) ?_
  refine W.objInit hx hb hown (hts _ lk_X3_3) (hts _ wt_oi1) (hts _ wt_oi2) rfl (by rw [hml]; exact hl.1) rfl dX3_init_1 (Nat.le_of_ble_eq_true rfl) (Nat.le_of_ble_eq_true rfl) ?_
  refine W.eq (g2 := F0 m 4 ls []) rfl ?_
  refine lv_aload_n hx hb dX3_init_4 rfl (lv_at hl 0 rfl) ?_
  refine lv_bipush (v := 120) hx hb dX3_init_5 (by decide) ?_
  refine va_newa (atype := .byte) (ty := .byte) (N' := 120) (a0 := (120, .inl (fun _ => 0))) hx hb (hts _ wt_arB) rfl hK hP hD hS hA (fun _ => rfl) (by decide) (by decide) (by decide) (Nat.le_of_ble_eq_true rfl) (Nat.le_of_ble_eq_true rfl) dX3_init_7 (fun q1 c1 H hK hP hD hS => ?_)
  have hP : va_P (dC, dI) vwCl [(h0, .inr (3, [.null, .int 0, .int 0, .int 0, .int 0, .int 0])), (q1, .inl (c1, 120, .inl (fun _ => 0)))] H := hP
  have hD : va_D A [(h0, .inr (3, [.null, .int 0, .int 0, .int 0, .int 0, .int 0])), (q1, .inl (c1, 120, .inl (fun _ => 0)))] := hD
  have hK : va_K (dC, dI) vwCl [(c1, .byte)] s := hK
  refine W.widen (k := 1) (n := 120) (by omega) (by omega) ?_
  refine va_putF (D := (dC, dI)) (ci := 3) (v := .ref q1) (ty := .array .byte) (C := RX3) (T := TX3) (N := 6) hx hb hts in_X3 tyX3 tyX3_ok nmX3 hown hK hP hD hS 0 rfl rfl 0 (by decide) (hts _ lk_X3_9) (fun _ h9 => h9) rfl hin rfl (by decide +kernel) rfl rfl (Nat.le_of_ble_eq_true rfl) dX3_init_9 (fun H locs hP hD hS => ?_)
  have hP : va_P (dC, dI) vwCl [(h0, .inr (3, [.ref q1, .int 0, .int 0, .int 0, .int 0, .int 0])), (q1, .inl (c1, 120, .inl (fun _ => 0)))] H := hP
  have hD : va_D A [(h0, .inr (3, [.ref q1, .int 0, .int 0, .int 0, .int 0, .int 0])), (q1, .inl (c1, 120, .inl (fun _ => 0)))] := hD
  exact W.vret hx hb hr (fun t ht hW => ⟨⟨(), rfl, trivial, q1, c1, by rw [ht]; exact hP, va_K.moved hW.alike hK, hD⟩, hS.F ht⟩) hS.2.2 dX3_init_12

def hW (q : Nat → Nat) (c : Nat → ClassId) : va_W := [((q 0), .inr (1, [.int 0, .int 0, .int 0, .int 0, .int 1, .int 0, .ref (q 1), .ref (q 2), .ref (q 3)])), ((q 1), .inl ((c 0), 6, .inl (upd (upd (upd (upd (upd (upd (fun _ => 0) 0 0) 1 1) 2 2) 3 3) 4 4) 5 5))), ((q 2), .inl ((c 1), 10, .inl (upd (upd (upd (upd (upd (upd (upd (upd (upd (upd (fun _ => 0) 0 (-1)) 1 (-1)) 2 (-1)) 3 (-1)) 4 (-1)) 5 (-1)) 6 (-1)) 7 (-1)) 8 (-1)) 9 (-1)))), ((q 3), .inl ((c 2), 8, .inr (.inr (.inr (.inr (va_up (va_up (va_up (va_up (va_up (va_up (va_up (va_up (fun _ => none) 0 (some (q 4))) 1 (some (q 5))) 2 (some (q 6))) 3 (some (q 7))) 4 (some (q 8))) 5 (some (q 9))) 6 (some (q 10))) 7 (some (q 11)))))))), ((q 4), .inr (0, [.int 0, .int 0, .int 0, .int 0, .int 0, .int 0])), ((q 5), .inr (0, [.int 0, .int 0, .int 0, .int 0, .int 0, .int 0])), ((q 6), .inr (0, [.int 0, .int 0, .int 0, .int 0, .int 0, .int 0])), ((q 7), .inr (0, [.int 0, .int 0, .int 0, .int 0, .int 0, .int 0])), ((q 8), .inr (0, [.int 0, .int 0, .int 0, .int 0, .int 0, .int 0])), ((q 9), .inr (0, [.int 0, .int 0, .int 0, .int 0, .int 0, .int 0])), ((q 10), .inr (0, [.int 0, .int 0, .int 0, .int 0, .int 0, .int 0])), ((q 11), .inr (0, [.int 0, .int 0, .int 0, .int 0, .int 0, .int 0]))]
set_option maxHeartbeats 4000000 in
set_option maxRecDepth 100000 in
theorem c_X1_init (l : Launch) (dC : Nat → ClassId) (dI : Nat → Nat → Nat) (h0 sz : Nat) : Met l yX1_init (Cond.code yX1_init cX1_init 2 none :: wt) ({ frames := 2, cells := 11, slots := 72, locals := 32 }) (va_Pc [.ref h0] (fun U => U.heap.size = sz ∧ va_P (dC, dI) vwCl [(h0, .inr (1, [.int 0, .int 0, .int 0, .int 0, .int 0, .int 0, .null, .null, .null]))] U.heap ∧ va_K (dC, dI) vwCl [] U ∧ va_D (fun _ => True) [(h0, .inr (1, [.int 0, .int 0, .int 0, .int 0, .int 0, .int 0, .null, .null, .null]))] ∧ AX U)) (va_Qv (fun _ : Unit => True) (fun _ t => ∃ (q : Nat → Nat) (c : Nat → ClassId), q 0 = h0 ∧ va_P (dC, dI) vwCl (hW q c) t.heap ∧ va_K (dC, dI) vwCl [(c 0, .int), (c 1, .int), (c 2, .object "CurtainHouse$Curtain")] t ∧ va_D (va_A [(h0, .inr (1, [.int 0, .int 0, .int 0, .int 0, .int 0, .int 0, .null, .null, .null]))] sz) (hW q c)) (va_A [(h0, .inr (1, [.int 0, .int 0, .int 0, .int 0, .int 0, .int 0, .null, .null, .null]))] sz)) 11 72 (va_A [(h0, .inr (1, [.int 0, .int 0, .int 0, .int 0, .int 0, .int 0, .null, .null, .null]))] sz) := by
  refine Met.ofW (cc := cX1_init) (maxL := 2) (ret := none) (by decide) rfl ?_
  intro p e s m args below meth c s₁ B hml hv
  obtain ⟨rfl, hsz, hP, hK, hD0, hAX⟩ := hv
  have hx := B.exec
  have hb := B.bytes
  have hr := B.returns
  have hts0 := atoms_spec (ws := Cond.code yX1_init cX1_init 2 none :: wt) B.pre
  have hts : ∀ w ∈ wt, w.before #[Value.ref h0] s = true := fun w h => hts0 w (List.mem_cons_of_mem _ h)
  have hown : s.vm.findClass RX1 = some m.cls := findClass_of_methodNamed B.named
  have hlocks := B.notSynchronized
  have hin : meth.name = "<init>" := (name_of_methodNamed B.named B.method).1
  subst hsz
  have hD := hD0.self (sz := s.heap.size)
  generalize hAe : va_A [(h0, .inr (1, [.int 0, .int 0, .int 0, .int 0, .int 0, .int 0, .null, .null, .null]))] s.heap.size = A at hD ⊢
  have hA : ∀ q : Nat, s.heap.size ≤ q → A q := fun q h => by rw [← hAe]; exact Or.inr h
  have hS : va_S A s.heap s.heap [] := va_S.rf
  have hl := lv_entry ([.ref h0]) (n := 2) (Nat.le_of_ble_eq_true rfl)
  rw [lg_entry_eq]
  generalize (lg_sl ([.ref h0]) ++ List.replicate (2 - (lg_sl ([.ref h0])).length) Slot.unset).toArray = ls at hl ⊢
  have hl : lv_has ls 2 [(0, .ref h0)] := hl
  refine lv_aload_n hx hb dX1_init_0 rfl (lv_at hl 0 rfl) ?_
  refine W.objInit hx hb hown (hts _ lk_X1_3) (hts _ wt_oi1) (hts _ wt_oi2) rfl (by rw [hml]; exact hl.1) rfl dX1_init_1 (Nat.le_of_ble_eq_true rfl) (Nat.le_of_ble_eq_true rfl) ?_
  refine W.eq (g2 := F0 m 4 ls []) rfl ?_
  refine lv_aload_n hx hb dX1_init_4 rfl (lv_at hl 0 rfl) ?_
  refine lv_iconst (v := 1) hx hb dX1_init_5 (by decide) ?_
  refine va_put (D := (dC, dI)) (ci := 1) (v := .int 1) (ty := .int) (C := RX1) (T := TX1) (N := 9) hx hb hts in_X1 tyX1 tyX1_ok nmX1 hown hK hP hD hS 0 rfl rfl 4 (by decide) (hts _ lk_X1_9) (fun _ h9 => h9) rfl (by decide +kernel) rfl rfl (Nat.le_of_ble_eq_true rfl) dX1_init_6 (fun H locs hP hD hS => ?_)
  have hP : va_P (dC, dI) vwCl [(h0, .inr (1, [.int 0, .int 0, .int 0, .int 0, .int 1, .int 0, .null, .null, .null]))] H := hP
  have hD : va_D A [(h0, .inr (1, [.int 0, .int 0, .int 0, .int 0, .int 1, .int 0, .null, .null, .null]))] := hD
  refine lv_aload_n hx hb dX1_init_9 rfl (lv_at hl 0 rfl) ?_
  refine lv_bipush (v := 6) hx hb dX1_init_10 (by decide) ?_
  refine va_newa (atype := .int) (ty := .int) (N' := 6) (a0 := (6, .inl (fun _ => 0))) hx hb (hts _ wt_arI) rfl hK hP hD hS hA (fun _ => rfl) (by decide) (by decide) (by decide) (Nat.le_of_ble_eq_true rfl) (Nat.le_of_ble_eq_true rfl) dX1_init_12 (fun q1 c1 H hK hP hD hS => ?_)
  have hP : va_P (dC, dI) vwCl [(h0, .inr (1, [.int 0, .int 0, .int 0, .int 0, .int 1, .int 0, .null, .null, .null])), (q1, .inl (c1, 6, .inl (fun _ => 0)))] H := hP
  have hD : va_D A [(h0, .inr (1, [.int 0, .int 0, .int 0, .int 0, .int 1, .int 0, .null, .null, .null])), (q1, .inl (c1, 6, .inl (fun _ => 0)))] := hD
  have hK : va_K (dC, dI) vwCl [(c1, .int)] s := hK
  refine W.widen (k := 1) (n := 6) (by omega) (by omega) ?_
  refine va_putF (D := (dC, dI)) (ci := 1) (v := .ref q1) (ty := .array .int) (C := RX1) (T := TX1) (N := 9) hx hb hts in_X1 tyX1 tyX1_ok nmX1 hown hK hP hD hS 0 rfl rfl 6 (by decide) (hts _ lk_X1_15) (fun _ h9 => h9) rfl hin rfl (by decide +kernel) rfl rfl (Nat.le_of_ble_eq_true rfl) dX1_init_14 (fun H locs hP hD hS => ?_)
  have hP : va_P (dC, dI) vwCl [(h0, .inr (1, [.int 0, .int 0, .int 0, .int 0, .int 1, .int 0, .ref q1, .null, .null])), (q1, .inl (c1, 6, .inl (fun _ => 0)))] H := hP
  have hD : va_D A [(h0, .inr (1, [.int 0, .int 0, .int 0, .int 0, .int 1, .int 0, .ref q1, .null, .null])), (q1, .inl (c1, 6, .inl (fun _ => 0)))] := hD
  refine lv_aload_n hx hb dX1_init_17 rfl (lv_at hl 0 rfl) ?_
  refine lv_bipush (v := 10) hx hb dX1_init_18 (by decide) ?_
  refine va_newa (atype := .int) (ty := .int) (N' := 10) (a0 := (10, .inl (fun _ => 0))) hx hb (hts _ wt_arI) rfl hK hP hD hS hA (fun _ => rfl) (by decide) (by decide) (by decide) (Nat.le_of_ble_eq_true rfl) (Nat.le_of_ble_eq_true rfl) dX1_init_20 (fun q2 c2 H hK hP hD hS => ?_)
  have hP : va_P (dC, dI) vwCl [(h0, .inr (1, [.int 0, .int 0, .int 0, .int 0, .int 1, .int 0, .ref q1, .null, .null])), (q1, .inl (c1, 6, .inl (fun _ => 0))), (q2, .inl (c2, 10, .inl (fun _ => 0)))] H := hP
  have hD : va_D A [(h0, .inr (1, [.int 0, .int 0, .int 0, .int 0, .int 1, .int 0, .ref q1, .null, .null])), (q1, .inl (c1, 6, .inl (fun _ => 0))), (q2, .inl (c2, 10, .inl (fun _ => 0)))] := hD
  have hK : va_K (dC, dI) vwCl [(c1, .int), (c2, .int)] s := hK
  refine W.widen (k := 2) (n := 16) (by omega) (by omega) ?_
  refine va_putF (D := (dC, dI)) (ci := 1) (v := .ref q2) (ty := .array .int) (C := RX1) (T := TX1) (N := 9) hx hb hts in_X1 tyX1 tyX1_ok nmX1 hown hK hP hD hS 0 rfl rfl 7 (by decide) (hts _ lk_X1_19) (fun _ h9 => h9) rfl hin rfl (by decide +kernel) rfl rfl (Nat.le_of_ble_eq_true rfl) dX1_init_22 (fun H locs hP hD hS => ?_)
  have hP : va_P (dC, dI) vwCl [(h0, .inr (1, [.int 0, .int 0, .int 0, .int 0, .int 1, .int 0, .ref q1, .ref q2, .null])), (q1, .inl (c1, 6, .inl (fun _ => 0))), (q2, .inl (c2, 10, .inl (fun _ => 0)))] H := hP
  have hD : va_D A [(h0, .inr (1, [.int 0, .int 0, .int 0, .int 0, .int 1, .int 0, .ref q1, .ref q2, .null])), (q1, .inl (c1, 6, .inl (fun _ => 0))), (q2, .inl (c2, 10, .inl (fun _ => 0)))] := hD
  refine lv_aload_n hx hb dX1_init_25 rfl (lv_at hl 0 rfl) ?_
  refine lv_bipush (v := 8) hx hb dX1_init_26 (by decide) ?_
  refine va_newq (N' := 8) hx hb hown (hts _ wt_kX1_22) hAX.2.1 hK hP hD hS hA (by decide) (by decide) (by decide) (Nat.le_of_ble_eq_true rfl) (Nat.le_of_ble_eq_true rfl) dX1_init_28 (fun q3 c3 H hK hP hD hS => ?_)
  have hP : va_P (dC, dI) vwCl [(h0, .inr (1, [.int 0, .int 0, .int 0, .int 0, .int 1, .int 0, .ref q1, .ref q2, .null])), (q1, .inl (c1, 6, .inl (fun _ => 0))), (q2, .inl (c2, 10, .inl (fun _ => 0))), (q3, .inl (c3, 8, .inr (.inr (.inr (.inr (fun _ => none))))))] H := hP
  have hD : va_D A [(h0, .inr (1, [.int 0, .int 0, .int 0, .int 0, .int 1, .int 0, .ref q1, .ref q2, .null])), (q1, .inl (c1, 6, .inl (fun _ => 0))), (q2, .inl (c2, 10, .inl (fun _ => 0))), (q3, .inl (c3, 8, .inr (.inr (.inr (.inr (fun _ => none))))))] := hD
  have hK : va_K (dC, dI) vwCl [(c1, .int), (c2, .int), (c3, .object "CurtainHouse$Curtain")] s := hK
  refine W.widen (k := 3) (n := 24) (by omega) (by omega) ?_
  refine va_putF (D := (dC, dI)) (ci := 1) (v := .ref q3) (ty := .array (.object "CurtainHouse$Curtain")) (C := RX1) (T := TX1) (N := 9) hx hb hts in_X1 tyX1 tyX1_ok nmX1 hown hK hP hD hS 0 rfl rfl 8 (by decide) (hts _ lk_X1_24) (fun _ h9 => h9) rfl hin rfl (by decide +kernel) rfl rfl (Nat.le_of_ble_eq_true rfl) dX1_init_31 (fun H locs hP hD hS => ?_)
  have hP : va_P (dC, dI) vwCl [(h0, .inr (1, [.int 0, .int 0, .int 0, .int 0, .int 1, .int 0, .ref q1, .ref q2, .ref q3])), (q1, .inl (c1, 6, .inl (fun _ => 0))), (q2, .inl (c2, 10, .inl (fun _ => 0))), (q3, .inl (c3, 8, .inr (.inr (.inr (.inr (fun _ => none))))))] H := hP
  have hD : va_D A [(h0, .inr (1, [.int 0, .int 0, .int 0, .int 0, .int 1, .int 0, .ref q1, .ref q2, .ref q3])), (q1, .inl (c1, 6, .inl (fun _ => 0))), (q2, .inl (c2, 10, .inl (fun _ => 0))), (q3, .inl (c3, 8, .inr (.inr (.inr (.inr (fun _ => none))))))] := hD
  refine lv_iconst (v := 0) hx hb dX1_init_34 (by decide) ?_
  refine lv_istore_n (lv' := [(1, .int 0), (0, .ref h0)]) hx hb dX1_init_35 rfl hl (by decide) rfl (fun ls hl => ?_)
  refine lv_iload_n hx hb dX1_init_36 rfl (lv_at hl 0 rfl) ?_
  refine lv_bipush (v := 6) hx hb dX1_init_37 (by decide) ?_
  refine lv_icmp_ge (tgt := 55) hx hb dX1_init_39 (by decide) (fun c => ?_) (fun c => ?_)
  case refine_1 => exact absurd c (by decide)
  refine lv_aload_n hx hb dX1_init_42 rfl (lv_at hl 1 rfl) ?_
  refine va_get (D := (dC, dI)) (ci := 1) (v := .ref q1) (C := RX1) (T := TX1) (N := 9) hx hb hts in_X1 hown hK hP 0 rfl rfl 6 (by decide) (hts _ lk_X1_15) (fun _ h9 => h9) rfl dX1_init_43 ?_
  refine lv_iload_n hx hb dX1_init_46 rfl (lv_at hl 0 rfl) ?_
  refine lv_iload_n hx hb dX1_init_47 rfl (lv_at hl 0 rfl) ?_
  refine va_iast hx hb hK hP hD hS 1 0 rfl rfl (vin (by decide)) dX1_init_48 (fun H locs hP hD hS => ?_)
  have hP : va_P (dC, dI) vwCl [(h0, .inr (1, [.int 0, .int 0, .int 0, .int 0, .int 1, .int 0, .ref q1, .ref q2, .ref q3])), (q1, .inl (c1, 6, .inl (upd (fun _ => 0) 0 0))), (q2, .inl (c2, 10, .inl (fun _ => 0))), (q3, .inl (c3, 8, .inr (.inr (.inr (.inr (fun _ => none))))))] H := hP
  have hD : va_D A [(h0, .inr (1, [.int 0, .int 0, .int 0, .int 0, .int 1, .int 0, .ref q1, .ref q2, .ref q3])), (q1, .inl (c1, 6, .inl (upd (fun _ => 0) 0 0))), (q2, .inl (c2, 10, .inl (fun _ => 0))), (q3, .inl (c3, 8, .inr (.inr (.inr (.inr (fun _ => none))))))] := hD
  refine lv_iinc (v := 1) (lv' := [(1, .int 1), (0, .ref h0)]) hx hb dX1_init_49 hl (k := 0) rfl (by decide) (by decide) rfl (fun ls hl => ?_)
  refine lv_goto (tgt := 36) hx hb dX1_init_52 (by decide) ?_
  refine lv_iload_n hx hb dX1_init_36 rfl (lv_at hl 0 rfl) ?_
  refine lv_bipush (v := 6) hx hb dX1_init_37 (by decide) ?_
  refine lv_icmp_ge (tgt := 55) hx hb dX1_init_39 (by decide) (fun c => ?_) (fun c => ?_)
  case refine_1 => exact absurd c (by decide)
  refine lv_aload_n hx hb dX1_init_42 rfl (lv_at hl 1 rfl) ?_
  refine va_get (D := (dC, dI)) (ci := 1) (v := .ref q1) (C := RX1) (T := TX1) (N := 9) hx hb hts in_X1 hown hK hP 0 rfl rfl 6 (by decide) (hts _ lk_X1_15) (fun _ h9 => h9) rfl dX1_init_43 ?_
  refine lv_iload_n hx hb dX1_init_46 rfl (lv_at hl 0 rfl) ?_
  refine lv_iload_n hx hb dX1_init_47 rfl (lv_at hl 0 rfl) ?_
  refine va_iast hx hb hK hP hD hS 1 0 rfl rfl (vin (by decide)) dX1_init_48 (fun H locs hP hD hS => ?_)
  have hP : va_P (dC, dI) vwCl [(h0, .inr (1, [.int 0, .int 0, .int 0, .int 0, .int 1, .int 0, .ref q1, .ref q2, .ref q3])), (q1, .inl (c1, 6, .inl (upd (upd (fun _ => 0) 0 0) 1 1))), (q2, .inl (c2, 10, .inl (fun _ => 0))), (q3, .inl (c3, 8, .inr (.inr (.inr (.inr (fun _ => none))))))] H := hP
  have hD : va_D A [(h0, .inr (1, [.int 0, .int 0, .int 0, .int 0, .int 1, .int 0, .ref q1, .ref q2, .ref q3])), (q1, .inl (c1, 6, .inl (upd (upd (fun _ => 0) 0 0) 1 1))), (q2, .inl (c2, 10, .inl (fun _ => 0))), (q3, .inl (c3, 8, .inr (.inr (.inr (.inr (fun _ => none))))))] := hD
  refine lv_iinc (v := 2) (lv' := [(1, .int 2), (0, .ref h0)]) hx hb dX1_init_49 hl (k := 0) rfl (by decide) (by decide) rfl (fun ls hl => ?_)
  refine lv_goto (tgt := 36) hx hb dX1_init_52 (by decide) ?_
  refine lv_iload_n hx hb dX1_init_36 rfl (lv_at hl 0 rfl) ?_
  refine lv_bipush (v := 6) hx hb dX1_init_37 (by decide) ?_
  refine lv_icmp_ge (tgt := 55) hx hb dX1_init_39 (by decide) (fun c => ?_) (fun c => ?_)
  case refine_1 => exact absurd c (by decide)
  refine lv_aload_n hx hb dX1_init_42 rfl (lv_at hl 1 rfl) ?_
  refine va_get (D := (dC, dI)) (ci := 1) (v := .ref q1) (C := RX1) (T := TX1) (N := 9) hx hb hts in_X1 hown hK hP 0 rfl rfl 6 (by decide) (hts _ lk_X1_15) (fun _ h9 => h9) rfl dX1_init_43 ?_
  refine lv_iload_n hx hb dX1_init_46 rfl (lv_at hl 0 rfl) ?_
  refine lv_iload_n hx hb dX1_init_47 rfl (lv_at hl 0 rfl) ?_
  refine va_iast hx hb hK hP hD hS 1 0 rfl rfl (vin (by decide)) dX1_init_48 (fun H locs hP hD hS => ?_)
  have hP : va_P (dC, dI) vwCl [(h0, .inr (1, [.int 0, .int 0, .int 0, .int 0, .int 1, .int 0, .ref q1, .ref q2, .ref q3])), (q1, .inl (c1, 6, .inl (upd (upd (upd (fun _ => 0) 0 0) 1 1) 2 2))), (q2, .inl (c2, 10, .inl (fun _ => 0))), (q3, .inl (c3, 8, .inr (.inr (.inr (.inr (fun _ => none))))))] H := hP
  have hD : va_D A [(h0, .inr (1, [.int 0, .int 0, .int 0, .int 0, .int 1, .int 0, .ref q1, .ref q2, .ref q3])), (q1, .inl (c1, 6, .inl (upd (upd (upd (fun _ => 0) 0 0) 1 1) 2 2))), (q2, .inl (c2, 10, .inl (fun _ => 0))), (q3, .inl (c3, 8, .inr (.inr (.inr (.inr (fun _ => none))))))] := hD
  refine lv_iinc (v := 3) (lv' := [(1, .int 3), (0, .ref h0)]) hx hb dX1_init_49 hl (k := 0) rfl (by decide) (by decide) rfl (fun ls hl => ?_)
  refine lv_goto (tgt := 36) hx hb dX1_init_52 (by decide) ?_
  refine lv_iload_n hx hb dX1_init_36 rfl (lv_at hl 0 rfl) ?_
  refine lv_bipush (v := 6) hx hb dX1_init_37 (by decide) ?_
  refine lv_icmp_ge (tgt := 55) hx hb dX1_init_39 (by decide) (fun c => ?_) (fun c => ?_)
  case refine_1 => exact absurd c (by decide)
  refine lv_aload_n hx hb dX1_init_42 rfl (lv_at hl 1 rfl) ?_
  refine va_get (D := (dC, dI)) (ci := 1) (v := .ref q1) (C := RX1) (T := TX1) (N := 9) hx hb hts in_X1 hown hK hP 0 rfl rfl 6 (by decide) (hts _ lk_X1_15) (fun _ h9 => h9) rfl dX1_init_43 ?_
  refine lv_iload_n hx hb dX1_init_46 rfl (lv_at hl 0 rfl) ?_
  refine lv_iload_n hx hb dX1_init_47 rfl (lv_at hl 0 rfl) ?_
  refine va_iast hx hb hK hP hD hS 1 0 rfl rfl (vin (by decide)) dX1_init_48 (fun H locs hP hD hS => ?_)
  have hP : va_P (dC, dI) vwCl [(h0, .inr (1, [.int 0, .int 0, .int 0, .int 0, .int 1, .int 0, .ref q1, .ref q2, .ref q3])), (q1, .inl (c1, 6, .inl (upd (upd (upd (upd (fun _ => 0) 0 0) 1 1) 2 2) 3 3))), (q2, .inl (c2, 10, .inl (fun _ => 0))), (q3, .inl (c3, 8, .inr (.inr (.inr (.inr (fun _ => none))))))] H := hP
  have hD : va_D A [(h0, .inr (1, [.int 0, .int 0, .int 0, .int 0, .int 1, .int 0, .ref q1, .ref q2, .ref q3])), (q1, .inl (c1, 6, .inl (upd (upd (upd (upd (fun _ => 0) 0 0) 1 1) 2 2) 3 3))), (q2, .inl (c2, 10, .inl (fun _ => 0))), (q3, .inl (c3, 8, .inr (.inr (.inr (.inr (fun _ => none))))))] := hD
  refine lv_iinc (v := 4) (lv' := [(1, .int 4), (0, .ref h0)]) hx hb dX1_init_49 hl (k := 0) rfl (by decide) (by decide) rfl (fun ls hl => ?_)
  refine lv_goto (tgt := 36) hx hb dX1_init_52 (by decide) ?_
  refine lv_iload_n hx hb dX1_init_36 rfl (lv_at hl 0 rfl) ?_
  refine lv_bipush (v := 6) hx hb dX1_init_37 (by decide) ?_
  refine lv_icmp_ge (tgt := 55) hx hb dX1_init_39 (by decide) (fun c => ?_) (fun c => ?_)
  case refine_1 => exact absurd c (by decide)
  refine lv_aload_n hx hb dX1_init_42 rfl (lv_at hl 1 rfl) ?_
  refine va_get (D := (dC, dI)) (ci := 1) (v := .ref q1) (C := RX1) (T := TX1) (N := 9) hx hb hts in_X1 hown hK hP 0 rfl rfl 6 (by decide) (hts _ lk_X1_15) (fun _ h9 => h9) rfl dX1_init_43 ?_
  refine lv_iload_n hx hb dX1_init_46 rfl (lv_at hl 0 rfl) ?_
  refine lv_iload_n hx hb dX1_init_47 rfl (lv_at hl 0 rfl) ?_
  refine va_iast hx hb hK hP hD hS 1 0 rfl rfl (vin (by decide)) dX1_init_48 (fun H locs hP hD hS => ?_)
  have hP : va_P (dC, dI) vwCl [(h0, .inr (1, [.int 0, .int 0, .int 0, .int 0, .int 1, .int 0, .ref q1, .ref q2, .ref q3])), (q1, .inl (c1, 6, .inl (upd (upd (upd (upd (upd (fun _ => 0) 0 0) 1 1) 2 2) 3 3) 4 4))), (q2, .inl (c2, 10, .inl (fun _ => 0))), (q3, .inl (c3, 8, .inr (.inr (.inr (.inr (fun _ => none))))))] H := hP
  have hD : va_D A [(h0, .inr (1, [.int 0, .int 0, .int 0, .int 0, .int 1, .int 0, .ref q1, .ref q2, .ref q3])), (q1, .inl (c1, 6, .inl (upd (upd (upd (upd (upd (fun _ => 0) 0 0) 1 1) 2 2) 3 3) 4 4))), (q2, .inl (c2, 10, .inl (fun _ => 0))), (q3, .inl (c3, 8, .inr (.inr (.inr (.inr (fun _ => none))))))] := hD
  refine lv_iinc (v := 5) (lv' := [(1, .int 5), (0, .ref h0)]) hx hb dX1_init_49 hl (k := 0) rfl (by decide) (by decide) rfl (fun ls hl => ?_)
  refine lv_goto (tgt := 36) hx hb dX1_init_52 (by decide) ?_
  refine lv_iload_n hx hb dX1_init_36 rfl (lv_at hl 0 rfl) ?_
  refine lv_bipush (v := 6) hx hb dX1_init_37 (by decide) ?_
  refine lv_icmp_ge (tgt := 55) hx hb dX1_init_39 (by decide) (fun c => ?_) (fun c => ?_)
  case refine_1 => exact absurd c (by decide)
  refine lv_aload_n hx hb dX1_init_42 rfl (lv_at hl 1 rfl) ?_
  refine va_get (D := (dC, dI)) (ci := 1) (v := .ref q1) (C := RX1) (T := TX1) (N := 9) hx hb hts in_X1 hown hK hP 0 rfl rfl 6 (by decide) (hts _ lk_X1_15) (fun _ h9 => h9) rfl dX1_init_43 ?_
  refine lv_iload_n hx hb dX1_init_46 rfl (lv_at hl 0 rfl) ?_
  refine lv_iload_n hx hb dX1_init_47 rfl (lv_at hl 0 rfl) ?_
  refine va_iast hx hb hK hP hD hS 1 0 rfl rfl (vin (by decide)) dX1_init_48 (fun H locs hP hD hS => ?_)
  have hP : va_P (dC, dI) vwCl [(h0, .inr (1, [.int 0, .int 0, .int 0, .int 0, .int 1, .int 0, .ref q1, .ref q2, .ref q3])), (q1, .inl (c1, 6, .inl (upd (upd (upd (upd (upd (upd (fun _ => 0) 0 0) 1 1) 2 2) 3 3) 4 4) 5 5))), (q2, .inl (c2, 10, .inl (fun _ => 0))), (q3, .inl (c3, 8, .inr (.inr (.inr (.inr (fun _ => none))))))] H := hP
  have hD : va_D A [(h0, .inr (1, [.int 0, .int 0, .int 0, .int 0, .int 1, .int 0, .ref q1, .ref q2, .ref q3])), (q1, .inl (c1, 6, .inl (upd (upd (upd (upd (upd (upd (fun _ => 0) 0 0) 1 1) 2 2) 3 3) 4 4) 5 5))), (q2, .inl (c2, 10, .inl (fun _ => 0))), (q3, .inl (c3, 8, .inr (.inr (.inr (.inr (fun _ => none))))))] := hD
  refine lv_iinc (v := 6) (lv' := [(1, .int 6), (0, .ref h0)]) hx hb dX1_init_49 hl (k := 0) rfl (by decide) (by decide) rfl (fun ls hl => ?_)
  refine lv_goto (tgt := 36) hx hb dX1_init_52 (by decide) ?_
  refine lv_iload_n hx hb dX1_init_36 rfl (lv_at hl 0 rfl) ?_
  refine lv_bipush (v := 6) hx hb dX1_init_37 (by decide) ?_
  refine lv_icmp_ge (tgt := 55) hx hb dX1_init_39 (by decide) (fun c => ?_) (fun c => ?_)
  case refine_2 => exact absurd (by decide) c
  refine lv_iconst (v := 0) hx hb dX1_init_55 (by decide) ?_
  refine lv_istore_n (lv' := [(1, .int 0), (0, .ref h0)]) hx hb dX1_init_56 rfl hl (by decide) rfl (fun ls hl => ?_)
  refine lv_iload_n hx hb dX1_init_57 rfl (lv_at hl 0 rfl) ?_
  refine lv_bipush (v := 10) hx hb dX1_init_58 (by decide) ?_
  refine lv_icmp_ge (tgt := 76) hx hb dX1_init_60 (by decide) (fun c => ?_) (fun c => ?_)
  case refine_1 => exact absurd c (by decide)
  refine lv_aload_n hx hb dX1_init_63 rfl (lv_at hl 1 rfl) ?_
  refine va_get (D := (dC, dI)) (ci := 1) (v := .ref q2) (C := RX1) (T := TX1) (N := 9) hx hb hts in_X1 hown hK hP 0 rfl rfl 7 (by decide) (hts _ lk_X1_19) (fun _ h9 => h9) rfl dX1_init_64 ?_
  refine lv_iload_n hx hb dX1_init_67 rfl (lv_at hl 0 rfl) ?_
  refine lv_iconst (v := (-1)) hx hb dX1_init_68 (by decide) ?_
  refine va_iast hx hb hK hP hD hS 2 1 rfl rfl (vin (by decide)) dX1_init_69 (fun H locs hP hD hS => ?_)
  have hP : va_P (dC, dI) vwCl [(h0, .inr (1, [.int 0, .int 0, .int 0, .int 0, .int 1, .int 0, .ref q1, .ref q2, .ref q3])), (q1, .inl (c1, 6, .inl (upd (upd (upd (upd (upd (upd (fun _ => 0) 0 0) 1 1) 2 2) 3 3) 4 4) 5 5))), (q2, .inl (c2, 10, .inl (upd (fun _ => 0) 0 (-1)))), (q3, .inl (c3, 8, .inr (.inr (.inr (.inr (fun _ => none))))))] H := hP
  have hD : va_D A [(h0, .inr (1, [.int 0, .int 0, .int 0, .int 0, .int 1, .int 0, .ref q1, .ref q2, .ref q3])), (q1, .inl (c1, 6, .inl (upd (upd (upd (upd (upd (upd (fun _ => 0) 0 0) 1 1) 2 2) 3 3) 4 4) 5 5))), (q2, .inl (c2, 10, .inl (upd (fun _ => 0) 0 (-1)))), (q3, .inl (c3, 8, .inr (.inr (.inr (.inr (fun _ => none))))))] := hD
  refine lv_iinc (v := 1) (lv' := [(1, .int 1), (0, .ref h0)]) hx hb dX1_init_70 hl (k := 0) rfl (by decide) (by decide) rfl (fun ls hl => ?_)
  refine lv_goto (tgt := 57) hx hb dX1_init_73 (by decide) ?_
  refine lv_iload_n hx hb dX1_init_57 rfl (lv_at hl 0 rfl) ?_
  refine lv_bipush (v := 10) hx hb dX1_init_58 (by decide) ?_
  refine lv_icmp_ge (tgt := 76) hx hb dX1_init_60 (by decide) (fun c => ?_) (fun c => ?_)
  case refine_1 => exact absurd c (by decide)
  refine lv_aload_n hx hb dX1_init_63 rfl (lv_at hl 1 rfl) ?_
  refine va_get (D := (dC, dI)) (ci := 1) (v := .ref q2) (C := RX1) (T := TX1) (N := 9) hx hb hts in_X1 hown hK hP 0 rfl rfl 7 (by decide) (hts _ lk_X1_19) (fun _ h9 => h9) rfl dX1_init_64 ?_
  refine lv_iload_n hx hb dX1_init_67 rfl (lv_at hl 0 rfl) ?_
  refine lv_iconst (v := (-1)) hx hb dX1_init_68 (by decide) ?_
  refine va_iast hx hb hK hP hD hS 2 1 rfl rfl (vin (by decide)) dX1_init_69 (fun H locs hP hD hS => ?_)
  have hP : va_P (dC, dI) vwCl [(h0, .inr (1, [.int 0, .int 0, .int 0, .int 0, .int 1, .int 0, .ref q1, .ref q2, .ref q3])), (q1, .inl (c1, 6, .inl (upd (upd (upd (upd (upd (upd (fun _ => 0) 0 0) 1 1) 2 2) 3 3) 4 4) 5 5))), (q2, .inl (c2, 10, .inl (upd (upd (fun _ => 0) 0 (-1)) 1 (-1)))), (q3, .inl (c3, 8, .inr (.inr (.inr (.inr (fun _ => none))))))] H := hP
  have hD : va_D A [(h0, .inr (1, [.int 0, .int 0, .int 0, .int 0, .int 1, .int 0, .ref q1, .ref q2, .ref q3])), (q1, .inl (c1, 6, .inl (upd (upd (upd (upd (upd (upd (fun _ => 0) 0 0) 1 1) 2 2) 3 3) 4 4) 5 5))), (q2, .inl (c2, 10, .inl (upd (upd (fun _ => 0) 0 (-1)) 1 (-1)))), (q3, .inl (c3, 8, .inr (.inr (.inr (.inr (fun _ => none))))))] := hD
  refine lv_iinc (v := 2) (lv' := [(1, .int 2), (0, .ref h0)]) hx hb dX1_init_70 hl (k := 0) rfl (by decide) (by decide) rfl (fun ls hl => ?_)
  refine lv_goto (tgt := 57) hx hb dX1_init_73 (by decide) ?_
  refine lv_iload_n hx hb dX1_init_57 rfl (lv_at hl 0 rfl) ?_
  refine lv_bipush (v := 10) hx hb dX1_init_58 (by decide) ?_
  refine lv_icmp_ge (tgt := 76) hx hb dX1_init_60 (by decide) (fun c => ?_) (fun c => ?_)
  case refine_1 => exact absurd c (by decide)
  refine lv_aload_n hx hb dX1_init_63 rfl (lv_at hl 1 rfl) ?_
  refine va_get (D := (dC, dI)) (ci := 1) (v := .ref q2) (C := RX1) (T := TX1) (N := 9) hx hb hts in_X1 hown hK hP 0 rfl rfl 7 (by decide) (hts _ lk_X1_19) (fun _ h9 => h9) rfl dX1_init_64 ?_
  refine lv_iload_n hx hb dX1_init_67 rfl (lv_at hl 0 rfl) ?_
  refine lv_iconst (v := (-1)) hx hb dX1_init_68 (by decide) ?_
  refine va_iast hx hb hK hP hD hS 2 1 rfl rfl (vin (by decide)) dX1_init_69 (fun H locs hP hD hS => ?_)
  have hP : va_P (dC, dI) vwCl [(h0, .inr (1, [.int 0, .int 0, .int 0, .int 0, .int 1, .int 0, .ref q1, .ref q2, .ref q3])), (q1, .inl (c1, 6, .inl (upd (upd (upd (upd (upd (upd (fun _ => 0) 0 0) 1 1) 2 2) 3 3) 4 4) 5 5))), (q2, .inl (c2, 10, .inl (upd (upd (upd (fun _ => 0) 0 (-1)) 1 (-1)) 2 (-1)))), (q3, .inl (c3, 8, .inr (.inr (.inr (.inr (fun _ => none))))))] H := hP
  have hD : va_D A [(h0, .inr (1, [.int 0, .int 0, .int 0, .int 0, .int 1, .int 0, .ref q1, .ref q2, .ref q3])), (q1, .inl (c1, 6, .inl (upd (upd (upd (upd (upd (upd (fun _ => 0) 0 0) 1 1) 2 2) 3 3) 4 4) 5 5))), (q2, .inl (c2, 10, .inl (upd (upd (upd (fun _ => 0) 0 (-1)) 1 (-1)) 2 (-1)))), (q3, .inl (c3, 8, .inr (.inr (.inr (.inr (fun _ => none))))))] := hD
  refine lv_iinc (v := 3) (lv' := [(1, .int 3), (0, .ref h0)]) hx hb dX1_init_70 hl (k := 0) rfl (by decide) (by decide) rfl (fun ls hl => ?_)
  refine lv_goto (tgt := 57) hx hb dX1_init_73 (by decide) ?_
  refine lv_iload_n hx hb dX1_init_57 rfl (lv_at hl 0 rfl) ?_
  refine lv_bipush (v := 10) hx hb dX1_init_58 (by decide) ?_
  refine lv_icmp_ge (tgt := 76) hx hb dX1_init_60 (by decide) (fun c => ?_) (fun c => ?_)
  case refine_1 => exact absurd c (by decide)
  refine lv_aload_n hx hb dX1_init_63 rfl (lv_at hl 1 rfl) ?_
  refine va_get (D := (dC, dI)) (ci := 1) (v := .ref q2) (C := RX1) (T := TX1) (N := 9) hx hb hts in_X1 hown hK hP 0 rfl rfl 7 (by decide) (hts _ lk_X1_19) (fun _ h9 => h9) rfl dX1_init_64 ?_
  refine lv_iload_n hx hb dX1_init_67 rfl (lv_at hl 0 rfl) ?_
  refine lv_iconst (v := (-1)) hx hb dX1_init_68 (by decide) ?_
  refine va_iast hx hb hK hP hD hS 2 1 rfl rfl (vin (by decide)) dX1_init_69 (fun H locs hP hD hS => ?_)
  have hP : va_P (dC, dI) vwCl [(h0, .inr (1, [.int 0, .int 0, .int 0, .int 0, .int 1, .int 0, .ref q1, .ref q2, .ref q3])), (q1, .inl (c1, 6, .inl (upd (upd (upd (upd (upd (upd (fun _ => 0) 0 0) 1 1) 2 2) 3 3) 4 4) 5 5))), (q2, .inl (c2, 10, .inl (upd (upd (upd (upd (fun _ => 0) 0 (-1)) 1 (-1)) 2 (-1)) 3 (-1)))), (q3, .inl (c3, 8, .inr (.inr (.inr (.inr (fun _ => none))))))] H := hP
  have hD : va_D A [(h0, .inr (1, [.int 0, .int 0, .int 0, .int 0, .int 1, .int 0, .ref q1, .ref q2, .ref q3])), (q1, .inl (c1, 6, .inl (upd (upd (upd (upd (upd (upd (fun _ => 0) 0 0) 1 1) 2 2) 3 3) 4 4) 5 5))), (q2, .inl (c2, 10, .inl (upd (upd (upd (upd (fun _ => 0) 0 (-1)) 1 (-1)) 2 (-1)) 3 (-1)))), (q3, .inl (c3, 8, .inr (.inr (.inr (.inr (fun _ => none))))))] := hD
  refine lv_iinc (v := 4) (lv' := [(1, .int 4), (0, .ref h0)]) hx hb dX1_init_70 hl (k := 0) rfl (by decide) (by decide) rfl (fun ls hl => ?_)
  refine lv_goto (tgt := 57) hx hb dX1_init_73 (by decide) ?_
  refine lv_iload_n hx hb dX1_init_57 rfl (lv_at hl 0 rfl) ?_
  refine lv_bipush (v := 10) hx hb dX1_init_58 (by decide) ?_
  refine lv_icmp_ge (tgt := 76) hx hb dX1_init_60 (by decide) (fun c => ?_) (fun c => ?_)
  case refine_1 => exact absurd c (by decide)
  refine lv_aload_n hx hb dX1_init_63 rfl (lv_at hl 1 rfl) ?_
  refine va_get (D := (dC, dI)) (ci := 1) (v := .ref q2) (C := RX1) (T := TX1) (N := 9) hx hb hts in_X1 hown hK hP 0 rfl rfl 7 (by decide) (hts _ lk_X1_19) (fun _ h9 => h9) rfl dX1_init_64 ?_
  refine lv_iload_n hx hb dX1_init_67 rfl (lv_at hl 0 rfl) ?_
  refine lv_iconst (v := (-1)) hx hb dX1_init_68 (by decide) ?_
  refine va_iast hx hb hK hP hD hS 2 1 rfl rfl (vin (by decide)) dX1_init_69 (fun H locs hP hD hS => ?_)
  have hP : va_P (dC, dI) vwCl [(h0, .inr (1, [.int 0, .int 0, .int 0, .int 0, .int 1, .int 0, .ref q1, .ref q2, .ref q3])), (q1, .inl (c1, 6, .inl (upd (upd (upd (upd (upd (upd (fun _ => 0) 0 0) 1 1) 2 2) 3 3) 4 4) 5 5))), (q2, .inl (c2, 10, .inl (upd (upd (upd (upd (upd (fun _ => 0) 0 (-1)) 1 (-1)) 2 (-1)) 3 (-1)) 4 (-1)))), (q3, .inl (c3, 8, .inr (.inr (.inr (.inr (fun _ => none))))))] H := hP
  have hD : va_D A [(h0, .inr (1, [.int 0, .int 0, .int 0, .int 0, .int 1, .int 0, .ref q1, .ref q2, .ref q3])), (q1, .inl (c1, 6, .inl (upd (upd (upd (upd (upd (upd (fun _ => 0) 0 0) 1 1) 2 2) 3 3) 4 4) 5 5))), (q2, .inl (c2, 10, .inl (upd (upd (upd (upd (upd (fun _ => 0) 0 (-1)) 1 (-1)) 2 (-1)) 3 (-1)) 4 (-1)))), (q3, .inl (c3, 8, .inr (.inr (.inr (.inr (fun _ => none))))))] := hD
  refine lv_iinc (v := 5) (lv' := [(1, .int 5), (0, .ref h0)]) hx hb dX1_init_70 hl (k := 0) rfl (by decide) (by decide) rfl (fun ls hl => ?_)
  refine lv_goto (tgt := 57) hx hb dX1_init_73 (by decide) ?_
  refine lv_iload_n hx hb dX1_init_57 rfl (lv_at hl 0 rfl) ?_
  refine lv_bipush (v := 10) hx hb dX1_init_58 (by decide) ?_
  refine lv_icmp_ge (tgt := 76) hx hb dX1_init_60 (by decide) (fun c => ?_) (fun c => ?_)
  case refine_1 => exact absurd c (by decide)
  refine lv_aload_n hx hb dX1_init_63 rfl (lv_at hl 1 rfl) ?_
  refine va_get (D := (dC, dI)) (ci := 1) (v := .ref q2) (C := RX1) (T := TX1) (N := 9) hx hb hts in_X1 hown hK hP 0 rfl rfl 7 (by decide) (hts _ lk_X1_19) (fun _ h9 => h9) rfl dX1_init_64 ?_
  refine lv_iload_n hx hb dX1_init_67 rfl (lv_at hl 0 rfl) ?_
  refine lv_iconst (v := (-1)) hx hb dX1_init_68 (by decide) ?_
  refine va_iast hx hb hK hP hD hS 2 1 rfl rfl (vin (by decide)) dX1_init_69 (fun H locs hP hD hS => ?_)
  have hP : va_P (dC, dI) vwCl [(h0, .inr (1, [.int 0, .int 0, .int 0, .int 0, .int 1, .int 0, .ref q1, .ref q2, .ref q3])), (q1, .inl (c1, 6, .inl (upd (upd (upd (upd (upd (upd (fun _ => 0) 0 0) 1 1) 2 2) 3 3) 4 4) 5 5))), (q2, .inl (c2, 10, .inl (upd (upd (upd (upd (upd (upd (fun _ => 0) 0 (-1)) 1 (-1)) 2 (-1)) 3 (-1)) 4 (-1)) 5 (-1)))), (q3, .inl (c3, 8, .inr (.inr (.inr (.inr (fun _ => none))))))] H := hP
  have hD : va_D A [(h0, .inr (1, [.int 0, .int 0, .int 0, .int 0, .int 1, .int 0, .ref q1, .ref q2, .ref q3])), (q1, .inl (c1, 6, .inl (upd (upd (upd (upd (upd (upd (fun _ => 0) 0 0) 1 1) 2 2) 3 3) 4 4) 5 5))), (q2, .inl (c2, 10, .inl (upd (upd (upd (upd (upd (upd (fun _ => 0) 0 (-1)) 1 (-1)) 2 (-1)) 3 (-1)) 4 (-1)) 5 (-1)))), (q3, .inl (c3, 8, .inr (.inr (.inr (.inr (fun _ => none))))))] := hD
  refine lv_iinc (v := 6) (lv' := [(1, .int 6), (0, .ref h0)]) hx hb dX1_init_70 hl (k := 0) rfl (by decide) (by decide) rfl (fun ls hl => ?_)
  refine lv_goto (tgt := 57) hx hb dX1_init_73 (by decide) ?_
  refine lv_iload_n hx hb dX1_init_57 rfl (lv_at hl 0 rfl) ?_
  refine lv_bipush (v := 10) hx hb dX1_init_58 (by decide) ?_
  refine lv_icmp_ge (tgt := 76) hx hb dX1_init_60 (by decide) (fun c => ?_) (fun c => ?_)
  case refine_1 => exact absurd c (by decide)
  refine lv_aload_n hx hb dX1_init_63 rfl (lv_at hl 1 rfl) ?_
  refine va_get (D := (dC, dI)) (ci := 1) (v := .ref q2) (C := RX1) (T := TX1) (N := 9) hx hb hts in_X1 hown hK hP 0 rfl rfl 7 (by decide) (hts _ lk_X1_19) (fun _ h9 => h9) rfl dX1_init_64 ?_
  refine lv_iload_n hx hb dX1_init_67 rfl (lv_at hl 0 rfl) ?_
  refine lv_iconst (v := (-1)) hx hb dX1_init_68 (by decide) ?_
  refine va_iast hx hb hK hP hD hS 2 1 rfl rfl (vin (by decide)) dX1_init_69 (fun H locs hP hD hS => ?_)
  have hP : va_P (dC, dI) vwCl [(h0, .inr (1, [.int 0, .int 0, .int 0, .int 0, .int 1, .int 0, .ref q1, .ref q2, .ref q3])), (q1, .inl (c1, 6, .inl (upd (upd (upd (upd (upd (upd (fun _ => 0) 0 0) 1 1) 2 2) 3 3) 4 4) 5 5))), (q2, .inl (c2, 10, .inl (upd (upd (upd (upd (upd (upd (upd (fun _ => 0) 0 (-1)) 1 (-1)) 2 (-1)) 3 (-1)) 4 (-1)) 5 (-1)) 6 (-1)))), (q3, .inl (c3, 8, .inr (.inr (.inr (.inr (fun _ => none))))))] H := hP
  have hD : va_D A [(h0, .inr (1, [.int 0, .int 0, .int 0, .int 0, .int 1, .int 0, .ref q1, .ref q2, .ref q3])), (q1, .inl (c1, 6, .inl (upd (upd (upd (upd (upd (upd (fun _ => 0) 0 0) 1 1) 2 2) 3 3) 4 4) 5 5))), (q2, .inl (c2, 10, .inl (upd (upd (upd (upd (upd (upd (upd (fun _ => 0) 0 (-1)) 1 (-1)) 2 (-1)) 3 (-1)) 4 (-1)) 5 (-1)) 6 (-1)))), (q3, .inl (c3, 8, .inr (.inr (.inr (.inr (fun _ => none))))))] := hD
  refine lv_iinc (v := 7) (lv' := [(1, .int 7), (0, .ref h0)]) hx hb dX1_init_70 hl (k := 0) rfl (by decide) (by decide) rfl (fun ls hl => ?_)
  refine lv_goto (tgt := 57) hx hb dX1_init_73 (by decide) ?_
  refine lv_iload_n hx hb dX1_init_57 rfl (lv_at hl 0 rfl) ?_
  refine lv_bipush (v := 10) hx hb dX1_init_58 (by decide) ?_
  refine lv_icmp_ge (tgt := 76) hx hb dX1_init_60 (by decide) (fun c => ?_) (fun c => ?_)
  case refine_1 => exact absurd c (by decide)
  refine lv_aload_n hx hb dX1_init_63 rfl (lv_at hl 1 rfl) ?_
  refine va_get (D := (dC, dI)) (ci := 1) (v := .ref q2) (C := RX1) (T := TX1) (N := 9) hx hb hts in_X1 hown hK hP 0 rfl rfl 7 (by decide) (hts _ lk_X1_19) (fun _ h9 => h9) rfl dX1_init_64 ?_
  refine lv_iload_n hx hb dX1_init_67 rfl (lv_at hl 0 rfl) ?_
  refine lv_iconst (v := (-1)) hx hb dX1_init_68 (by decide) ?_
  refine va_iast hx hb hK hP hD hS 2 1 rfl rfl (vin (by decide)) dX1_init_69 (fun H locs hP hD hS => ?_)
  have hP : va_P (dC, dI) vwCl [(h0, .inr (1, [.int 0, .int 0, .int 0, .int 0, .int 1, .int 0, .ref q1, .ref q2, .ref q3])), (q1, .inl (c1, 6, .inl (upd (upd (upd (upd (upd (upd (fun _ => 0) 0 0) 1 1) 2 2) 3 3) 4 4) 5 5))), (q2, .inl (c2, 10, .inl (upd (upd (upd (upd (upd (upd (upd (upd (fun _ => 0) 0 (-1)) 1 (-1)) 2 (-1)) 3 (-1)) 4 (-1)) 5 (-1)) 6 (-1)) 7 (-1)))), (q3, .inl (c3, 8, .inr (.inr (.inr (.inr (fun _ => none))))))] H := hP
  have hD : va_D A [(h0, .inr (1, [.int 0, .int 0, .int 0, .int 0, .int 1, .int 0, .ref q1, .ref q2, .ref q3])), (q1, .inl (c1, 6, .inl (upd (upd (upd (upd (upd (upd (fun _ => 0) 0 0) 1 1) 2 2) 3 3) 4 4) 5 5))), (q2, .inl (c2, 10, .inl (upd (upd (upd (upd (upd (upd (upd (upd (fun _ => 0) 0 (-1)) 1 (-1)) 2 (-1)) 3 (-1)) 4 (-1)) 5 (-1)) 6 (-1)) 7 (-1)))), (q3, .inl (c3, 8, .inr (.inr (.inr (.inr (fun _ => none))))))] := hD
  refine lv_iinc (v := 8) (lv' := [(1, .int 8), (0, .ref h0)]) hx hb dX1_init_70 hl (k := 0) rfl (by decide) (by decide) rfl (fun ls hl => ?_)
  refine lv_goto (tgt := 57) hx hb dX1_init_73 (by decide) ?_
  refine lv_iload_n hx hb dX1_init_57 rfl (lv_at hl 0 rfl) ?_
  refine lv_bipush (v := 10) hx hb dX1_init_58 (by decide) ?_
  refine lv_icmp_ge (tgt := 76) hx hb dX1_init_60 (by decide) (fun c => ?_) (fun c => ?_)
  case refine_1 => exact absurd c (by decide)
  refine lv_aload_n hx hb dX1_init_63 rfl (lv_at hl 1 rfl) ?_
  refine va_get (D := (dC, dI)) (ci := 1) (v := .ref q2) (C := RX1) (T := TX1) (N := 9) hx hb hts in_X1 hown hK hP 0 rfl rfl 7 (by decide) (hts _ lk_X1_19) (fun _ h9 => h9) rfl dX1_init_64 ?_
  refine lv_iload_n hx hb dX1_init_67 rfl (lv_at hl 0 rfl) ?_
  refine lv_iconst (v := (-1)) hx hb dX1_init_68 (by decide) ?_
  refine va_iast hx hb hK hP hD hS 2 1 rfl rfl (vin (by decide)) dX1_init_69 (fun H locs hP hD hS => ?_)
  have hP : va_P (dC, dI) vwCl [(h0, .inr (1, [.int 0, .int 0, .int 0, .int 0, .int 1, .int 0, .ref q1, .ref q2, .ref q3])), (q1, .inl (c1, 6, .inl (upd (upd (upd (upd (upd (upd (fun _ => 0) 0 0) 1 1) 2 2) 3 3) 4 4) 5 5))), (q2, .inl (c2, 10, .inl (upd (upd (upd (upd (upd (upd (upd (upd (upd (fun _ => 0) 0 (-1)) 1 (-1)) 2 (-1)) 3 (-1)) 4 (-1)) 5 (-1)) 6 (-1)) 7 (-1)) 8 (-1)))), (q3, .inl (c3, 8, .inr (.inr (.inr (.inr (fun _ => none))))))] H := hP
  have hD : va_D A [(h0, .inr (1, [.int 0, .int 0, .int 0, .int 0, .int 1, .int 0, .ref q1, .ref q2, .ref q3])), (q1, .inl (c1, 6, .inl (upd (upd (upd (upd (upd (upd (fun _ => 0) 0 0) 1 1) 2 2) 3 3) 4 4) 5 5))), (q2, .inl (c2, 10, .inl (upd (upd (upd (upd (upd (upd (upd (upd (upd (fun _ => 0) 0 (-1)) 1 (-1)) 2 (-1)) 3 (-1)) 4 (-1)) 5 (-1)) 6 (-1)) 7 (-1)) 8 (-1)))), (q3, .inl (c3, 8, .inr (.inr (.inr (.inr (fun _ => none))))))] := hD
  refine lv_iinc (v := 9) (lv' := [(1, .int 9), (0, .ref h0)]) hx hb dX1_init_70 hl (k := 0) rfl (by decide) (by decide) rfl (fun ls hl => ?_)
  refine lv_goto (tgt := 57) hx hb dX1_init_73 (by decide) ?_
  refine lv_iload_n hx hb dX1_init_57 rfl (lv_at hl 0 rfl) ?_
  refine lv_bipush (v := 10) hx hb dX1_init_58 (by decide) ?_
  refine lv_icmp_ge (tgt := 76) hx hb dX1_init_60 (by decide) (fun c => ?_) (fun c => ?_)
  case refine_1 => exact absurd c (by decide)
  refine lv_aload_n hx hb dX1_init_63 rfl (lv_at hl 1 rfl) ?_
  refine va_get (D := (dC, dI)) (ci := 1) (v := .ref q2) (C := RX1) (T := TX1) (N := 9) hx hb hts in_X1 hown hK hP 0 rfl rfl 7 (by decide) (hts _ lk_X1_19) (fun _ h9 => h9) rfl dX1_init_64 ?_
  refine lv_iload_n hx hb dX1_init_67 rfl (lv_at hl 0 rfl) ?_
  refine lv_iconst (v := (-1)) hx hb dX1_init_68 (by decide) ?_
  refine va_iast hx hb hK hP hD hS 2 1 rfl rfl (vin (by decide)) dX1_init_69 (fun H locs hP hD hS => ?_)
  have hP : va_P (dC, dI) vwCl [(h0, .inr (1, [.int 0, .int 0, .int 0, .int 0, .int 1, .int 0, .ref q1, .ref q2, .ref q3])), (q1, .inl (c1, 6, .inl (upd (upd (upd (upd (upd (upd (fun _ => 0) 0 0) 1 1) 2 2) 3 3) 4 4) 5 5))), (q2, .inl (c2, 10, .inl (upd (upd (upd (upd (upd (upd (upd (upd (upd (upd (fun _ => 0) 0 (-1)) 1 (-1)) 2 (-1)) 3 (-1)) 4 (-1)) 5 (-1)) 6 (-1)) 7 (-1)) 8 (-1)) 9 (-1)))), (q3, .inl (c3, 8, .inr (.inr (.inr (.inr (fun _ => none))))))] H := hP
  have hD : va_D A [(h0, .inr (1, [.int 0, .int 0, .int 0, .int 0, .int 1, .int 0, .ref q1, .ref q2, .ref q3])), (q1, .inl (c1, 6, .inl (upd (upd (upd (upd (upd (upd (fun _ => 0) 0 0) 1 1) 2 2) 3 3) 4 4) 5 5))), (q2, .inl (c2, 10, .inl (upd (upd (upd (upd (upd (upd (upd (upd (upd (upd (fun _ => 0) 0 (-1)) 1 (-1)) 2 (-1)) 3 (-1)) 4 (-1)) 5 (-1)) 6 (-1)) 7 (-1)) 8 (-1)) 9 (-1)))), (q3, .inl (c3, 8, .inr (.inr (.inr (.inr (fun _ => none))))))] := hD
  refine lv_iinc (v := 10) (lv' := [(1, .int 10), (0, .ref h0)]) hx hb dX1_init_70 hl (k := 0) rfl (by decide) (by decide) rfl (fun ls hl => ?_)
  refine lv_goto (tgt := 57) hx hb dX1_init_73 (by decide) ?_
  refine lv_iload_n hx hb dX1_init_57 rfl (lv_at hl 0 rfl) ?_
  refine lv_bipush (v := 10) hx hb dX1_init_58 (by decide) ?_
  refine lv_icmp_ge (tgt := 76) hx hb dX1_init_60 (by decide) (fun c => ?_) (fun c => ?_)
  case refine_2 => exact absurd (by decide) c
  refine lv_iconst (v := 0) hx hb dX1_init_76 (by decide) ?_
  refine lv_istore_n (lv' := [(1, .int 0), (0, .ref h0)]) hx hb dX1_init_77 rfl hl (by decide) rfl (fun ls hl => ?_)
  refine lv_iload_n hx hb dX1_init_78 rfl (lv_at hl 0 rfl) ?_
  refine lv_bipush (v := 8) hx hb dX1_init_79 (by decide) ?_
  refine lv_icmp_ge (tgt := 103) hx hb dX1_init_81 (by decide) (fun c => ?_) (fun c => ?_)
  case refine_1 => exact absurd c (by decide)
  refine lv_aload_n hx hb dX1_init_84 rfl (lv_at hl 1 rfl) ?_
  refine va_get (D := (dC, dI)) (ci := 1) (v := .ref q3) (C := RX1) (T := TX1) (N := 9) hx hb hts in_X1 hown hK hP 0 rfl rfl 8 (by decide) (hts _ lk_X1_24) (fun _ h9 => h9) rfl dX1_init_85 ?_
  refine lv_iload_n hx hb dX1_init_88 rfl (lv_at hl 0 rfl) ?_
  refine va_new (ci := 0) (fs := [.int 0, .int 0, .int 0, .int 0, .int 0, .int 0]) (C := RX0) (T := TX0) (N := 6) hx hb hts in_X0 tyX0 tyX0_ok hown (hts _ wt_kX1_22) (hts _ wt_n0) (hts _ wt_i0) hK hP hD hS hA rfl (fun j hj => by rcases (show j = 0 ∨ j = 1 ∨ j = 2 ∨ j = 3 ∨ j = 4 ∨ j = 5 by omega) with rfl | rfl | rfl | rfl | rfl | rfl <;> rfl) (Nat.le_of_ble_eq_true rfl) (Nat.le_of_ble_eq_true rfl) dX1_init_89 (fun q4 H hP hD hS => ?_)
  have hP : va_P (dC, dI) vwCl [(h0, .inr (1, [.int 0, .int 0, .int 0, .int 0, .int 1, .int 0, .ref q1, .ref q2, .ref q3])), (q1, .inl (c1, 6, .inl (upd (upd (upd (upd (upd (upd (fun _ => 0) 0 0) 1 1) 2 2) 3 3) 4 4) 5 5))), (q2, .inl (c2, 10, .inl (upd (upd (upd (upd (upd (upd (upd (upd (upd (upd (fun _ => 0) 0 (-1)) 1 (-1)) 2 (-1)) 3 (-1)) 4 (-1)) 5 (-1)) 6 (-1)) 7 (-1)) 8 (-1)) 9 (-1)))), (q3, .inl (c3, 8, .inr (.inr (.inr (.inr (fun _ => none)))))), (q4, .inr (0, [.int 0, .int 0, .int 0, .int 0, .int 0, .int 0]))] H := hP
  have hD : va_D A [(h0, .inr (1, [.int 0, .int 0, .int 0, .int 0, .int 1, .int 0, .ref q1, .ref q2, .ref q3])), (q1, .inl (c1, 6, .inl (upd (upd (upd (upd (upd (upd (fun _ => 0) 0 0) 1 1) 2 2) 3 3) 4 4) 5 5))), (q2, .inl (c2, 10, .inl (upd (upd (upd (upd (upd (upd (upd (upd (upd (upd (fun _ => 0) 0 (-1)) 1 (-1)) 2 (-1)) 3 (-1)) 4 (-1)) 5 (-1)) 6 (-1)) 7 (-1)) 8 (-1)) 9 (-1)))), (q3, .inl (c3, 8, .inr (.inr (.inr (.inr (fun _ => none)))))), (q4, .inr (0, [.int 0, .int 0, .int 0, .int 0, .int 0, .int 0]))] := hD
  refine W.widen (k := 4) (n := 30) (by omega) (by omega) ?_
  refine lv_dup hx hb dX1_init_92 rfl ?_
  have hPc := hP.sub (ws' := [(q4, .inr (0, [.int 0, .int 0, .int 0, .int 0, .int 0, .int 0]))]) [4] rfl
  have hDc := hD.sub (ws' := [(q4, .inr (0, [.int 0, .int 0, .int 0, .int 0, .int 0, .int 0]))]) [4] (by decide) rfl
  have hKc := hK.sub (tys' := []) [] rfl
  have hFc := va_free (wc := [(q4, .inr (0, [.int 0, .int 0, .int 0, .int 0, .int 0, .int 0]))]) hD hS hA [4] rfl
  refine va_callv (va_runIN (As := []) (rest := [.ref q4, .int 0, .ref q3]) ⟨hx, hb, hml, hown, hts⟩ (c_X0_init l dC dI q4 H.size) ⟨va_cnB (host := "CurtainHouse") 0 hts (gin_c wt_c0) rfl rfl rfl (hAX.1 _ (by decide +kernel)) (hts _ wt_i0) ⟨(by decide +kernel), (by decide +kernel), (by decide +kernel)⟩ ⟨(Nat.le_of_ble_eq_true rfl), (Nat.le_of_ble_eq_true rfl)⟩, rfl, hts _ wt_m0⟩ ⟨fun a U g mk q => by obtain ⟨q0, q1, qP, qK, qD, qX⟩ := q; exact ⟨q0, q1, qP, va_K.moved (u := U) (U := U.calling g mk a) (Vm.Alike.refl U.vm) qK, qD, AX.same (u := U) rfl qX⟩, fun U hU hW => ⟨rfl, by rw [hU], by rw [hU]; exact hPc, va_K.moved hW.alike hKc, hDc.weaken (fun _ _ _ _ => trivial), hAX.warm hW⟩⟩ rfl rfl hl.1 rfl (lv_room (Nat.le_of_ble_eq_true rfl)) dX1_init_93 ⟨(Nat.le_of_ble_eq_true rfl), (Nat.le_of_ble_eq_true rfl)⟩) hS (fun q _ h => hFc q h) hFc (fun u t H1 locs ht hvm hw hB hz1 hk1 hS => ?_)
  obtain ⟨hP1, hK1, hD1⟩ := hB
  rw [ht] at hP1
  have hK1 := va_K.moved hvm.symm hK1
  obtain ⟨hP, hD⟩ := va_join (wr := [(h0, .inr (1, [.int 0, .int 0, .int 0, .int 0, .int 1, .int 0, .ref q1, .ref q2, .ref q3])), (q1, .inl (c1, 6, .inl (upd (upd (upd (upd (upd (upd (fun _ => 0) 0 0) 1 1) 2 2) 3 3) 4 4) 5 5))), (q2, .inl (c2, 10, .inl (upd (upd (upd (upd (upd (upd (upd (upd (upd (upd (fun _ => 0) 0 (-1)) 1 (-1)) 2 (-1)) 3 (-1)) 4 (-1)) 5 (-1)) 6 (-1)) 7 (-1)) 8 (-1)) 9 (-1)))), (q3, .inl (c3, 8, .inr (.inr (.inr (.inr (fun _ => none))))))]) (w1 := [(q4, .inr (0, [.int 0, .int 0, .int 0, .int 0, .int 0, .int 0]))]) hP hD [4] [0, 1, 2, 3] rfl rfl (by decide) (by decide) hk1 hFc hP1 hD1
  have hK := (hK.sub (tys' := [(c1, .int), (c2, .int), (c3, .object "CurtainHouse$Curtain")]) [0, 1, 2] rfl).app hK1
  generalize H1 = H at hP hS ⊢
  have hP : va_P (dC, dI) vwCl [(h0, .inr (1, [.int 0, .int 0, .int 0, .int 0, .int 1, .int 0, .ref q1, .ref q2, .ref q3])), (q1, .inl (c1, 6, .inl (upd (upd (upd (upd (upd (upd (fun _ => 0) 0 0) 1 1) 2 2) 3 3) 4 4) 5 5))), (q2, .inl (c2, 10, .inl (upd (upd (upd (upd (upd (upd (upd (upd (upd (upd (fun _ => 0) 0 (-1)) 1 (-1)) 2 (-1)) 3 (-1)) 4 (-1)) 5 (-1)) 6 (-1)) 7 (-1)) 8 (-1)) 9 (-1)))), (q3, .inl (c3, 8, .inr (.inr (.inr (.inr (fun _ => none)))))), (q4, .inr (0, [.int 0, .int 0, .int 0, .int 0, .int 0, .int 0]))] H := hP
  have hD : va_D A [(h0, .inr (1, [.int 0, .int 0, .int 0, .int 0, .int 1, .int 0, .ref q1, .ref q2, .ref q3])), (q1, .inl (c1, 6, .inl (upd (upd (upd (upd (upd (upd (fun _ => 0) 0 0) 1 1) 2 2) 3 3) 4 4) 5 5))), (q2, .inl (c2, 10, .inl (upd (upd (upd (upd (upd (upd (upd (upd (upd (upd (fun _ => 0) 0 (-1)) 1 (-1)) 2 (-1)) 3 (-1)) 4 (-1)) 5 (-1)) 6 (-1)) 7 (-1)) 8 (-1)) 9 (-1)))), (q3, .inl (c3, 8, .inr (.inr (.inr (.inr (fun _ => none)))))), (q4, .inr (0, [.int 0, .int 0, .int 0, .int 0, .int 0, .int 0]))] := hD
  have hK : va_K (dC, dI) vwCl [(c1, .int), (c2, .int), (c3, .object "CurtainHouse$Curtain")] s := hK
  refine W.widen (k := 4) (n := 30) (by omega) (by omega) ?_
  refine va_astq hx hb hK hP hD hS 3 2 4 0 rfl rfl rfl rfl (vin (by decide)) dX1_init_96 (fun H locs hP hD hS => ?_)
  have hP : va_P (dC, dI) vwCl [(h0, .inr (1, [.int 0, .int 0, .int 0, .int 0, .int 1, .int 0, .ref q1, .ref q2, .ref q3])), (q1, .inl (c1, 6, .inl (upd (upd (upd (upd (upd (upd (fun _ => 0) 0 0) 1 1) 2 2) 3 3) 4 4) 5 5))), (q2, .inl (c2, 10, .inl (upd (upd (upd (upd (upd (upd (upd (upd (upd (upd (fun _ => 0) 0 (-1)) 1 (-1)) 2 (-1)) 3 (-1)) 4 (-1)) 5 (-1)) 6 (-1)) 7 (-1)) 8 (-1)) 9 (-1)))), (q3, .inl (c3, 8, .inr (.inr (.inr (.inr (va_up (fun _ => none) 0 (some q4))))))), (q4, .inr (0, [.int 0, .int 0, .int 0, .int 0, .int 0, .int 0]))] H := hP
  have hD : va_D A [(h0, .inr (1, [.int 0, .int 0, .int 0, .int 0, .int 1, .int 0, .ref q1, .ref q2, .ref q3])), (q1, .inl (c1, 6, .inl (upd (upd (upd (upd (upd (upd (fun _ => 0) 0 0) 1 1) 2 2) 3 3) 4 4) 5 5))), (q2, .inl (c2, 10, .inl (upd (upd (upd (upd (upd (upd (upd (upd (upd (upd (fun _ => 0) 0 (-1)) 1 (-1)) 2 (-1)) 3 (-1)) 4 (-1)) 5 (-1)) 6 (-1)) 7 (-1)) 8 (-1)) 9 (-1)))), (q3, .inl (c3, 8, .inr (.inr (.inr (.inr (va_up (fun _ => none) 0 (some q4))))))), (q4, .inr (0, [.int 0, .int 0, .int 0, .int 0, .int 0, .int 0]))] := hD
  refine lv_iinc (v := 1) (lv' := [(1, .int 1), (0, .ref h0)]) hx hb dX1_init_97 hl (k := 0) rfl (by decide) (by decide) rfl (fun ls hl => ?_)
  refine lv_goto (tgt := 78) hx hb dX1_init_100 (by decide) ?_
  refine lv_iload_n hx hb dX1_init_78 rfl (lv_at hl 0 rfl) ?_
  refine lv_bipush (v := 8) hx hb dX1_init_79 (by decide) ?_
  refine lv_icmp_ge (tgt := 103) hx hb dX1_init_81 (by decide) (fun c => ?_) (fun c => ?_)
  case refine_1 => exact absurd c (by decide)
  refine lv_aload_n hx hb dX1_init_84 rfl (lv_at hl 1 rfl) ?_
  refine va_get (D := (dC, dI)) (ci := 1) (v := .ref q3) (C := RX1) (T := TX1) (N := 9) hx hb hts in_X1 hown hK hP 0 rfl rfl 8 (by decide) (hts _ lk_X1_24) (fun _ h9 => h9) rfl dX1_init_85 ?_
  refine lv_iload_n hx hb dX1_init_88 rfl (lv_at hl 0 rfl) ?_
  refine va_new (ci := 0) (fs := [.int 0, .int 0, .int 0, .int 0, .int 0, .int 0]) (C := RX0) (T := TX0) (N := 6) hx hb hts in_X0 tyX0 tyX0_ok hown (hts _ wt_kX1_22) (hts _ wt_n0) (hts _ wt_i0) hK hP hD hS hA rfl (fun j hj => by rcases (show j = 0 ∨ j = 1 ∨ j = 2 ∨ j = 3 ∨ j = 4 ∨ j = 5 by omega) with rfl | rfl | rfl | rfl | rfl | rfl <;> rfl) (Nat.le_of_ble_eq_true rfl) (Nat.le_of_ble_eq_true rfl) dX1_init_89 (fun q6 H hP hD hS => ?_)
  have hP : va_P (dC, dI) vwCl [(h0, .inr (1, [.int 0, .int 0, .int 0, .int 0, .int 1, .int 0, .ref q1, .ref q2, .ref q3])), (q1, .inl (c1, 6, .inl (upd (upd (upd (upd (upd (upd (fun _ => 0) 0 0) 1 1) 2 2) 3 3) 4 4) 5 5))), (q2, .inl (c2, 10, .inl (upd (upd (upd (upd (upd (upd (upd (upd (upd (upd (fun _ => 0) 0 (-1)) 1 (-1)) 2 (-1)) 3 (-1)) 4 (-1)) 5 (-1)) 6 (-1)) 7 (-1)) 8 (-1)) 9 (-1)))), (q3, .inl (c3, 8, .inr (.inr (.inr (.inr (va_up (fun _ => none) 0 (some q4))))))), (q4, .inr (0, [.int 0, .int 0, .int 0, .int 0, .int 0, .int 0])), (q6, .inr (0, [.int 0, .int 0, .int 0, .int 0, .int 0, .int 0]))] H := hP
  have hD : va_D A [(h0, .inr (1, [.int 0, .int 0, .int 0, .int 0, .int 1, .int 0, .ref q1, .ref q2, .ref q3])), (q1, .inl (c1, 6, .inl (upd (upd (upd (upd (upd (upd (fun _ => 0) 0 0) 1 1) 2 2) 3 3) 4 4) 5 5))), (q2, .inl (c2, 10, .inl (upd (upd (upd (upd (upd (upd (upd (upd (upd (upd (fun _ => 0) 0 (-1)) 1 (-1)) 2 (-1)) 3 (-1)) 4 (-1)) 5 (-1)) 6 (-1)) 7 (-1)) 8 (-1)) 9 (-1)))), (q3, .inl (c3, 8, .inr (.inr (.inr (.inr (va_up (fun _ => none) 0 (some q4))))))), (q4, .inr (0, [.int 0, .int 0, .int 0, .int 0, .int 0, .int 0])), (q6, .inr (0, [.int 0, .int 0, .int 0, .int 0, .int 0, .int 0]))] := hD
  refine W.widen (k := 5) (n := 36) (by omega) (by omega) ?_
  refine lv_dup hx hb dX1_init_92 rfl ?_
  have hPc := hP.sub (ws' := [(q6, .inr (0, [.int 0, .int 0, .int 0, .int 0, .int 0, .int 0]))]) [5] rfl
  have hDc := hD.sub (ws' := [(q6, .inr (0, [.int 0, .int 0, .int 0, .int 0, .int 0, .int 0]))]) [5] (by decide) rfl
  have hKc := hK.sub (tys' := []) [] rfl
  have hFc := va_free (wc := [(q6, .inr (0, [.int 0, .int 0, .int 0, .int 0, .int 0, .int 0]))]) hD hS hA [5] rfl
  refine va_callv (va_runIN (As := []) (rest := [.ref q6, .int 1, .ref q3]) ⟨hx, hb, hml, hown, hts⟩ (c_X0_init l dC dI q6 H.size) ⟨va_cnB (host := "CurtainHouse") 0 hts (gin_c wt_c0) rfl rfl rfl (hAX.1 _ (by decide +kernel)) (hts _ wt_i0) ⟨(by decide +kernel), (by decide +kernel), (by decide +kernel)⟩ ⟨(Nat.le_of_ble_eq_true rfl), (Nat.le_of_ble_eq_true rfl)⟩, rfl, hts _ wt_m0⟩ ⟨fun a U g mk q => by obtain ⟨q0, q1, qP, qK, qD, qX⟩ := q; exact ⟨q0, q1, qP, va_K.moved (u := U) (U := U.calling g mk a) (Vm.Alike.refl U.vm) qK, qD, AX.same (u := U) rfl qX⟩, fun U hU hW => ⟨rfl, by rw [hU], by rw [hU]; exact hPc, va_K.moved hW.alike hKc, hDc.weaken (fun _ _ _ _ => trivial), hAX.warm hW⟩⟩ rfl rfl hl.1 rfl (lv_room (Nat.le_of_ble_eq_true rfl)) dX1_init_93 ⟨(Nat.le_of_ble_eq_true rfl), (Nat.le_of_ble_eq_true rfl)⟩) hS (fun q _ h => hFc q h) hFc (fun u t H1 locs ht hvm hw hB hz1 hk1 hS => ?_)
  obtain ⟨hP1, hK1, hD1⟩ := hB
  rw [ht] at hP1
  have hK1 := va_K.moved hvm.symm hK1
  obtain ⟨hP, hD⟩ := va_join (wr := [(h0, .inr (1, [.int 0, .int 0, .int 0, .int 0, .int 1, .int 0, .ref q1, .ref q2, .ref q3])), (q1, .inl (c1, 6, .inl (upd (upd (upd (upd (upd (upd (fun _ => 0) 0 0) 1 1) 2 2) 3 3) 4 4) 5 5))), (q2, .inl (c2, 10, .inl (upd (upd (upd (upd (upd (upd (upd (upd (upd (upd (fun _ => 0) 0 (-1)) 1 (-1)) 2 (-1)) 3 (-1)) 4 (-1)) 5 (-1)) 6 (-1)) 7 (-1)) 8 (-1)) 9 (-1)))), (q3, .inl (c3, 8, .inr (.inr (.inr (.inr (va_up (fun _ => none) 0 (some q4))))))), (q4, .inr (0, [.int 0, .int 0, .int 0, .int 0, .int 0, .int 0]))]) (w1 := [(q6, .inr (0, [.int 0, .int 0, .int 0, .int 0, .int 0, .int 0]))]) hP hD [5] [0, 1, 2, 3, 4] rfl rfl (by decide) (by decide) hk1 hFc hP1 hD1
  have hK := (hK.sub (tys' := [(c1, .int), (c2, .int), (c3, .object "CurtainHouse$Curtain")]) [0, 1, 2] rfl).app hK1
  generalize H1 = H at hP hS ⊢
  have hP : va_P (dC, dI) vwCl [(h0, .inr (1, [.int 0, .int 0, .int 0, .int 0, .int 1, .int 0, .ref q1, .ref q2, .ref q3])), (q1, .inl (c1, 6, .inl (upd (upd (upd (upd (upd (upd (fun _ => 0) 0 0) 1 1) 2 2) 3 3) 4 4) 5 5))), (q2, .inl (c2, 10, .inl (upd (upd (upd (upd (upd (upd (upd (upd (upd (upd (fun _ => 0) 0 (-1)) 1 (-1)) 2 (-1)) 3 (-1)) 4 (-1)) 5 (-1)) 6 (-1)) 7 (-1)) 8 (-1)) 9 (-1)))), (q3, .inl (c3, 8, .inr (.inr (.inr (.inr (va_up (fun _ => none) 0 (some q4))))))), (q4, .inr (0, [.int 0, .int 0, .int 0, .int 0, .int 0, .int 0])), (q6, .inr (0, [.int 0, .int 0, .int 0, .int 0, .int 0, .int 0]))] H := hP
  have hD : va_D A [(h0, .inr (1, [.int 0, .int 0, .int 0, .int 0, .int 1, .int 0, .ref q1, .ref q2, .ref q3])), (q1, .inl (c1, 6, .inl (upd (upd (upd (upd (upd (upd (fun _ => 0) 0 0) 1 1) 2 2) 3 3) 4 4) 5 5))), (q2, .inl (c2, 10, .inl (upd (upd (upd (upd (upd (upd (upd (upd (upd (upd (fun _ => 0) 0 (-1)) 1 (-1)) 2 (-1)) 3 (-1)) 4 (-1)) 5 (-1)) 6 (-1)) 7 (-1)) 8 (-1)) 9 (-1)))), (q3, .inl (c3, 8, .inr (.inr (.inr (.inr (va_up (fun _ => none) 0 (some q4))))))), (q4, .inr (0, [.int 0, .int 0, .int 0, .int 0, .int 0, .int 0])), (q6, .inr (0, [.int 0, .int 0, .int 0, .int 0, .int 0, .int 0]))] := hD
  have hK : va_K (dC, dI) vwCl [(c1, .int), (c2, .int), (c3, .object "CurtainHouse$Curtain")] s := hK
  refine W.widen (k := 5) (n := 36) (by omega) (by omega) ?_
  refine va_astq hx hb hK hP hD hS 3 2 5 0 rfl rfl rfl rfl (vin (by decide)) dX1_init_96 (fun H locs hP hD hS => ?_)
  have hP : va_P (dC, dI) vwCl [(h0, .inr (1, [.int 0, .int 0, .int 0, .int 0, .int 1, .int 0, .ref q1, .ref q2, .ref q3])), (q1, .inl (c1, 6, .inl (upd (upd (upd (upd (upd (upd (fun _ => 0) 0 0) 1 1) 2 2) 3 3) 4 4) 5 5))), (q2, .inl (c2, 10, .inl (upd (upd (upd (upd (upd (upd (upd (upd (upd (upd (fun _ => 0) 0 (-1)) 1 (-1)) 2 (-1)) 3 (-1)) 4 (-1)) 5 (-1)) 6 (-1)) 7 (-1)) 8 (-1)) 9 (-1)))), (q3, .inl (c3, 8, .inr (.inr (.inr (.inr (va_up (va_up (fun _ => none) 0 (some q4)) 1 (some q6))))))), (q4, .inr (0, [.int 0, .int 0, .int 0, .int 0, .int 0, .int 0])), (q6, .inr (0, [.int 0, .int 0, .int 0, .int 0, .int 0, .int 0]))] H := hP
  have hD : va_D A [(h0, .inr (1, [.int 0, .int 0, .int 0, .int 0, .int 1, .int 0, .ref q1, .ref q2, .ref q3])), (q1, .inl (c1, 6, .inl (upd (upd (upd (upd (upd (upd (fun _ => 0) 0 0) 1 1) 2 2) 3 3) 4 4) 5 5))), (q2, .inl (c2, 10, .inl (upd (upd (upd (upd (upd (upd (upd (upd (upd (upd (fun _ => 0) 0 (-1)) 1 (-1)) 2 (-1)) 3 (-1)) 4 (-1)) 5 (-1)) 6 (-1)) 7 (-1)) 8 (-1)) 9 (-1)))), (q3, .inl (c3, 8, .inr (.inr (.inr (.inr (va_up (va_up (fun _ => none) 0 (some q4)) 1 (some q6))))))), (q4, .inr (0, [.int 0, .int 0, .int 0, .int 0, .int 0, .int 0])), (q6, .inr (0, [.int 0, .int 0, .int 0, .int 0, .int 0, .int 0]))] := hD
  refine lv_iinc (v := 2) (lv' := [(1, .int 2), (0, .ref h0)]) hx hb dX1_init_97 hl (k := 0) rfl (by decide) (by decide) rfl (fun ls hl => ?_)
  refine lv_goto (tgt := 78) hx hb dX1_init_100 (by decide) ?_
  refine lv_iload_n hx hb dX1_init_78 rfl (lv_at hl 0 rfl) ?_
  refine lv_bipush (v := 8) hx hb dX1_init_79 (by decide) ?_
  refine lv_icmp_ge (tgt := 103) hx hb dX1_init_81 (by decide) (fun c => ?_) (fun c => ?_)
  case refine_1 => exact absurd c (by decide)
  refine lv_aload_n hx hb dX1_init_84 rfl (lv_at hl 1 rfl) ?_
  refine va_get (D := (dC, dI)) (ci := 1) (v := .ref q3) (C := RX1) (T := TX1) (N := 9) hx hb hts in_X1 hown hK hP 0 rfl rfl 8 (by decide) (hts _ lk_X1_24) (fun _ h9 => h9) rfl dX1_init_85 ?_
  refine lv_iload_n hx hb dX1_init_88 rfl (lv_at hl 0 rfl) ?_
  refine va_new (ci := 0) (fs := [.int 0, .int 0, .int 0, .int 0, .int 0, .int 0]) (C := RX0) (T := TX0) (N := 6) hx hb hts in_X0 tyX0 tyX0_ok hown (hts _ wt_kX1_22) (hts _ wt_n0) (hts _ wt_i0) hK hP hD hS hA rfl (fun j hj => by rcases (show j = 0 ∨ j = 1 ∨ j = 2 ∨ j = 3 ∨ j = 4 ∨ j = 5 by omega) with rfl | rfl | rfl | rfl | rfl | rfl <;> rfl) (Nat.le_of_ble_eq_true rfl) (Nat.le_of_ble_eq_true rfl) dX1_init_89 (fun q8 H hP hD hS => ?_)
  have hP : va_P (dC, dI) vwCl [(h0, .inr (1, [.int 0, .int 0, .int 0, .int 0, .int 1, .int 0, .ref q1, .ref q2, .ref q3])), (q1, .inl (c1, 6, .inl (upd (upd (upd (upd (upd (upd (fun _ => 0) 0 0) 1 1) 2 2) 3 3) 4 4) 5 5))), (q2, .inl (c2, 10, .inl (upd (upd (upd (upd (upd (upd (upd (upd (upd (upd (fun _ => 0) 0 (-1)) 1 (-1)) 2 (-1)) 3 (-1)) 4 (-1)) 5 (-1)) 6 (-1)) 7 (-1)) 8 (-1)) 9 (-1)))), (q3, .inl (c3, 8, .inr (.inr (.inr (.inr (va_up (va_up (fun _ => none) 0 (some q4)) 1 (some q6))))))), (q4, .inr (0, [.int 0, .int 0, .int 0, .int 0, .int 0, .int 0])), (q6, .inr (0, [.int 0, .int 0, .int 0, .int 0, .int 0, .int 0])), (q8, .inr (0, [.int 0, .int 0, .int 0, .int 0, .int 0, .int 0]))] H := hP
  have hD : va_D A [(h0, .inr (1, [.int 0, .int 0, .int 0, .int 0, .int 1, .int 0, .ref q1, .ref q2, .ref q3])), (q1, .inl (c1, 6, .inl (upd (upd (upd (upd (upd (upd (fun _ => 0) 0 0) 1 1) 2 2) 3 3) 4 4) 5 5))), (q2, .inl (c2, 10, .inl (upd (upd (upd (upd (upd (upd (upd (upd (upd (upd (fun _ => 0) 0 (-1)) 1 (-1)) 2 (-1)) 3 (-1)) 4 (-1)) 5 (-1)) 6 (-1)) 7 (-1)) 8 (-1)) 9 (-1)))), (q3, .inl (c3, 8, .inr (.inr (.inr (.inr (va_up (va_up (fun _ => none) 0 (some q4)) 1 (some q6))))))), (q4, .inr (0, [.int 0, .int 0, .int 0, .int 0, .int 0, .int 0])), (q6, .inr (0, [.int 0, .int 0, .int 0, .int 0, .int 0, .int 0])), (q8, .inr (0, [.int 0, .int 0, .int 0, .int 0, .int 0, .int 0]))] := hD
  refine W.widen (k := 6) (n := 42) (by omega) (by omega) ?_
  refine lv_dup hx hb dX1_init_92 rfl ?_
  have hPc := hP.sub (ws' := [(q8, .inr (0, [.int 0, .int 0, .int 0, .int 0, .int 0, .int 0]))]) [6] rfl
  have hDc := hD.sub (ws' := [(q8, .inr (0, [.int 0, .int 0, .int 0, .int 0, .int 0, .int 0]))]) [6] (by decide) rfl
  have hKc := hK.sub (tys' := []) [] rfl
  have hFc := va_free (wc := [(q8, .inr (0, [.int 0, .int 0, .int 0, .int 0, .int 0, .int 0]))]) hD hS hA [6] rfl
  refine va_callv (va_runIN (As := []) (rest := [.ref q8, .int 2, .ref q3]) ⟨hx, hb, hml, hown, hts⟩ (c_X0_init l dC dI q8 H.size) ⟨va_cnB (host := "CurtainHouse") 0 hts (gin_c wt_c0) rfl rfl rfl (hAX.1 _ (by decide +kernel)) (hts _ wt_i0) ⟨(by decide +kernel), (by decide +kernel), (by decide +kernel)⟩ ⟨(Nat.le_of_ble_eq_true rfl), (Nat.le_of_ble_eq_true rfl)⟩, rfl, hts _ wt_m0⟩ ⟨fun a U g mk q => by obtain ⟨q0, q1, qP, qK, qD, qX⟩ := q; exact ⟨q0, q1, qP, va_K.moved (u := U) (U := U.calling g mk a) (Vm.Alike.refl U.vm) qK, qD, AX.same (u := U) rfl qX⟩, fun U hU hW => ⟨rfl, by rw [hU], by rw [hU]; exact hPc, va_K.moved hW.alike hKc, hDc.weaken (fun _ _ _ _ => trivial), hAX.warm hW⟩⟩ rfl rfl hl.1 rfl (lv_room (Nat.le_of_ble_eq_true rfl)) dX1_init_93 ⟨(Nat.le_of_ble_eq_true rfl), (Nat.le_of_ble_eq_true rfl)⟩) hS (fun q _ h => hFc q h) hFc (fun u t H1 locs ht hvm hw hB hz1 hk1 hS => ?_)
  obtain ⟨hP1, hK1, hD1⟩ := hB
  rw [ht] at hP1
  have hK1 := va_K.moved hvm.symm hK1
  obtain ⟨hP, hD⟩ := va_join (wr := [(h0, .inr (1, [.int 0, .int 0, .int 0, .int 0, .int 1, .int 0, .ref q1, .ref q2, .ref q3])), (q1, .inl (c1, 6, .inl (upd (upd (upd (upd (upd (upd (fun _ => 0) 0 0) 1 1) 2 2) 3 3) 4 4) 5 5))), (q2, .inl (c2, 10, .inl (upd (upd (upd (upd (upd (upd (upd (upd (upd (upd (fun _ => 0) 0 (-1)) 1 (-1)) 2 (-1)) 3 (-1)) 4 (-1)) 5 (-1)) 6 (-1)) 7 (-1)) 8 (-1)) 9 (-1)))), (q3, .inl (c3, 8, .inr (.inr (.inr (.inr (va_up (va_up (fun _ => none) 0 (some q4)) 1 (some q6))))))), (q4, .inr (0, [.int 0, .int 0, .int 0, .int 0, .int 0, .int 0])), (q6, .inr (0, [.int 0, .int 0, .int 0, .int 0, .int 0, .int 0]))]) (w1 := [(q8, .inr (0, [.int 0, .int 0, .int 0, .int 0, .int 0, .int 0]))]) hP hD [6] [0, 1, 2, 3, 4, 5] rfl rfl (by decide) (by decide) hk1 hFc hP1 hD1
  have hK := (hK.sub (tys' := [(c1, .int), (c2, .int), (c3, .object "CurtainHouse$Curtain")]) [0, 1, 2] rfl).app hK1
  generalize H1 = H at hP hS ⊢
  have hP : va_P (dC, dI) vwCl [(h0, .inr (1, [.int 0, .int 0, .int 0, .int 0, .int 1, .int 0, .ref q1, .ref q2, .ref q3])), (q1, .inl (c1, 6, .inl (upd (upd (upd (upd (upd (upd (fun _ => 0) 0 0) 1 1) 2 2) 3 3) 4 4) 5 5))), (q2, .inl (c2, 10, .inl (upd (upd (upd (upd (upd (upd (upd (upd (upd (upd (fun _ => 0) 0 (-1)) 1 (-1)) 2 (-1)) 3 (-1)) 4 (-1)) 5 (-1)) 6 (-1)) 7 (-1)) 8 (-1)) 9 (-1)))), (q3, .inl (c3, 8, .inr (.inr (.inr (.inr (va_up (va_up (fun _ => none) 0 (some q4)) 1 (some q6))))))), (q4, .inr (0, [.int 0, .int 0, .int 0, .int 0, .int 0, .int 0])), (q6, .inr (0, [.int 0, .int 0, .int 0, .int 0, .int 0, .int 0])), (q8, .inr (0, [.int 0, .int 0, .int 0, .int 0, .int 0, .int 0]))] H := hP
  have hD : va_D A [(h0, .inr (1, [.int 0, .int 0, .int 0, .int 0, .int 1, .int 0, .ref q1, .ref q2, .ref q3])), (q1, .inl (c1, 6, .inl (upd (upd (upd (upd (upd (upd (fun _ => 0) 0 0) 1 1) 2 2) 3 3) 4 4) 5 5))), (q2, .inl (c2, 10, .inl (upd (upd (upd (upd (upd (upd (upd (upd (upd (upd (fun _ => 0) 0 (-1)) 1 (-1)) 2 (-1)) 3 (-1)) 4 (-1)) 5 (-1)) 6 (-1)) 7 (-1)) 8 (-1)) 9 (-1)))), (q3, .inl (c3, 8, .inr (.inr (.inr (.inr (va_up (va_up (fun _ => none) 0 (some q4)) 1 (some q6))))))), (q4, .inr (0, [.int 0, .int 0, .int 0, .int 0, .int 0, .int 0])), (q6, .inr (0, [.int 0, .int 0, .int 0, .int 0, .int 0, .int 0])), (q8, .inr (0, [.int 0, .int 0, .int 0, .int 0, .int 0, .int 0]))] := hD
  have hK : va_K (dC, dI) vwCl [(c1, .int), (c2, .int), (c3, .object "CurtainHouse$Curtain")] s := hK
  refine W.widen (k := 6) (n := 42) (by omega) (by omega) ?_
  refine va_astq hx hb hK hP hD hS 3 2 6 0 rfl rfl rfl rfl (vin (by decide)) dX1_init_96 (fun H locs hP hD hS => ?_)
  have hP : va_P (dC, dI) vwCl [(h0, .inr (1, [.int 0, .int 0, .int 0, .int 0, .int 1, .int 0, .ref q1, .ref q2, .ref q3])), (q1, .inl (c1, 6, .inl (upd (upd (upd (upd (upd (upd (fun _ => 0) 0 0) 1 1) 2 2) 3 3) 4 4) 5 5))), (q2, .inl (c2, 10, .inl (upd (upd (upd (upd (upd (upd (upd (upd (upd (upd (fun _ => 0) 0 (-1)) 1 (-1)) 2 (-1)) 3 (-1)) 4 (-1)) 5 (-1)) 6 (-1)) 7 (-1)) 8 (-1)) 9 (-1)))), (q3, .inl (c3, 8, .inr (.inr (.inr (.inr (va_up (va_up (va_up (fun _ => none) 0 (some q4)) 1 (some q6)) 2 (some q8))))))), (q4, .inr (0, [.int 0, .int 0, .int 0, .int 0, .int 0, .int 0])), (q6, .inr (0, [.int 0, .int 0, .int 0, .int 0, .int 0, .int 0])), (q8, .inr (0, [.int 0, .int 0, .int 0, .int 0, .int 0, .int 0]))] H := hP
  have hD : va_D A [(h0, .inr (1, [.int 0, .int 0, .int 0, .int 0, .int 1, .int 0, .ref q1, .ref q2, .ref q3])), (q1, .inl (c1, 6, .inl (upd (upd (upd (upd (upd (upd (fun _ => 0) 0 0) 1 1) 2 2) 3 3) 4 4) 5 5))), (q2, .inl (c2, 10, .inl (upd (upd (upd (upd (upd (upd (upd (upd (upd (upd (fun _ => 0) 0 (-1)) 1 (-1)) 2 (-1)) 3 (-1)) 4 (-1)) 5 (-1)) 6 (-1)) 7 (-1)) 8 (-1)) 9 (-1)))), (q3, .inl (c3, 8, .inr (.inr (.inr (.inr (va_up (va_up (va_up (fun _ => none) 0 (some q4)) 1 (some q6)) 2 (some q8))))))), (q4, .inr (0, [.int 0, .int 0, .int 0, .int 0, .int 0, .int 0])), (q6, .inr (0, [.int 0, .int 0, .int 0, .int 0, .int 0, .int 0])), (q8, .inr (0, [.int 0, .int 0, .int 0, .int 0, .int 0, .int 0]))] := hD
  refine lv_iinc (v := 3) (lv' := [(1, .int 3), (0, .ref h0)]) hx hb dX1_init_97 hl (k := 0) rfl (by decide) (by decide) rfl (fun ls hl => ?_)
  refine lv_goto (tgt := 78) hx hb dX1_init_100 (by decide) ?_
  refine lv_iload_n hx hb dX1_init_78 rfl (lv_at hl 0 rfl) ?_
  refine lv_bipush (v := 8) hx hb dX1_init_79 (by decide) ?_
  refine lv_icmp_ge (tgt := 103) hx hb dX1_init_81 (by decide) (fun c => ?_) (fun c => ?_)
  case refine_1 => exact absurd c (by decide)
  refine lv_aload_n hx hb dX1_init_84 rfl (lv_at hl 1 rfl) ?_
  refine va_get (D := (dC, dI)) (ci := 1) (v := .ref q3) (C := RX1) (T := TX1) (N := 9) hx hb hts in_X1 hown hK hP 0 rfl rfl 8 (by decide) (hts _ lk_X1_24) (fun _ h9 => h9) rfl dX1_init_85 ?_
  refine lv_iload_n hx hb dX1_init_88 rfl (lv_at hl 0 rfl) ?_
  refine va_new (ci := 0) (fs := [.int 0, .int 0, .int 0, .int 0, .int 0, .int 0]) (C := RX0) (T := TX0) (N := 6) hx hb hts in_X0 tyX0 tyX0_ok hown (hts _ wt_kX1_22) (hts _ wt_n0) (hts _ wt_i0) hK hP hD hS hA rfl (fun j hj => by rcases (show j = 0 ∨ j = 1 ∨ j = 2 ∨ j = 3 ∨ j = 4 ∨ j = 5 by omega) with rfl | rfl | rfl | rfl | rfl | rfl <;> rfl) (Nat.le_of_ble_eq_true rfl) (Nat.le_of_ble_eq_true rfl) dX1_init_89 (fun q10 H hP hD hS => ?_)
  have hP : va_P (dC, dI) vwCl [(h0, .inr (1, [.int 0, .int 0, .int 0, .int 0, .int 1, .int 0, .ref q1, .ref q2, .ref q3])), (q1, .inl (c1, 6, .inl (upd (upd (upd (upd (upd (upd (fun _ => 0) 0 0) 1 1) 2 2) 3 3) 4 4) 5 5))), (q2, .inl (c2, 10, .inl (upd (upd (upd (upd (upd (upd (upd (upd (upd (upd (fun _ => 0) 0 (-1)) 1 (-1)) 2 (-1)) 3 (-1)) 4 (-1)) 5 (-1)) 6 (-1)) 7 (-1)) 8 (-1)) 9 (-1)))), (q3, .inl (c3, 8, .inr (.inr (.inr (.inr (va_up (va_up (va_up (fun _ => none) 0 (some q4)) 1 (some q6)) 2 (some q8))))))), (q4, .inr (0, [.int 0, .int 0, .int 0, .int 0, .int 0, .int 0])), (q6, .inr (0, [.int 0, .int 0, .int 0, .int 0, .int 0, .int 0])), (q8, .inr (0, [.int 0, .int 0, .int 0, .int 0, .int 0, .int 0])), (q10, .inr (0, [.int 0, .int 0, .int 0, .int 0, .int 0, .int 0]))] H := hP
  have hD : va_D A [(h0, .inr (1, [.int 0, .int 0, .int 0, .int 0, .int 1, .int 0, .ref q1, .ref q2, .ref q3])), (q1, .inl (c1, 6, .inl (upd (upd (upd (upd (upd (upd (fun _ => 0) 0 0) 1 1) 2 2) 3 3) 4 4) 5 5))), (q2, .inl (c2, 10, .inl (upd (upd (upd (upd (upd (upd (upd (upd (upd (upd (fun _ => 0) 0 (-1)) 1 (-1)) 2 (-1)) 3 (-1)) 4 (-1)) 5 (-1)) 6 (-1)) 7 (-1)) 8 (-1)) 9 (-1)))), (q3, .inl (c3, 8, .inr (.inr (.inr (.inr (va_up (va_up (va_up (fun _ => none) 0 (some q4)) 1 (some q6)) 2 (some q8))))))), (q4, .inr (0, [.int 0, .int 0, .int 0, .int 0, .int 0, .int 0])), (q6, .inr (0, [.int 0, .int 0, .int 0, .int 0, .int 0, .int 0])), (q8, .inr (0, [.int 0, .int 0, .int 0, .int 0, .int 0, .int 0])), (q10, .inr (0, [.int 0, .int 0, .int 0, .int 0, .int 0, .int 0]))] := hD
  refine W.widen (k := 7) (n := 48) (by omega) (by omega) ?_
  refine lv_dup hx hb dX1_init_92 rfl ?_
  have hPc := hP.sub (ws' := [(q10, .inr (0, [.int 0, .int 0, .int 0, .int 0, .int 0, .int 0]))]) [7] rfl
  have hDc := hD.sub (ws' := [(q10, .inr (0, [.int 0, .int 0, .int 0, .int 0, .int 0, .int 0]))]) [7] (by decide) rfl
  have hKc := hK.sub (tys' := []) [] rfl
  have hFc := va_free (wc := [(q10, .inr (0, [.int 0, .int 0, .int 0, .int 0, .int 0, .int 0]))]) hD hS hA [7] rfl
  refine va_callv (va_runIN (As := []) (rest := [.ref q10, .int 3, .ref q3]) ⟨hx, hb, hml, hown, hts⟩ (c_X0_init l dC dI q10 H.size) ⟨va_cnB (host := "CurtainHouse") 0 hts (gin_c wt_c0) rfl rfl rfl (hAX.1 _ (by decide +kernel)) (hts _ wt_i0) ⟨(by decide +kernel), (by decide +kernel), (by decide +kernel)⟩ ⟨(Nat.le_of_ble_eq_true rfl), (Nat.le_of_ble_eq_true rfl)⟩, rfl, hts _ wt_m0⟩ ⟨fun a U g mk q => by obtain ⟨q0, q1, qP, qK, qD, qX⟩ := q; exact ⟨q0, q1, qP, va_K.moved (u := U) (U := U.calling g mk a) (Vm.Alike.refl U.vm) qK, qD, AX.same (u := U) rfl qX⟩, fun U hU hW => ⟨rfl, by rw [hU], by rw [hU]; exact hPc, va_K.moved hW.alike hKc, hDc.weaken (fun _ _ _ _ => trivial), hAX.warm hW⟩⟩ rfl rfl hl.1 rfl (lv_room (Nat.le_of_ble_eq_true rfl)) dX1_init_93 ⟨(Nat.le_of_ble_eq_true rfl), (Nat.le_of_ble_eq_true rfl)⟩) hS (fun q _ h => hFc q h) hFc (fun u t H1 locs ht hvm hw hB hz1 hk1 hS => ?_)
  obtain ⟨hP1, hK1, hD1⟩ := hB
  rw [ht] at hP1
  have hK1 := va_K.moved hvm.symm hK1
  obtain ⟨hP, hD⟩ := va_join (wr := [(h0, .inr (1, [.int 0, .int 0, .int 0, .int 0, .int 1, .int 0, .ref q1, .ref q2, .ref q3])), (q1, .inl (c1, 6, .inl (upd (upd (upd (upd (upd (upd (fun _ => 0) 0 0) 1 1) 2 2) 3 3) 4 4) 5 5))), (q2, .inl (c2, 10, .inl (upd (upd (upd (upd (upd (upd (upd (upd (upd (upd (fun _ => 0) 0 (-1)) 1 (-1)) 2 (-1)) 3 (-1)) 4 (-1)) 5 (-1)) 6 (-1)) 7 (-1)) 8 (-1)) 9 (-1)))), (q3, .inl (c3, 8, .inr (.inr (.inr (.inr (va_up (va_up (va_up (fun _ => none) 0 (some q4)) 1 (some q6)) 2 (some q8))))))), (q4, .inr (0, [.int 0, .int 0, .int 0, .int 0, .int 0, .int 0])), (q6, .inr (0, [.int 0, .int 0, .int 0, .int 0, .int 0, .int 0])), (q8, .inr (0, [.int 0, .int 0, .int 0, .int 0, .int 0, .int 0]))]) (w1 := [(q10, .inr (0, [.int 0, .int 0, .int 0, .int 0, .int 0, .int 0]))]) hP hD [7] [0, 1, 2, 3, 4, 5, 6] rfl rfl (by decide) (by decide) hk1 hFc hP1 hD1
  have hK := (hK.sub (tys' := [(c1, .int), (c2, .int), (c3, .object "CurtainHouse$Curtain")]) [0, 1, 2] rfl).app hK1
  generalize H1 = H at hP hS ⊢
  have hP : va_P (dC, dI) vwCl [(h0, .inr (1, [.int 0, .int 0, .int 0, .int 0, .int 1, .int 0, .ref q1, .ref q2, .ref q3])), (q1, .inl (c1, 6, .inl (upd (upd (upd (upd (upd (upd (fun _ => 0) 0 0) 1 1) 2 2) 3 3) 4 4) 5 5))), (q2, .inl (c2, 10, .inl (upd (upd (upd (upd (upd (upd (upd (upd (upd (upd (fun _ => 0) 0 (-1)) 1 (-1)) 2 (-1)) 3 (-1)) 4 (-1)) 5 (-1)) 6 (-1)) 7 (-1)) 8 (-1)) 9 (-1)))), (q3, .inl (c3, 8, .inr (.inr (.inr (.inr (va_up (va_up (va_up (fun _ => none) 0 (some q4)) 1 (some q6)) 2 (some q8))))))), (q4, .inr (0, [.int 0, .int 0, .int 0, .int 0, .int 0, .int 0])), (q6, .inr (0, [.int 0, .int 0, .int 0, .int 0, .int 0, .int 0])), (q8, .inr (0, [.int 0, .int 0, .int 0, .int 0, .int 0, .int 0])), (q10, .inr (0, [.int 0, .int 0, .int 0, .int 0, .int 0, .int 0]))] H := hP
  have hD : va_D A [(h0, .inr (1, [.int 0, .int 0, .int 0, .int 0, .int 1, .int 0, .ref q1, .ref q2, .ref q3])), (q1, .inl (c1, 6, .inl (upd (upd (upd (upd (upd (upd (fun _ => 0) 0 0) 1 1) 2 2) 3 3) 4 4) 5 5))), (q2, .inl (c2, 10, .inl (upd (upd (upd (upd (upd (upd (upd (upd (upd (upd (fun _ => 0) 0 (-1)) 1 (-1)) 2 (-1)) 3 (-1)) 4 (-1)) 5 (-1)) 6 (-1)) 7 (-1)) 8 (-1)) 9 (-1)))), (q3, .inl (c3, 8, .inr (.inr (.inr (.inr (va_up (va_up (va_up (fun _ => none) 0 (some q4)) 1 (some q6)) 2 (some q8))))))), (q4, .inr (0, [.int 0, .int 0, .int 0, .int 0, .int 0, .int 0])), (q6, .inr (0, [.int 0, .int 0, .int 0, .int 0, .int 0, .int 0])), (q8, .inr (0, [.int 0, .int 0, .int 0, .int 0, .int 0, .int 0])), (q10, .inr (0, [.int 0, .int 0, .int 0, .int 0, .int 0, .int 0]))] := hD
  have hK : va_K (dC, dI) vwCl [(c1, .int), (c2, .int), (c3, .object "CurtainHouse$Curtain")] s := hK
  refine W.widen (k := 7) (n := 48) (by omega) (by omega) ?_
  refine va_astq hx hb hK hP hD hS 3 2 7 0 rfl rfl rfl rfl (vin (by decide)) dX1_init_96 (fun H locs hP hD hS => ?_)
  have hP : va_P (dC, dI) vwCl [(h0, .inr (1, [.int 0, .int 0, .int 0, .int 0, .int 1, .int 0, .ref q1, .ref q2, .ref q3])), (q1, .inl (c1, 6, .inl (upd (upd (upd (upd (upd (upd (fun _ => 0) 0 0) 1 1) 2 2) 3 3) 4 4) 5 5))), (q2, .inl (c2, 10, .inl (upd (upd (upd (upd (upd (upd (upd (upd (upd (upd (fun _ => 0) 0 (-1)) 1 (-1)) 2 (-1)) 3 (-1)) 4 (-1)) 5 (-1)) 6 (-1)) 7 (-1)) 8 (-1)) 9 (-1)))), (q3, .inl (c3, 8, .inr (.inr (.inr (.inr (va_up (va_up (va_up (va_up (fun _ => none) 0 (some q4)) 1 (some q6)) 2 (some q8)) 3 (some q10))))))), (q4, .inr (0, [.int 0, .int 0, .int 0, .int 0, .int 0, .int 0])), (q6, .inr (0, [.int 0, .int 0, .int 0, .int 0, .int 0, .int 0])), (q8, .inr (0, [.int 0, .int 0, .int 0, .int 0, .int 0, .int 0])), (q10, .inr (0, [.int 0, .int 0, .int 0, .int 0, .int 0, .int 0]))] H := hP
  have hD : va_D A [(h0, .inr (1, [.int 0, .int 0, .int 0, .int 0, .int 1, .int 0, .ref q1, .ref q2, .ref q3])), (q1, .inl (c1, 6, .inl (upd (upd (upd (upd (upd (upd (fun _ => 0) 0 0) 1 1) 2 2) 3 3) 4 4) 5 5))), (q2, .inl (c2, 10, .inl (upd (upd (upd (upd (upd (upd (upd (upd (upd (upd (fun _ => 0) 0 (-1)) 1 (-1)) 2 (-1)) 3 (-1)) 4 (-1)) 5 (-1)) 6 (-1)) 7 (-1)) 8 (-1)) 9 (-1)))), (q3, .inl (c3, 8, .inr (.inr (.inr (.inr (va_up (va_up (va_up (va_up (fun _ => none) 0 (some q4)) 1 (some q6)) 2 (some q8)) 3 (some q10))))))), (q4, .inr (0, [.int 0, .int 0, .int 0, .int 0, .int 0, .int 0])), (q6, .inr (0, [.int 0, .int 0, .int 0, .int 0, .int 0, .int 0])), (q8, .inr (0, [.int 0, .int 0, .int 0, .int 0, .int 0, .int 0])), (q10, .inr (0, [.int 0, .int 0, .int 0, .int 0, .int 0, .int 0]))] := hD
  refine lv_iinc (v := 4) (lv' := [(1, .int 4), (0, .ref h0)]) hx hb dX1_init_97 hl (k := 0) rfl (by decide) (by decide) rfl (fun ls hl => ?_)
  refine lv_goto (tgt := 78) hx hb dX1_init_100 (by decide) ?_
  refine lv_iload_n hx hb dX1_init_78 rfl (lv_at hl 0 rfl) ?_
  refine lv_bipush (v := 8) hx hb dX1_init_79 (by decide) ?_
  refine lv_icmp_ge (tgt := 103) hx hb dX1_init_81 (by decide) (fun c => ?_) (fun c => ?_)
  case refine_1 => exact absurd c (by decide)
  refine lv_aload_n hx hb dX1_init_84 rfl (lv_at hl 1 rfl) ?_
  refine va_get (D := (dC, dI)) (ci := 1) (v := .ref q3) (C := RX1) (T := TX1) (N := 9) hx hb hts in_X1 hown hK hP 0 rfl rfl 8 (by decide) (hts _ lk_X1_24) (fun _ h9 => h9) rfl dX1_init_85 ?_
  refine lv_iload_n hx hb dX1_init_88 rfl (lv_at hl 0 rfl) ?_
  refine va_new (ci := 0) (fs := [.int 0, .int 0, .int 0, .int 0, .int 0, .int 0]) (C := RX0) (T := TX0) (N := 6) hx hb hts in_X0 tyX0 tyX0_ok hown (hts _ wt_kX1_22) (hts _ wt_n0) (hts _ wt_i0) hK hP hD hS hA rfl (fun j hj => by rcases (show j = 0 ∨ j = 1 ∨ j = 2 ∨ j = 3 ∨ j = 4 ∨ j = 5 by omega) with rfl | rfl | rfl | rfl | rfl | rfl <;> rfl) (Nat.le_of_ble_eq_true rfl) (Nat.le_of_ble_eq_true rfl) dX1_init_89 (fun q12 H hP hD hS => ?_)
  have hP : va_P (dC, dI) vwCl [(h0, .inr (1, [.int 0, .int 0, .int 0, .int 0, .int 1, .int 0, .ref q1, .ref q2, .ref q3])), (q1, .inl (c1, 6, .inl (upd (upd (upd (upd (upd (upd (fun _ => 0) 0 0) 1 1) 2 2) 3 3) 4 4) 5 5))), (q2, .inl (c2, 10, .inl (upd (upd (upd (upd (upd (upd (upd (upd (upd (upd (fun _ => 0) 0 (-1)) 1 (-1)) 2 (-1)) 3 (-1)) 4 (-1)) 5 (-1)) 6 (-1)) 7 (-1)) 8 (-1)) 9 (-1)))), (q3, .inl (c3, 8, .inr (.inr (.inr (.inr (va_up (va_up (va_up (va_up (fun _ => none) 0 (some q4)) 1 (some q6)) 2 (some q8)) 3 (some q10))))))), (q4, .inr (0, [.int 0, .int 0, .int 0, .int 0, .int 0, .int 0])), (q6, .inr (0, [.int 0, .int 0, .int 0, .int 0, .int 0, .int 0])), (q8, .inr (0, [.int 0, .int 0, .int 0, .int 0, .int 0, .int 0])), (q10, .inr (0, [.int 0, .int 0, .int 0, .int 0, .int 0, .int 0])), (q12, .inr (0, [.int 0, .int 0, .int 0, .int 0, .int 0, .int 0]))] H := hP
  have hD : va_D A [(h0, .inr (1, [.int 0, .int 0, .int 0, .int 0, .int 1, .int 0, .ref q1, .ref q2, .ref q3])), (q1, .inl (c1, 6, .inl (upd (upd (upd (upd (upd (upd (fun _ => 0) 0 0) 1 1) 2 2) 3 3) 4 4) 5 5))), (q2, .inl (c2, 10, .inl (upd (upd (upd (upd (upd (upd (upd (upd (upd (upd (fun _ => 0) 0 (-1)) 1 (-1)) 2 (-1)) 3 (-1)) 4 (-1)) 5 (-1)) 6 (-1)) 7 (-1)) 8 (-1)) 9 (-1)))), (q3, .inl (c3, 8, .inr (.inr (.inr (.inr (va_up (va_up (va_up (va_up (fun _ => none) 0 (some q4)) 1 (some q6)) 2 (some q8)) 3 (some q10))))))), (q4, .inr (0, [.int 0, .int 0, .int 0, .int 0, .int 0, .int 0])), (q6, .inr (0, [.int 0, .int 0, .int 0, .int 0, .int 0, .int 0])), (q8, .inr (0, [.int 0, .int 0, .int 0, .int 0, .int 0, .int 0])), (q10, .inr (0, [.int 0, .int 0, .int 0, .int 0, .int 0, .int 0])), (q12, .inr (0, [.int 0, .int 0, .int 0, .int 0, .int 0, .int 0]))] := hD
  refine W.widen (k := 8) (n := 54) (by omega) (by omega) ?_
  refine lv_dup hx hb dX1_init_92 rfl ?_
  have hPc := hP.sub (ws' := [(q12, .inr (0, [.int 0, .int 0, .int 0, .int 0, .int 0, .int 0]))]) [8] rfl
  have hDc := hD.sub (ws' := [(q12, .inr (0, [.int 0, .int 0, .int 0, .int 0, .int 0, .int 0]))]) [8] (by decide) rfl
  have hKc := hK.sub (tys' := []) [] rfl
  have hFc := va_free (wc := [(q12, .inr (0, [.int 0, .int 0, .int 0, .int 0, .int 0, .int 0]))]) hD hS hA [8] rfl
  refine va_callv (va_runIN (As := []) (rest := [.ref q12, .int 4, .ref q3]) ⟨hx, hb, hml, hown, hts⟩ (c_X0_init l dC dI q12 H.size) ⟨va_cnB (host := "CurtainHouse") 0 hts (gin_c wt_c0) rfl rfl rfl (hAX.1 _ (by decide +kernel)) (hts _ wt_i0) ⟨(by decide +kernel), (by decide +kernel), (by decide +kernel)⟩ ⟨(Nat.le_of_ble_eq_true rfl), (Nat.le_of_ble_eq_true rfl)⟩, rfl, hts _ wt_m0⟩ ⟨fun a U g mk q => by obtain ⟨q0, q1, qP, qK, qD, qX⟩ := q; exact ⟨q0, q1, qP, va_K.moved (u := U) (U := U.calling g mk a) (Vm.Alike.refl U.vm) qK, qD, AX.same (u := U) rfl qX⟩, fun U hU hW => ⟨rfl, by rw [hU], by rw [hU]; exact hPc, va_K.moved hW.alike hKc, hDc.weaken (fun _ _ _ _ => trivial), hAX.warm hW⟩⟩ rfl rfl hl.1 rfl (lv_room (Nat.le_of_ble_eq_true rfl)) dX1_init_93 ⟨(Nat.le_of_ble_eq_true rfl), (Nat.le_of_ble_eq_true rfl)⟩) hS (fun q _ h => hFc q h) hFc (fun u t H1 locs ht hvm hw hB hz1 hk1 hS => ?_)
  obtain ⟨hP1, hK1, hD1⟩ := hB
  rw [ht] at hP1
  have hK1 := va_K.moved hvm.symm hK1
  obtain ⟨hP, hD⟩ := va_join (wr := [(h0, .inr (1, [.int 0, .int 0, .int 0, .int 0, .int 1, .int 0, .ref q1, .ref q2, .ref q3])), (q1, .inl (c1, 6, .inl (upd (upd (upd (upd (upd (upd (fun _ => 0) 0 0) 1 1) 2 2) 3 3) 4 4) 5 5))), (q2, .inl (c2, 10, .inl (upd (upd (upd (upd (upd (upd (upd (upd (upd (upd (fun _ => 0) 0 (-1)) 1 (-1)) 2 (-1)) 3 (-1)) 4 (-1)) 5 (-1)) 6 (-1)) 7 (-1)) 8 (-1)) 9 (-1)))), (q3, .inl (c3, 8, .inr (.inr (.inr (.inr (va_up (va_up (va_up (va_up (fun _ => none) 0 (some q4)) 1 (some q6)) 2 (some q8)) 3 (some q10))))))), (q4, .inr (0, [.int 0, .int 0, .int 0, .int 0, .int 0, .int 0])), (q6, .inr (0, [.int 0, .int 0, .int 0, .int 0, .int 0, .int 0])), (q8, .inr (0, [.int 0, .int 0, .int 0, .int 0, .int 0, .int 0])), (q10, .inr (0, [.int 0, .int 0, .int 0, .int 0, .int 0, .int 0]))]) (w1 := [(q12, .inr (0, [.int 0, .int 0, .int 0, .int 0, .int 0, .int 0]))]) hP hD [8] [0, 1, 2, 3, 4, 5, 6, 7] rfl rfl (by decide) (by decide) hk1 hFc hP1 hD1
  have hK := (hK.sub (tys' := [(c1, .int), (c2, .int), (c3, .object "CurtainHouse$Curtain")]) [0, 1, 2] rfl).app hK1
  generalize H1 = H at hP hS ⊢
  have hP : va_P (dC, dI) vwCl [(h0, .inr (1, [.int 0, .int 0, .int 0, .int 0, .int 1, .int 0, .ref q1, .ref q2, .ref q3])), (q1, .inl (c1, 6, .inl (upd (upd (upd (upd (upd (upd (fun _ => 0) 0 0) 1 1) 2 2) 3 3) 4 4) 5 5))), (q2, .inl (c2, 10, .inl (upd (upd (upd (upd (upd (upd (upd (upd (upd (upd (fun _ => 0) 0 (-1)) 1 (-1)) 2 (-1)) 3 (-1)) 4 (-1)) 5 (-1)) 6 (-1)) 7 (-1)) 8 (-1)) 9 (-1)))), (q3, .inl (c3, 8, .inr (.inr (.inr (.inr (va_up (va_up (va_up (va_up (fun _ => none) 0 (some q4)) 1 (some q6)) 2 (some q8)) 3 (some q10))))))), (q4, .inr (0, [.int 0, .int 0, .int 0, .int 0, .int 0, .int 0])), (q6, .inr (0, [.int 0, .int 0, .int 0, .int 0, .int 0, .int 0])), (q8, .inr (0, [.int 0, .int 0, .int 0, .int 0, .int 0, .int 0])), (q10, .inr (0, [.int 0, .int 0, .int 0, .int 0, .int 0, .int 0])), (q12, .inr (0, [.int 0, .int 0, .int 0, .int 0, .int 0, .int 0]))] H := hP
  have hD : va_D A [(h0, .inr (1, [.int 0, .int 0, .int 0, .int 0, .int 1, .int 0, .ref q1, .ref q2, .ref q3])), (q1, .inl (c1, 6, .inl (upd (upd (upd (upd (upd (upd (fun _ => 0) 0 0) 1 1) 2 2) 3 3) 4 4) 5 5))), (q2, .inl (c2, 10, .inl (upd (upd (upd (upd (upd (upd (upd (upd (upd (upd (fun _ => 0) 0 (-1)) 1 (-1)) 2 (-1)) 3 (-1)) 4 (-1)) 5 (-1)) 6 (-1)) 7 (-1)) 8 (-1)) 9 (-1)))), (q3, .inl (c3, 8, .inr (.inr (.inr (.inr (va_up (va_up (va_up (va_up (fun _ => none) 0 (some q4)) 1 (some q6)) 2 (some q8)) 3 (some q10))))))), (q4, .inr (0, [.int 0, .int 0, .int 0, .int 0, .int 0, .int 0])), (q6, .inr (0, [.int 0, .int 0, .int 0, .int 0, .int 0, .int 0])), (q8, .inr (0, [.int 0, .int 0, .int 0, .int 0, .int 0, .int 0])), (q10, .inr (0, [.int 0, .int 0, .int 0, .int 0, .int 0, .int 0])), (q12, .inr (0, [.int 0, .int 0, .int 0, .int 0, .int 0, .int 0]))] := hD
  have hK : va_K (dC, dI) vwCl [(c1, .int), (c2, .int), (c3, .object "CurtainHouse$Curtain")] s := hK
  refine W.widen (k := 8) (n := 54) (by omega) (by omega) ?_
  refine va_astq hx hb hK hP hD hS 3 2 8 0 rfl rfl rfl rfl (vin (by decide)) dX1_init_96 (fun H locs hP hD hS => ?_)
  have hP : va_P (dC, dI) vwCl [(h0, .inr (1, [.int 0, .int 0, .int 0, .int 0, .int 1, .int 0, .ref q1, .ref q2, .ref q3])), (q1, .inl (c1, 6, .inl (upd (upd (upd (upd (upd (upd (fun _ => 0) 0 0) 1 1) 2 2) 3 3) 4 4) 5 5))), (q2, .inl (c2, 10, .inl (upd (upd (upd (upd (upd (upd (upd (upd (upd (upd (fun _ => 0) 0 (-1)) 1 (-1)) 2 (-1)) 3 (-1)) 4 (-1)) 5 (-1)) 6 (-1)) 7 (-1)) 8 (-1)) 9 (-1)))), (q3, .inl (c3, 8, .inr (.inr (.inr (.inr (va_up (va_up (va_up (va_up (va_up (fun _ => none) 0 (some q4)) 1 (some q6)) 2 (some q8)) 3 (some q10)) 4 (some q12))))))), (q4, .inr (0, [.int 0, .int 0, .int 0, .int 0, .int 0, .int 0])), (q6, .inr (0, [.int 0, .int 0, .int 0, .int 0, .int 0, .int 0])), (q8, .inr (0, [.int 0, .int 0, .int 0, .int 0, .int 0, .int 0])), (q10, .inr (0, [.int 0, .int 0, .int 0, .int 0, .int 0, .int 0])), (q12, .inr (0, [.int 0, .int 0, .int 0, .int 0, .int 0, .int 0]))] H := hP
  have hD : va_D A [(h0, .inr (1, [.int 0, .int 0, .int 0, .int 0, .int 1, .int 0, .ref q1, .ref q2, .ref q3])), (q1, .inl (c1, 6, .inl (upd (upd (upd (upd (upd (upd (fun _ => 0) 0 0) 1 1) 2 2) 3 3) 4 4) 5 5))), (q2, .inl (c2, 10, .inl (upd (upd (upd (upd (upd (upd (upd (upd (upd (upd (fun _ => 0) 0 (-1)) 1 (-1)) 2 (-1)) 3 (-1)) 4 (-1)) 5 (-1)) 6 (-1)) 7 (-1)) 8 (-1)) 9 (-1)))), (q3, .inl (c3, 8, .inr (.inr (.inr (.inr (va_up (va_up (va_up (va_up (va_up (fun _ => none) 0 (some q4)) 1 (some q6)) 2 (some q8)) 3 (some q10)) 4 (some q12))))))), (q4, .inr (0, [.int 0, .int 0, .int 0, .int 0, .int 0, .int 0])), (q6, .inr (0, [.int 0, .int 0, .int 0, .int 0, .int 0, .int 0])), (q8, .inr (0, [.int 0, .int 0, .int 0, .int 0, .int 0, .int 0])), (q10, .inr (0, [.int 0, .int 0, .int 0, .int 0, .int 0, .int 0])), (q12, .inr (0, [.int 0, .int 0, .int 0, .int 0, .int 0, .int 0]))] := hD
  refine lv_iinc (v := 5) (lv' := [(1, .int 5), (0, .ref h0)]) hx hb dX1_init_97 hl (k := 0) rfl (by decide) (by decide) rfl (fun ls hl => ?_)
  refine lv_goto (tgt := 78) hx hb dX1_init_100 (by decide) ?_
  refine lv_iload_n hx hb dX1_init_78 rfl (lv_at hl 0 rfl) ?_
  refine lv_bipush (v := 8) hx hb dX1_init_79 (by decide) ?_
  refine lv_icmp_ge (tgt := 103) hx hb dX1_init_81 (by decide) (fun c => ?_) (fun c => ?_)
  case refine_1 => exact absurd c (by decide)
  refine lv_aload_n hx hb dX1_init_84 rfl (lv_at hl 1 rfl) ?_
  refine va_get (D := (dC, dI)) (ci := 1) (v := .ref q3) (C := RX1) (T := TX1) (N := 9) hx hb hts in_X1 hown hK hP 0 rfl rfl 8 (by decide) (hts _ lk_X1_24) (fun _ h9 => h9) rfl dX1_init_85 ?_
  refine lv_iload_n hx hb dX1_init_88 rfl (lv_at hl 0 rfl) ?_
  refine va_new (ci := 0) (fs := [.int 0, .int 0, .int 0, .int 0, .int 0, .int 0]) (C := RX0) (T := TX0) (N := 6) hx hb hts in_X0 tyX0 tyX0_ok hown (hts _ wt_kX1_22) (hts _ wt_n0) (hts _ wt_i0) hK hP hD hS hA rfl (fun j hj => by rcases (show j = 0 ∨ j = 1 ∨ j = 2 ∨ j = 3 ∨ j = 4 ∨ j = 5 by omega) with rfl | rfl | rfl | rfl | rfl | rfl <;> rfl) (Nat.le_of_ble_eq_true rfl) (Nat.le_of_ble_eq_true rfl) dX1_init_89 (fun q14 H hP hD hS => ?_)
  have hP : va_P (dC, dI) vwCl [(h0, .inr (1, [.int 0, .int 0, .int 0, .int 0, .int 1, .int 0, .ref q1, .ref q2, .ref q3])), (q1, .inl (c1, 6, .inl (upd (upd (upd (upd (upd (upd (fun _ => 0) 0 0) 1 1) 2 2) 3 3) 4 4) 5 5))), (q2, .inl (c2, 10, .inl (upd (upd (upd (upd (upd (upd (upd (upd (upd (upd (fun _ => 0) 0 (-1)) 1 (-1)) 2 (-1)) 3 (-1)) 4 (-1)) 5 (-1)) 6 (-1)) 7 (-1)) 8 (-1)) 9 (-1)))), (q3, .inl (c3, 8, .inr (.inr (.inr (.inr (va_up (va_up (va_up (va_up (va_up (fun _ => none) 0 (some q4)) 1 (some q6)) 2 (some q8)) 3 (some q10)) 4 (some q12))))))), (q4, .inr (0, [.int 0, .int 0, .int 0, .int 0, .int 0, .int 0])), (q6, .inr (0, [.int 0, .int 0, .int 0, .int 0, .int 0, .int 0])), (q8, .inr (0, [.int 0, .int 0, .int 0, .int 0, .int 0, .int 0])), (q10, .inr (0, [.int 0, .int 0, .int 0, .int 0, .int 0, .int 0])), (q12, .inr (0, [.int 0, .int 0, .int 0, .int 0, .int 0, .int 0])), (q14, .inr (0, [.int 0, .int 0, .int 0, .int 0, .int 0, .int 0]))] H := hP
  have hD : va_D A [(h0, .inr (1, [.int 0, .int 0, .int 0, .int 0, .int 1, .int 0, .ref q1, .ref q2, .ref q3])), (q1, .inl (c1, 6, .inl (upd (upd (upd (upd (upd (upd (fun _ => 0) 0 0) 1 1) 2 2) 3 3) 4 4) 5 5))), (q2, .inl (c2, 10, .inl (upd (upd (upd (upd (upd (upd (upd (upd (upd (upd (fun _ => 0) 0 (-1)) 1 (-1)) 2 (-1)) 3 (-1)) 4 (-1)) 5 (-1)) 6 (-1)) 7 (-1)) 8 (-1)) 9 (-1)))), (q3, .inl (c3, 8, .inr (.inr (.inr (.inr (va_up (va_up (va_up (va_up (va_up (fun _ => none) 0 (some q4)) 1 (some q6)) 2 (some q8)) 3 (some q10)) 4 (some q12))))))), (q4, .inr (0, [.int 0, .int 0, .int 0, .int 0, .int 0, .int 0])), (q6, .inr (0, [.int 0, .int 0, .int 0, .int 0, .int 0, .int 0])), (q8, .inr (0, [.int 0, .int 0, .int 0, .int 0, .int 0, .int 0])), (q10, .inr (0, [.int 0, .int 0, .int 0, .int 0, .int 0, .int 0])), (q12, .inr (0, [.int 0, .int 0, .int 0, .int 0, .int 0, .int 0])), (q14, .inr (0, [.int 0, .int 0, .int 0, .int 0, .int 0, .int 0]))] := hD
  refine W.widen (k := 9) (n := 60) (by omega) (by omega) ?_
  refine lv_dup hx hb dX1_init_92 rfl ?_
  have hPc := hP.sub (ws' := [(q14, .inr (0, [.int 0, .int 0, .int 0, .int 0, .int 0, .int 0]))]) [9] rfl
  have hDc := hD.sub (ws' := [(q14, .inr (0, [.int 0, .int 0, .int 0, .int 0, .int 0, .int 0]))]) [9] (by decide) rfl
  have hKc := hK.sub (tys' := []) [] rfl
  have hFc := va_free (wc := [(q14, .inr (0, [.int 0, .int 0, .int 0, .int 0, .int 0, .int 0]))]) hD hS hA [9] rfl
  refine va_callv (va_runIN (As := []) (rest := [.ref q14, .int 5, .ref q3]) ⟨hx, hb, hml, hown, hts⟩ (c_X0_init l dC dI q14 H.size) ⟨va_cnB (host := "CurtainHouse") 0 hts (gin_c wt_c0) rfl rfl rfl (hAX.1 _ (by decide +kernel)) (hts _ wt_i0) ⟨(by decide +kernel), (by decide +kernel), (by decide +kernel)⟩ ⟨(Nat.le_of_ble_eq_true rfl), (Nat.le_of_ble_eq_true rfl)⟩, rfl, hts _ wt_m0⟩ ⟨fun a U g mk q => by obtain ⟨q0, q1, qP, qK, qD, qX⟩ := q; exact ⟨q0, q1, qP, va_K.moved (u := U) (U := U.calling g mk a) (Vm.Alike.refl U.vm) qK, qD, AX.same (u := U) rfl qX⟩, fun U hU hW => ⟨rfl, by rw [hU], by rw [hU]; exact hPc, va_K.moved hW.alike hKc, hDc.weaken (fun _ _ _ _ => trivial), hAX.warm hW⟩⟩ rfl rfl hl.1 rfl (lv_room (Nat.le_of_ble_eq_true rfl)) dX1_init_93 ⟨(Nat.le_of_ble_eq_true rfl), (Nat.le_of_ble_eq_true rfl)⟩) hS (fun q _ h => hFc q h) hFc (fun u t H1 locs ht hvm hw hB hz1 hk1 hS => ?_)
  obtain ⟨hP1, hK1, hD1⟩ := hB
  rw [ht] at hP1
  have hK1 := va_K.moved hvm.symm hK1
  obtain ⟨hP, hD⟩ := va_join (wr := [(h0, .inr (1, [.int 0, .int 0, .int 0, .int 0, .int 1, .int 0, .ref q1, .ref q2, .ref q3])), (q1, .inl (c1, 6, .inl (upd (upd (upd (upd (upd (upd (fun _ => 0) 0 0) 1 1) 2 2) 3 3) 4 4) 5 5))), (q2, .inl (c2, 10, .inl (upd (upd (upd (upd (upd (upd (upd (upd (upd (upd (fun _ => 0) 0 (-1)) 1 (-1)) 2 (-1)) 3 (-1)) 4 (-1)) 5 (-1)) 6 (-1)) 7 (-1)) 8 (-1)) 9 (-1)))), (q3, .inl (c3, 8, .inr (.inr (.inr (.inr (va_up (va_up (va_up (va_up (va_up (fun _ => none) 0 (some q4)) 1 (some q6)) 2 (some q8)) 3 (some q10)) 4 (some q12))))))), (q4, .inr (0, [.int 0, .int 0, .int 0, .int 0, .int 0, .int 0])), (q6, .inr (0, [.int 0, .int 0, .int 0, .int 0, .int 0, .int 0])), (q8, .inr (0, [.int 0, .int 0, .int 0, .int 0, .int 0, .int 0])), (q10, .inr (0, [.int 0, .int 0, .int 0, .int 0, .int 0, .int 0])), (q12, .inr (0, [.int 0, .int 0, .int 0, .int 0, .int 0, .int 0]))]) (w1 := [(q14, .inr (0, [.int 0, .int 0, .int 0, .int 0, .int 0, .int 0]))]) hP hD [9] [0, 1, 2, 3, 4, 5, 6, 7, 8] rfl rfl (by decide) (by decide) hk1 hFc hP1 hD1
  have hK := (hK.sub (tys' := [(c1, .int), (c2, .int), (c3, .object "CurtainHouse$Curtain")]) [0, 1, 2] rfl).app hK1
  generalize H1 = H at hP hS ⊢
  have hP : va_P (dC, dI) vwCl [(h0, .inr (1, [.int 0, .int 0, .int 0, .int 0, .int 1, .int 0, .ref q1, .ref q2, .ref q3])), (q1, .inl (c1, 6, .inl (upd (upd (upd (upd (upd (upd (fun _ => 0) 0 0) 1 1) 2 2) 3 3) 4 4) 5 5))), (q2, .inl (c2, 10, .inl (upd (upd (upd (upd (upd (upd (upd (upd (upd (upd (fun _ => 0) 0 (-1)) 1 (-1)) 2 (-1)) 3 (-1)) 4 (-1)) 5 (-1)) 6 (-1)) 7 (-1)) 8 (-1)) 9 (-1)))), (q3, .inl (c3, 8, .inr (.inr (.inr (.inr (va_up (va_up (va_up (va_up (va_up (fun _ => none) 0 (some q4)) 1 (some q6)) 2 (some q8)) 3 (some q10)) 4 (some q12))))))), (q4, .inr (0, [.int 0, .int 0, .int 0, .int 0, .int 0, .int 0])), (q6, .inr (0, [.int 0, .int 0, .int 0, .int 0, .int 0, .int 0])), (q8, .inr (0, [.int 0, .int 0, .int 0, .int 0, .int 0, .int 0])), (q10, .inr (0, [.int 0, .int 0, .int 0, .int 0, .int 0, .int 0])), (q12, .inr (0, [.int 0, .int 0, .int 0, .int 0, .int 0, .int 0])), (q14, .inr (0, [.int 0, .int 0, .int 0, .int 0, .int 0, .int 0]))] H := hP
  have hD : va_D A [(h0, .inr (1, [.int 0, .int 0, .int 0, .int 0, .int 1, .int 0, .ref q1, .ref q2, .ref q3])), (q1, .inl (c1, 6, .inl (upd (upd (upd (upd (upd (upd (fun _ => 0) 0 0) 1 1) 2 2) 3 3) 4 4) 5 5))), (q2, .inl (c2, 10, .inl (upd (upd (upd (upd (upd (upd (upd (upd (upd (upd (fun _ => 0) 0 (-1)) 1 (-1)) 2 (-1)) 3 (-1)) 4 (-1)) 5 (-1)) 6 (-1)) 7 (-1)) 8 (-1)) 9 (-1)))), (q3, .inl (c3, 8, .inr (.inr (.inr (.inr (va_up (va_up (va_up (va_up (va_up (fun _ => none) 0 (some q4)) 1 (some q6)) 2 (some q8)) 3 (some q10)) 4 (some q12))))))), (q4, .inr (0, [.int 0, .int 0, .int 0, .int 0, .int 0, .int 0])), (q6, .inr (0, [.int 0, .int 0, .int 0, .int 0, .int 0, .int 0])), (q8, .inr (0, [.int 0, .int 0, .int 0, .int 0, .int 0, .int 0])), (q10, .inr (0, [.int 0, .int 0, .int 0, .int 0, .int 0, .int 0])), (q12, .inr (0, [.int 0, .int 0, .int 0, .int 0, .int 0, .int 0])), (q14, .inr (0, [.int 0, .int 0, .int 0, .int 0, .int 0, .int 0]))] := hD
  have hK : va_K (dC, dI) vwCl [(c1, .int), (c2, .int), (c3, .object "CurtainHouse$Curtain")] s := hK
  refine W.widen (k := 9) (n := 60) (by omega) (by omega) ?_
  refine va_astq hx hb hK hP hD hS 3 2 9 0 rfl rfl rfl rfl (vin (by decide)) dX1_init_96 (fun H locs hP hD hS => ?_)
  have hP : va_P (dC, dI) vwCl [(h0, .inr (1, [.int 0, .int 0, .int 0, .int 0, .int 1, .int 0, .ref q1, .ref q2, .ref q3])), (q1, .inl (c1, 6, .inl (upd (upd (upd (upd (upd (upd (fun _ => 0) 0 0) 1 1) 2 2) 3 3) 4 4) 5 5))), (q2, .inl (c2, 10, .inl (upd (upd (upd (upd (upd (upd (upd (upd (upd (upd (fun _ => 0) 0 (-1)) 1 (-1)) 2 (-1)) 3 (-1)) 4 (-1)) 5 (-1)) 6 (-1)) 7 (-1)) 8 (-1)) 9 (-1)))), (q3, .inl (c3, 8, .inr (.inr (.inr (.inr (va_up (va_up (va_up (va_up (va_up (va_up (fun _ => none) 0 (some q4)) 1 (some q6)) 2 (some q8)) 3 (some q10)) 4 (some q12)) 5 (some q14))))))), (q4, .inr (0, [.int 0, .int 0, .int 0, .int 0, .int 0, .int 0])), (q6, .inr (0, [.int 0, .int 0, .int 0, .int 0, .int 0, .int 0])), (q8, .inr (0, [.int 0, .int 0, .int 0, .int 0, .int 0, .int 0])), (q10, .inr (0, [.int 0, .int 0, .int 0, .int 0, .int 0, .int 0])), (q12, .inr (0, [.int 0, .int 0, .int 0, .int 0, .int 0, .int 0])), (q14, .inr (0, [.int 0, .int 0, .int 0, .int 0, .int 0, .int 0]))] H := hP
  have hD : va_D A [(h0, .inr (1, [.int 0, .int 0, .int 0, .int 0, .int 1, .int 0, .ref q1, .ref q2, .ref q3])), (q1, .inl (c1, 6, .inl (upd (upd (upd (upd (upd (upd (fun _ => 0) 0 0) 1 1) 2 2) 3 3) 4 4) 5 5))), (q2, .inl (c2, 10, .inl (upd (upd (upd (upd (upd (upd (upd (upd (upd (upd (fun _ => 0) 0 (-1)) 1 (-1)) 2 (-1)) 3 (-1)) 4 (-1)) 5 (-1)) 6 (-1)) 7 (-1)) 8 (-1)) 9 (-1)))), (q3, .inl (c3, 8, .inr (.inr (.inr (.inr (va_up (va_up (va_up (va_up (va_up (va_up (fun _ => none) 0 (some q4)) 1 (some q6)) 2 (some q8)) 3 (some q10)) 4 (some q12)) 5 (some q14))))))), (q4, .inr (0, [.int 0, .int 0, .int 0, .int 0, .int 0, .int 0])), (q6, .inr (0, [.int 0, .int 0, .int 0, .int 0, .int 0, .int 0])), (q8, .inr (0, [.int 0, .int 0, .int 0, .int 0, .int 0, .int 0])), (q10, .inr (0, [.int 0, .int 0, .int 0, .int 0, .int 0, .int 0])), (q12, .inr (0, [.int 0, .int 0, .int 0, .int 0, .int 0, .int 0])), (q14, .inr (0, [.int 0, .int 0, .int 0, .int 0, .int 0, .int 0]))] := hD
  refine lv_iinc (v := 6) (lv' := [(1, .int 6), (0, .ref h0)]) hx hb dX1_init_97 hl (k := 0) rfl (by decide) (by decide) rfl (fun ls hl => ?_)
  refine lv_goto (tgt := 78) hx hb dX1_init_100 (by decide) ?_
  refine lv_iload_n hx hb dX1_init_78 rfl (lv_at hl 0 rfl) ?_
  refine lv_bipush (v := 8) hx hb dX1_init_79 (by decide) ?_
  refine lv_icmp_ge (tgt := 103) hx hb dX1_init_81 (by decide) (fun c => ?_) (fun c => ?_)
  case refine_1 => exact absurd c (by decide)
  refine lv_aload_n hx hb dX1_init_84 rfl (lv_at hl 1 rfl) ?_
  refine va_get (D := (dC, dI)) (ci := 1) (v := .ref q3) (C := RX1) (T := TX1) (N := 9) hx hb hts in_X1 hown hK hP 0 rfl rfl 8 (by decide) (hts _ lk_X1_24) (fun _ h9 => h9) rfl dX1_init_85 ?_
  refine lv_iload_n hx hb dX1_init_88 rfl (lv_at hl 0 rfl) ?_
  refine va_new (ci := 0) (fs := [.int 0, .int 0, .int 0, .int 0, .int 0, .int 0]) (C := RX0) (T := TX0) (N := 6) hx hb hts in_X0 tyX0 tyX0_ok hown (hts _ wt_kX1_22) (hts _ wt_n0) (hts _ wt_i0) hK hP hD hS hA rfl (fun j hj => by rcases (show j = 0 ∨ j = 1 ∨ j = 2 ∨ j = 3 ∨ j = 4 ∨ j = 5 by omega) with rfl | rfl | rfl | rfl | rfl | rfl <;> rfl) (Nat.le_of_ble_eq_true rfl) (Nat.le_of_ble_eq_true rfl) dX1_init_89 (fun q16 H hP hD hS => ?_)
  have hP : va_P (dC, dI) vwCl [(h0, .inr (1, [.int 0, .int 0, .int 0, .int 0, .int 1, .int 0, .ref q1, .ref q2, .ref q3])), (q1, .inl (c1, 6, .inl (upd (upd (upd (upd (upd (upd (fun _ => 0) 0 0) 1 1) 2 2) 3 3) 4 4) 5 5))), (q2, .inl (c2, 10, .inl (upd (upd (upd (upd (upd (upd (upd (upd (upd (upd (fun _ => 0) 0 (-1)) 1 (-1)) 2 (-1)) 3 (-1)) 4 (-1)) 5 (-1)) 6 (-1)) 7 (-1)) 8 (-1)) 9 (-1)))), (q3, .inl (c3, 8, .inr (.inr (.inr (.inr (va_up (va_up (va_up (va_up (va_up (va_up (fun _ => none) 0 (some q4)) 1 (some q6)) 2 (some q8)) 3 (some q10)) 4 (some q12)) 5 (some q14))))))), (q4, .inr (0, [.int 0, .int 0, .int 0, .int 0, .int 0, .int 0])), (q6, .inr (0, [.int 0, .int 0, .int 0, .int 0, .int 0, .int 0])), (q8, .inr (0, [.int 0, .int 0, .int 0, .int 0, .int 0, .int 0])), (q10, .inr (0, [.int 0, .int 0, .int 0, .int 0, .int 0, .int 0])), (q12, .inr (0, [.int 0, .int 0, .int 0, .int 0, .int 0, .int 0])), (q14, .inr (0, [.int 0, .int 0, .int 0, .int 0, .int 0, .int 0])), (q16, .inr (0, [.int 0, .int 0, .int 0, .int 0, .int 0, .int 0]))] H := hP
  have hD : va_D A [(h0, .inr (1, [.int 0, .int 0, .int 0, .int 0, .int 1, .int 0, .ref q1, .ref q2, .ref q3])), (q1, .inl (c1, 6, .inl (upd (upd (upd (upd (upd (upd (fun _ => 0) 0 0) 1 1) 2 2) 3 3) 4 4) 5 5))), (q2, .inl (c2, 10, .inl (upd (upd (upd (upd (upd (upd (upd (upd (upd (upd (fun _ => 0) 0 (-1)) 1 (-1)) 2 (-1)) 3 (-1)) 4 (-1)) 5 (-1)) 6 (-1)) 7 (-1)) 8 (-1)) 9 (-1)))), (q3, .inl (c3, 8, .inr (.inr (.inr (.inr (va_up (va_up (va_up (va_up (va_up (va_up (fun _ => none) 0 (some q4)) 1 (some q6)) 2 (some q8)) 3 (some q10)) 4 (some q12)) 5 (some q14))))))), (q4, .inr (0, [.int 0, .int 0, .int 0, .int 0, .int 0, .int 0])), (q6, .inr (0, [.int 0, .int 0, .int 0, .int 0, .int 0, .int 0])), (q8, .inr (0, [.int 0, .int 0, .int 0, .int 0, .int 0, .int 0])), (q10, .inr (0, [.int 0, .int 0, .int 0, .int 0, .int 0, .int 0])), (q12, .inr (0, [.int 0, .int 0, .int 0, .int 0, .int 0, .int 0])), (q14, .inr (0, [.int 0, .int 0, .int 0, .int 0, .int 0, .int 0])), (q16, .inr (0, [.int 0, .int 0, .int 0, .int 0, .int 0, .int 0]))] := hD
  refine W.widen (k := 10) (n := 66) (by omega) (by omega) ?_
  refine lv_dup hx hb dX1_init_92 rfl ?_
  have hPc := hP.sub (ws' := [(q16, .inr (0, [.int 0, .int 0, .int 0, .int 0, .int 0, .int 0]))]) [10] rfl
  have hDc := hD.sub (ws' := [(q16, .inr (0, [.int 0, .int 0, .int 0, .int 0, .int 0, .int 0]))]) [10] (by decide) rfl
  have hKc := hK.sub (tys' := []) [] rfl
  have hFc := va_free (wc := [(q16, .inr (0, [.int 0, .int 0, .int 0, .int 0, .int 0, .int 0]))]) hD hS hA [10] rfl
  refine va_callv (va_runIN (As := []) (rest := [.ref q16, .int 6, .ref q3]) ⟨hx, hb, hml, hown, hts⟩ (c_X0_init l dC dI q16 H.size) ⟨va_cnB (host := "CurtainHouse") 0 hts (gin_c wt_c0) rfl rfl rfl (hAX.1 _ (by decide +kernel)) (hts _ wt_i0) ⟨(by decide +kernel), (by decide +kernel), (by decide +kernel)⟩ ⟨(Nat.le_of_ble_eq_true rfl), (Nat.le_of_ble_eq_true rfl)⟩, rfl, hts _ wt_m0⟩ ⟨fun a U g mk q => by obtain ⟨q0, q1, qP, qK, qD, qX⟩ := q; exact ⟨q0, q1, qP, va_K.moved (u := U) (U := U.calling g mk a) (Vm.Alike.refl U.vm) qK, qD, AX.same (u := U) rfl qX⟩, fun U hU hW => ⟨rfl, by rw [hU], by rw [hU]; exact hPc, va_K.moved hW.alike hKc, hDc.weaken (fun _ _ _ _ => trivial), hAX.warm hW⟩⟩ rfl rfl hl.1 rfl (lv_room (Nat.le_of_ble_eq_true rfl)) dX1_init_93 ⟨(Nat.le_of_ble_eq_true rfl), (Nat.le_of_ble_eq_true rfl)⟩) hS (fun q _ h => hFc q h) hFc (fun u t H1 locs ht hvm hw hB hz1 hk1 hS => ?_)
  obtain ⟨hP1, hK1, hD1⟩ := hB
  rw [ht] at hP1
  have hK1 := va_K.moved hvm.symm hK1
  obtain ⟨hP, hD⟩ := va_join (wr := [(h0, .inr (1, [.int 0, .int 0, .int 0, .int 0, .int 1, .int 0, .ref q1, .ref q2, .ref q3])), (q1, .inl (c1, 6, .inl (upd (upd (upd (upd (upd (upd (fun _ => 0) 0 0) 1 1) 2 2) 3 3) 4 4) 5 5))), (q2, .inl (c2, 10, .inl (upd (upd (upd (upd (upd (upd (upd (upd (upd (upd (fun _ => 0) 0 (-1)) 1 (-1)) 2 (-1)) 3 (-1)) 4 (-1)) 5 (-1)) 6 (-1)) 7 (-1)) 8 (-1)) 9 (-1)))), (q3, .inl (c3, 8, .inr (.inr (.inr (.inr (va_up (va_up (va_up (va_up (va_up (va_up (fun _ => none) 0 (some q4)) 1 (some q6)) 2 (some q8)) 3 (some q10)) 4 (some q12)) 5 (some q14))))))), (q4, .inr (0, [.int 0, .int 0, .int 0, .int 0, .int 0, .int 0])), (q6, .inr (0, [.int 0, .int 0, .int 0, .int 0, .int 0, .int 0])), (q8, .inr (0, [.int 0, .int 0, .int 0, .int 0, .int 0, .int 0])), (q10, .inr (0, [.int 0, .int 0, .int 0, .int 0, .int 0, .int 0])), (q12, .inr (0, [.int 0, .int 0, .int 0, .int 0, .int 0, .int 0])), (q14, .inr (0, [.int 0, .int 0, .int 0, .int 0, .int 0, .int 0]))]) (w1 := [(q16, .inr (0, [.int 0, .int 0, .int 0, .int 0, .int 0, .int 0]))]) hP hD [10] [0, 1, 2, 3, 4, 5, 6, 7, 8, 9] rfl rfl (by decide) (by decide) hk1 hFc hP1 hD1
  have hK := (hK.sub (tys' := [(c1, .int), (c2, .int), (c3, .object "CurtainHouse$Curtain")]) [0, 1, 2] rfl).app hK1
  generalize H1 = H at hP hS ⊢
  have hP : va_P (dC, dI) vwCl [(h0, .inr (1, [.int 0, .int 0, .int 0, .int 0, .int 1, .int 0, .ref q1, .ref q2, .ref q3])), (q1, .inl (c1, 6, .inl (upd (upd (upd (upd (upd (upd (fun _ => 0) 0 0) 1 1) 2 2) 3 3) 4 4) 5 5))), (q2, .inl (c2, 10, .inl (upd (upd (upd (upd (upd (upd (upd (upd (upd (upd (fun _ => 0) 0 (-1)) 1 (-1)) 2 (-1)) 3 (-1)) 4 (-1)) 5 (-1)) 6 (-1)) 7 (-1)) 8 (-1)) 9 (-1)))), (q3, .inl (c3, 8, .inr (.inr (.inr (.inr (va_up (va_up (va_up (va_up (va_up (va_up (fun _ => none) 0 (some q4)) 1 (some q6)) 2 (some q8)) 3 (some q10)) 4 (some q12)) 5 (some q14))))))), (q4, .inr (0, [.int 0, .int 0, .int 0, .int 0, .int 0, .int 0])), (q6, .inr (0, [.int 0, .int 0, .int 0, .int 0, .int 0, .int 0])), (q8, .inr (0, [.int 0, .int 0, .int 0, .int 0, .int 0, .int 0])), (q10, .inr (0, [.int 0, .int 0, .int 0, .int 0, .int 0, .int 0])), (q12, .inr (0, [.int 0, .int 0, .int 0, .int 0, .int 0, .int 0])), (q14, .inr (0, [.int 0, .int 0, .int 0, .int 0, .int 0, .int 0])), (q16, .inr (0, [.int 0, .int 0, .int 0, .int 0, .int 0, .int 0]))] H := hP
  have hD : va_D A [(h0, .inr (1, [.int 0, .int 0, .int 0, .int 0, .int 1, .int 0, .ref q1, .ref q2, .ref q3])), (q1, .inl (c1, 6, .inl (upd (upd (upd (upd (upd (upd (fun _ => 0) 0 0) 1 1) 2 2) 3 3) 4 4) 5 5))), (q2, .inl (c2, 10, .inl (upd (upd (upd (upd (upd (upd (upd (upd (upd (upd (fun _ => 0) 0 (-1)) 1 (-1)) 2 (-1)) 3 (-1)) 4 (-1)) 5 (-1)) 6 (-1)) 7 (-1)) 8 (-1)) 9 (-1)))), (q3, .inl (c3, 8, .inr (.inr (.inr (.inr (va_up (va_up (va_up (va_up (va_up (va_up (fun _ => none) 0 (some q4)) 1 (some q6)) 2 (some q8)) 3 (some q10)) 4 (some q12)) 5 (some q14))))))), (q4, .inr (0, [.int 0, .int 0, .int 0, .int 0, .int 0, .int 0])), (q6, .inr (0, [.int 0, .int 0, .int 0, .int 0, .int 0, .int 0])), (q8, .inr (0, [.int 0, .int 0, .int 0, .int 0, .int 0, .int 0])), (q10, .inr (0, [.int 0, .int 0, .int 0, .int 0, .int 0, .int 0])), (q12, .inr (0, [.int 0, .int 0, .int 0, .int 0, .int 0, .int 0])), (q14, .inr (0, [.int 0, .int 0, .int 0, .int 0, .int 0, .int 0])), (q16, .inr (0, [.int 0, .int 0, .int 0, .int 0, .int 0, .int 0]))] := hD
  have hK : va_K (dC, dI) vwCl [(c1, .int), (c2, .int), (c3, .object "CurtainHouse$Curtain")] s := hK
  refine W.widen (k := 10) (n := 66) (by omega) (by omega) ?_
  refine va_astq hx hb hK hP hD hS 3 2 10 0 rfl rfl rfl rfl (vin (by decide)) dX1_init_96 (fun H locs hP hD hS => ?_)
  have hP : va_P (dC, dI) vwCl [(h0, .inr (1, [.int 0, .int 0, .int 0, .int 0, .int 1, .int 0, .ref q1, .ref q2, .ref q3])), (q1, .inl (c1, 6, .inl (upd (upd (upd (upd (upd (upd (fun _ => 0) 0 0) 1 1) 2 2) 3 3) 4 4) 5 5))), (q2, .inl (c2, 10, .inl (upd (upd (upd (upd (upd (upd (upd (upd (upd (upd (fun _ => 0) 0 (-1)) 1 (-1)) 2 (-1)) 3 (-1)) 4 (-1)) 5 (-1)) 6 (-1)) 7 (-1)) 8 (-1)) 9 (-1)))), (q3, .inl (c3, 8, .inr (.inr (.inr (.inr (va_up (va_up (va_up (va_up (va_up (va_up (va_up (fun _ => none) 0 (some q4)) 1 (some q6)) 2 (some q8)) 3 (some q10)) 4 (some q12)) 5 (some q14)) 6 (some q16))))))), (q4, .inr (0, [.int 0, .int 0, .int 0, .int 0, .int 0, .int 0])), (q6, .inr (0, [.int 0, .int 0, .int 0, .int 0, .int 0, .int 0])), (q8, .inr (0, [.int 0, .int 0, .int 0, .int 0, .int 0, .int 0])), (q10, .inr (0, [.int 0, .int 0, .int 0, .int 0, .int 0, .int 0])), (q12, .inr (0, [.int 0, .int 0, .int 0, .int 0, .int 0, .int 0])), (q14, .inr (0, [.int 0, .int 0, .int 0, .int 0, .int 0, .int 0])), (q16, .inr (0, [.int 0, .int 0, .int 0, .int 0, .int 0, .int 0]))] H := hP
  have hD : va_D A [(h0, .inr (1, [.int 0, .int 0, .int 0, .int 0, .int 1, .int 0, .ref q1, .ref q2, .ref q3])), (q1, .inl (c1, 6, .inl (upd (upd (upd (upd (upd (upd (fun _ => 0) 0 0) 1 1) 2 2) 3 3) 4 4) 5 5))), (q2, .inl (c2, 10, .inl (upd (upd (upd (upd (upd (upd (upd (upd (upd (upd (fun _ => 0) 0 (-1)) 1 (-1)) 2 (-1)) 3 (-1)) 4 (-1)) 5 (-1)) 6 (-1)) 7 (-1)) 8 (-1)) 9 (-1)))), (q3, .inl (c3, 8, .inr (.inr (.inr (.inr (va_up (va_up (va_up (va_up (va_up (va_up (va_up (fun _ => none) 0 (some q4)) 1 (some q6)) 2 (some q8)) 3 (some q10)) 4 (some q12)) 5 (some q14)) 6 (some q16))))))), (q4, .inr (0, [.int 0, .int 0, .int 0, .int 0, .int 0, .int 0])), (q6, .inr (0, [.int 0, .int 0, .int 0, .int 0, .int 0, .int 0])), (q8, .inr (0, [.int 0, .int 0, .int 0, .int 0, .int 0, .int 0])), (q10, .inr (0, [.int 0, .int 0, .int 0, .int 0, .int 0, .int 0])), (q12, .inr (0, [.int 0, .int 0, .int 0, .int 0, .int 0, .int 0])), (q14, .inr (0, [.int 0, .int 0, .int 0, .int 0, .int 0, .int 0])), (q16, .inr (0, [.int 0, .int 0, .int 0, .int 0, .int 0, .int 0]))] := hD
  refine lv_iinc (v := 7) (lv' := [(1, .int 7), (0, .ref h0)]) hx hb dX1_init_97 hl (k := 0) rfl (by decide) (by decide) rfl (fun ls hl => ?_)
  refine lv_goto (tgt := 78) hx hb dX1_init_100 (by decide) ?_
  refine lv_iload_n hx hb dX1_init_78 rfl (lv_at hl 0 rfl) ?_
  refine lv_bipush (v := 8) hx hb dX1_init_79 (by decide) ?_
  refine lv_icmp_ge (tgt := 103) hx hb dX1_init_81 (by decide) (fun c => ?_) (fun c => ?_)
  case refine_1 => exact absurd c (by decide)
  refine lv_aload_n hx hb dX1_init_84 rfl (lv_at hl 1 rfl) ?_
  refine va_get (D := (dC, dI)) (ci := 1) (v := .ref q3) (C := RX1) (T := TX1) (N := 9) hx hb hts in_X1 hown hK hP 0 rfl rfl 8 (by decide) (hts _ lk_X1_24) (fun _ h9 => h9) rfl dX1_init_85 ?_
  refine lv_iload_n hx hb dX1_init_88 rfl (lv_at hl 0 rfl) ?_
  refine va_new (ci := 0) (fs := [.int 0, .int 0, .int 0, .int 0, .int 0, .int 0]) (C := RX0) (T := TX0) (N := 6) hx hb hts in_X0 tyX0 tyX0_ok hown (hts _ wt_kX1_22) (hts _ wt_n0) (hts _ wt_i0) hK hP hD hS hA rfl (fun j hj => by rcases (show j = 0 ∨ j = 1 ∨ j = 2 ∨ j = 3 ∨ j = 4 ∨ j = 5 by omega) with rfl | rfl | rfl | rfl | rfl | rfl <;> rfl) (Nat.le_of_ble_eq_true rfl) (Nat.le_of_ble_eq_true rfl) dX1_init_89 (fun q18 H hP hD hS => ?_)
  have hP : va_P (dC, dI) vwCl [(h0, .inr (1, [.int 0, .int 0, .int 0, .int 0, .int 1, .int 0, .ref q1, .ref q2, .ref q3])), (q1, .inl (c1, 6, .inl (upd (upd (upd (upd (upd (upd (fun _ => 0) 0 0) 1 1) 2 2) 3 3) 4 4) 5 5))), (q2, .inl (c2, 10, .inl (upd (upd (upd (upd (upd (upd (upd (upd (upd (upd (fun _ => 0) 0 (-1)) 1 (-1)) 2 (-1)) 3 (-1)) 4 (-1)) 5 (-1)) 6 (-1)) 7 (-1)) 8 (-1)) 9 (-1)))), (q3, .inl (c3, 8, .inr (.inr (.inr (.inr (va_up (va_up (va_up (va_up (va_up (va_up (va_up (fun _ => none) 0 (some q4)) 1 (some q6)) 2 (some q8)) 3 (some q10)) 4 (some q12)) 5 (some q14)) 6 (some q16))))))), (q4, .inr (0, [.int 0, .int 0, .int 0, .int 0, .int 0, .int 0])), (q6, .inr (0, [.int 0, .int 0, .int 0, .int 0, .int 0, .int 0])), (q8, .inr (0, [.int 0, .int 0, .int 0, .int 0, .int 0, .int 0])), (q10, .inr (0, [.int 0, .int 0, .int 0, .int 0, .int 0, .int 0])), (q12, .inr (0, [.int 0, .int 0, .int 0, .int 0, .int 0, .int 0])), (q14, .inr (0, [.int 0, .int 0, .int 0, .int 0, .int 0, .int 0])), (q16, .inr (0, [.int 0, .int 0, .int 0, .int 0, .int 0, .int 0])), (q18, .inr (0, [.int 0, .int 0, .int 0, .int 0, .int 0, .int 0]))] H := hP
  have hD : va_D A [(h0, .inr (1, [.int 0, .int 0, .int 0, .int 0, .int 1, .int 0, .ref q1, .ref q2, .ref q3])), (q1, .inl (c1, 6, .inl (upd (upd (upd (upd (upd (upd (fun _ => 0) 0 0) 1 1) 2 2) 3 3) 4 4) 5 5))), (q2, .inl (c2, 10, .inl (upd (upd (upd (upd (upd (upd (upd (upd (upd (upd (fun _ => 0) 0 (-1)) 1 (-1)) 2 (-1)) 3 (-1)) 4 (-1)) 5 (-1)) 6 (-1)) 7 (-1)) 8 (-1)) 9 (-1)))), (q3, .inl (c3, 8, .inr (.inr (.inr (.inr (va_up (va_up (va_up (va_up (va_up (va_up (va_up (fun _ => none) 0 (some q4)) 1 (some q6)) 2 (some q8)) 3 (some q10)) 4 (some q12)) 5 (some q14)) 6 (some q16))))))), (q4, .inr (0, [.int 0, .int 0, .int 0, .int 0, .int 0, .int 0])), (q6, .inr (0, [.int 0, .int 0, .int 0, .int 0, .int 0, .int 0])), (q8, .inr (0, [.int 0, .int 0, .int 0, .int 0, .int 0, .int 0])), (q10, .inr (0, [.int 0, .int 0, .int 0, .int 0, .int 0, .int 0])), (q12, .inr (0, [.int 0, .int 0, .int 0, .int 0, .int 0, .int 0])), (q14, .inr (0, [.int 0, .int 0, .int 0, .int 0, .int 0, .int 0])), (q16, .inr (0, [.int 0, .int 0, .int 0, .int 0, .int 0, .int 0])), (q18, .inr (0, [.int 0, .int 0, .int 0, .int 0, .int 0, .int 0]))] := hD
  refine W.widen (k := 11) (n := 72) (by omega) (by omega) ?_
  refine lv_dup hx hb dX1_init_92 rfl ?_
  have hPc := hP.sub (ws' := [(q18, .inr (0, [.int 0, .int 0, .int 0, .int 0, .int 0, .int 0]))]) [11] rfl
  have hDc := hD.sub (ws' := [(q18, .inr (0, [.int 0, .int 0, .int 0, .int 0, .int 0, .int 0]))]) [11] (by decide) rfl
  have hKc := hK.sub (tys' := []) [] rfl
  have hFc := va_free (wc := [(q18, .inr (0, [.int 0, .int 0, .int 0, .int 0, .int 0, .int 0]))]) hD hS hA [11] rfl
  refine va_callv (va_runIN (As := []) (rest := [.ref q18, .int 7, .ref q3]) ⟨hx, hb, hml, hown, hts⟩ (c_X0_init l dC dI q18 H.size) ⟨va_cnB (host := "CurtainHouse") 0 hts (gin_c wt_c0) rfl rfl rfl (hAX.1 _ (by decide +kernel)) (hts _ wt_i0) ⟨(by decide +kernel), (by decide +kernel), (by decide +kernel)⟩ ⟨(Nat.le_of_ble_eq_true rfl), (Nat.le_of_ble_eq_true rfl)⟩, rfl, hts _ wt_m0⟩ ⟨fun a U g mk q => by obtain ⟨q0, q1, qP, qK, qD, qX⟩ := q; exact ⟨q0, q1, qP, va_K.moved (u := U) (U := U.calling g mk a) (Vm.Alike.refl U.vm) qK, qD, AX.same (u := U) rfl qX⟩, fun U hU hW => ⟨rfl, by rw [hU], by rw [hU]; exact hPc, va_K.moved hW.alike hKc, hDc.weaken (fun _ _ _ _ => trivial), hAX.warm hW⟩⟩ rfl rfl hl.1 rfl (lv_room (Nat.le_of_ble_eq_true rfl)) dX1_init_93 ⟨(Nat.le_of_ble_eq_true rfl), (Nat.le_of_ble_eq_true rfl)⟩) hS (fun q _ h => hFc q h) hFc (fun u t H1 locs ht hvm hw hB hz1 hk1 hS => ?_)
  obtain ⟨hP1, hK1, hD1⟩ := hB
  rw [ht] at hP1
  have hK1 := va_K.moved hvm.symm hK1
  obtain ⟨hP, hD⟩ := va_join (wr := [(h0, .inr (1, [.int 0, .int 0, .int 0, .int 0, .int 1, .int 0, .ref q1, .ref q2, .ref q3])), (q1, .inl (c1, 6, .inl (upd (upd (upd (upd (upd (upd (fun _ => 0) 0 0) 1 1) 2 2) 3 3) 4 4) 5 5))), (q2, .inl (c2, 10, .inl (upd (upd (upd (upd (upd (upd (upd (upd (upd (upd (fun _ => 0) 0 (-1)) 1 (-1)) 2 (-1)) 3 (-1)) 4 (-1)) 5 (-1)) 6 (-1)) 7 (-1)) 8 (-1)) 9 (-1)))), (q3, .inl (c3, 8, .inr (.inr (.inr (.inr (va_up (va_up (va_up (va_up (va_up (va_up (va_up (fun _ => none) 0 (some q4)) 1 (some q6)) 2 (some q8)) 3 (some q10)) 4 (some q12)) 5 (some q14)) 6 (some q16))))))), (q4, .inr (0, [.int 0, .int 0, .int 0, .int 0, .int 0, .int 0])), (q6, .inr (0, [.int 0, .int 0, .int 0, .int 0, .int 0, .int 0])), (q8, .inr (0, [.int 0, .int 0, .int 0, .int 0, .int 0, .int 0])), (q10, .inr (0, [.int 0, .int 0, .int 0, .int 0, .int 0, .int 0])), (q12, .inr (0, [.int 0, .int 0, .int 0, .int 0, .int 0, .int 0])), (q14, .inr (0, [.int 0, .int 0, .int 0, .int 0, .int 0, .int 0])), (q16, .inr (0, [.int 0, .int 0, .int 0, .int 0, .int 0, .int 0]))]) (w1 := [(q18, .inr (0, [.int 0, .int 0, .int 0, .int 0, .int 0, .int 0]))]) hP hD [11] [0, 1, 2, 3, 4, 5, 6, 7, 8, 9, 10] rfl rfl (by decide) (by decide) hk1 hFc hP1 hD1
  have hK := (hK.sub (tys' := [(c1, .int), (c2, .int), (c3, .object "CurtainHouse$Curtain")]) [0, 1, 2] rfl).app hK1
  generalize H1 = H at hP hS ⊢
  have hP : va_P (dC, dI) vwCl [(h0, .inr (1, [.int 0, .int 0, .int 0, .int 0, .int 1, .int 0, .ref q1, .ref q2, .ref q3])), (q1, .inl (c1, 6, .inl (upd (upd (upd (upd (upd (upd (fun _ => 0) 0 0) 1 1) 2 2) 3 3) 4 4) 5 5))), (q2, .inl (c2, 10, .inl (upd (upd (upd (upd (upd (upd (upd (upd (upd (upd (fun _ => 0) 0 (-1)) 1 (-1)) 2 (-1)) 3 (-1)) 4 (-1)) 5 (-1)) 6 (-1)) 7 (-1)) 8 (-1)) 9 (-1)))), (q3, .inl (c3, 8, .inr (.inr (.inr (.inr (va_up (va_up (va_up (va_up (va_up (va_up (va_up (fun _ => none) 0 (some q4)) 1 (some q6)) 2 (some q8)) 3 (some q10)) 4 (some q12)) 5 (some q14)) 6 (some q16))))))), (q4, .inr (0, [.int 0, .int 0, .int 0, .int 0, .int 0, .int 0])), (q6, .inr (0, [.int 0, .int 0, .int 0, .int 0, .int 0, .int 0])), (q8, .inr (0, [.int 0, .int 0, .int 0, .int 0, .int 0, .int 0])), (q10, .inr (0, [.int 0, .int 0, .int 0, .int 0, .int 0, .int 0])), (q12, .inr (0, [.int 0, .int 0, .int 0, .int 0, .int 0, .int 0])), (q14, .inr (0, [.int 0, .int 0, .int 0, .int 0, .int 0, .int 0])), (q16, .inr (0, [.int 0, .int 0, .int 0, .int 0, .int 0, .int 0])), (q18, .inr (0, [.int 0, .int 0, .int 0, .int 0, .int 0, .int 0]))] H := hP
  have hD : va_D A [(h0, .inr (1, [.int 0, .int 0, .int 0, .int 0, .int 1, .int 0, .ref q1, .ref q2, .ref q3])), (q1, .inl (c1, 6, .inl (upd (upd (upd (upd (upd (upd (fun _ => 0) 0 0) 1 1) 2 2) 3 3) 4 4) 5 5))), (q2, .inl (c2, 10, .inl (upd (upd (upd (upd (upd (upd (upd (upd (upd (upd (fun _ => 0) 0 (-1)) 1 (-1)) 2 (-1)) 3 (-1)) 4 (-1)) 5 (-1)) 6 (-1)) 7 (-1)) 8 (-1)) 9 (-1)))), (q3, .inl (c3, 8, .inr (.inr (.inr (.inr (va_up (va_up (va_up (va_up (va_up (va_up (va_up (fun _ => none) 0 (some q4)) 1 (some q6)) 2 (some q8)) 3 (some q10)) 4 (some q12)) 5 (some q14)) 6 (some q16))))))), (q4, .inr (0, [.int 0, .int 0, .int 0, .int 0, .int 0, .int 0])), (q6, .inr (0, [.int 0, .int 0, .int 0, .int 0, .int 0, .int 0])), (q8, .inr (0, [.int 0, .int 0, .int 0, .int 0, .int 0, .int 0])), (q10, .inr (0, [.int 0, .int 0, .int 0, .int 0, .int 0, .int 0])), (q12, .inr (0, [.int 0, .int 0, .int 0, .int 0, .int 0, .int 0])), (q14, .inr (0, [.int 0, .int 0, .int 0, .int 0, .int 0, .int 0])), (q16, .inr (0, [.int 0, .int 0, .int 0, .int 0, .int 0, .int 0])), (q18, .inr (0, [.int 0, .int 0, .int 0, .int 0, .int 0, .int 0]))] := hD
  have hK : va_K (dC, dI) vwCl [(c1, .int), (c2, .int), (c3, .object "CurtainHouse$Curtain")] s := hK
  refine W.widen (k := 11) (n := 72) (by omega) (by omega) ?_
  refine va_astq hx hb hK hP hD hS 3 2 11 0 rfl rfl rfl rfl (vin (by decide)) dX1_init_96 (fun H locs hP hD hS => ?_)
  have hP : va_P (dC, dI) vwCl [(h0, .inr (1, [.int 0, .int 0, .int 0, .int 0, .int 1, .int 0, .ref q1, .ref q2, .ref q3])), (q1, .inl (c1, 6, .inl (upd (upd (upd (upd (upd (upd (fun _ => 0) 0 0) 1 1) 2 2) 3 3) 4 4) 5 5))), (q2, .inl (c2, 10, .inl (upd (upd (upd (upd (upd (upd (upd (upd (upd (upd (fun _ => 0) 0 (-1)) 1 (-1)) 2 (-1)) 3 (-1)) 4 (-1)) 5 (-1)) 6 (-1)) 7 (-1)) 8 (-1)) 9 (-1)))), (q3, .inl (c3, 8, .inr (.inr (.inr (.inr (va_up (va_up (va_up (va_up (va_up (va_up (va_up (va_up (fun _ => none) 0 (some q4)) 1 (some q6)) 2 (some q8)) 3 (some q10)) 4 (some q12)) 5 (some q14)) 6 (some q16)) 7 (some q18))))))), (q4, .inr (0, [.int 0, .int 0, .int 0, .int 0, .int 0, .int 0])), (q6, .inr (0, [.int 0, .int 0, .int 0, .int 0, .int 0, .int 0])), (q8, .inr (0, [.int 0, .int 0, .int 0, .int 0, .int 0, .int 0])), (q10, .inr (0, [.int 0, .int 0, .int 0, .int 0, .int 0, .int 0])), (q12, .inr (0, [.int 0, .int 0, .int 0, .int 0, .int 0, .int 0])), (q14, .inr (0, [.int 0, .int 0, .int 0, .int 0, .int 0, .int 0])), (q16, .inr (0, [.int 0, .int 0, .int 0, .int 0, .int 0, .int 0])), (q18, .inr (0, [.int 0, .int 0, .int 0, .int 0, .int 0, .int 0]))] H := hP
  have hD : va_D A [(h0, .inr (1, [.int 0, .int 0, .int 0, .int 0, .int 1, .int 0, .ref q1, .ref q2, .ref q3])), (q1, .inl (c1, 6, .inl (upd (upd (upd (upd (upd (upd (fun _ => 0) 0 0) 1 1) 2 2) 3 3) 4 4) 5 5))), (q2, .inl (c2, 10, .inl (upd (upd (upd (upd (upd (upd (upd (upd (upd (upd (fun _ => 0) 0 (-1)) 1 (-1)) 2 (-1)) 3 (-1)) 4 (-1)) 5 (-1)) 6 (-1)) 7 (-1)) 8 (-1)) 9 (-1)))), (q3, .inl (c3, 8, .inr (.inr (.inr (.inr (va_up (va_up (va_up (va_up (va_up (va_up (va_up (va_up (fun _ => none) 0 (some q4)) 1 (some q6)) 2 (some q8)) 3 (some q10)) 4 (some q12)) 5 (some q14)) 6 (some q16)) 7 (some q18))))))), (q4, .inr (0, [.int 0, .int 0, .int 0, .int 0, .int 0, .int 0])), (q6, .inr (0, [.int 0, .int 0, .int 0, .int 0, .int 0, .int 0])), (q8, .inr (0, [.int 0, .int 0, .int 0, .int 0, .int 0, .int 0])), (q10, .inr (0, [.int 0, .int 0, .int 0, .int 0, .int 0, .int 0])), (q12, .inr (0, [.int 0, .int 0, .int 0, .int 0, .int 0, .int 0])), (q14, .inr (0, [.int 0, .int 0, .int 0, .int 0, .int 0, .int 0])), (q16, .inr (0, [.int 0, .int 0, .int 0, .int 0, .int 0, .int 0])), (q18, .inr (0, [.int 0, .int 0, .int 0, .int 0, .int 0, .int 0]))] := hD
  refine lv_iinc (v := 8) (lv' := [(1, .int 8), (0, .ref h0)]) hx hb dX1_init_97 hl (k := 0) rfl (by decide) (by decide) rfl (fun ls hl => ?_)
  refine lv_goto (tgt := 78) hx hb dX1_init_100 (by decide) ?_
  refine lv_iload_n hx hb dX1_init_78 rfl (lv_at hl 0 rfl) ?_
  refine lv_bipush (v := 8) hx hb dX1_init_79 (by decide) ?_
  refine lv_icmp_ge (tgt := 103) hx hb dX1_init_81 (by decide) (fun c => ?_) (fun c => ?_)
  case refine_2 => exact absurd (by decide) c
  exact W.vret hx hb hr (fun t ht hW => ⟨⟨(), rfl, trivial, (fun k => [h0, q1, q2, q3, q4, q6, q8, q10, q12, q14, q16, q18].getD k 0), (fun k => [c1, c2, c3].getD k c1), rfl, by rw [ht]; exact hP, va_K.moved hW.alike hK, hD⟩, hS.F ht⟩) hS.2.2 dX1_init_103

