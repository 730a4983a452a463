/-! THE LAW's entry: both objects made, the world put into the frame's words -/
def iList : Nat → Int32 := (upd (upd (upd (upd (upd (upd (fun _ => 0) 0 0) 1 1) 2 2) 3 3) 4 4) 5 5)
def iSpot : Nat → Int32 := (upd (upd (upd (upd (upd (upd (upd (upd (upd (upd (fun _ => 0) 0 (-1)) 1 (-1)) 2 (-1)) 3 (-1)) 4 (-1)) 5 (-1)) 6 (-1)) 7 (-1)) 8 (-1)) 9 (-1))
def iNow : Nat → Int32 := (upd (upd (upd (upd (upd (upd (upd (upd (upd (upd (upd (upd (upd (upd (upd (upd (upd (fun _ => 0) 2 1) 6 0) 7 1) 8 2) 9 3) 10 4) 11 5) 12 (-1)) 13 (-1)) 14 (-1)) 15 (-1)) 16 (-1)) 17 (-1)) 18 (-1)) 19 (-1)) 20 (-1)) 21 (-1))
/-- the memory behind both constructors -/
def ini : Mem := fun i => if i = 1 ∨ i = 13 ∨ i = 25 then (fun k => if k = 4 then 1 else 0) else if i = 2 ∨ i = 14 ∨ i = 26 then iList else if i = 3 ∨ i = 15 ∨ i = 27 then iSpot else if i = 51 then iNow else fun _ => 0
theorem cmb_ini : cmb ini ini = ini := by
  funext i
  simp only [cmb]
  split <;> rfl
theorem ra_int {U : State} {a b : ClassId} (ha : va_RA U a .int) (hb : va_RA U b .int) : a = b := Option.some.inj (Eq.trans (Eq.symm ha) hb)
theorem ra_obj {U : State} {a b : ClassId} {C : String} (ha : va_RA U a (.object C)) (hb : va_RA U b (.object C)) : a = b := by
  obtain ⟨_, _, _, _, _, h1⟩ := ha
  obtain ⟨_, _, _, _, _, h2⟩ := hb
  exact Option.some.inj (h1.symm.trans h2)
theorem at_ref {D : va_G} {cl : List vw_C} {a n : Nat} {cA : ClassId} {f g : Nat → Option Nat} {H : Heap} (h : va_at D cl (a, .inl (cA, n, .inr (.inr (.inr (.inr f))))) H) (hfg : ∀ j, j < n → f j = g j) : va_at D cl (a, .inl (cA, n, .inr (.inr (.inr (.inr g))))) H := by
  have e : vp_cell cA (n, .inr (.inr (.inr (.inr f)))) = vp_cell cA (n, .inr (.inr (.inr (.inr g)))) := by
    show arrV cA n (fun j => va_rf (f j)) = arrV cA n (fun j => va_rf (g j))
    unfold arrV
    congr 1
    congr 1
    funext j
    show va_rf (f j.1) = va_rf (g j.1)
    rw [hfg j.1 j.2]
  show H[a]? = some (vp_cell cA (n, .inr (.inr (.inr (.inr g)))))
  rw [← e]
  exact h
theorem kS.at {aK aV : Nat → Nat} {A B : Nat → Prop} {s U : State} {H : Heap} {locs : List Loc} (h : kS aK aV A s s.heap) (hW : s.vm.Alike U.vm) (hS : va_S A s.heap H locs) (hB : ∀ q, B q → A q) : kS aK aV B U H := ((h.kept hS.2.1).moved hW).narrow hB
theorem SX.same {aK aV : Nat → Nat} {A : Nat → Prop} {u U : State} {H : Heap} (hv : U.vm = u.vm) (h : SX aK aV A u H) : SX aK aV A U H := ⟨h.1.moved (by rw [hv]; exact Vm.Alike.refl _), fun q hq => (h.2 q hq).same hv⟩
section PREM
variable {s : State} {b : Nat} {A : Nat → Prop}
theorem wN_in : wN.all (fun w => decide (w ∈ tables_1)) = true := by decide +kernel
theorem ax_of (hts : ∀ w ∈ lw_tbl, w.before #[Value.ref b] s = true) : AX s := by
  have ht : ∀ w ∈ tables_1, w.before #[Value.ref b] s = true := fun w h => hts w (List.mem_append_right _ h)
  refine ⟨fun w hw => ?_, va_AO.of (ht _ (List.mem_of_getElem? (i := 29) (by decide +kernel))), va_AO.of (ht _ (List.mem_of_getElem? (i := 134) (by decide +kernel))), va_AO.of (ht _ (List.mem_of_getElem? (i := 684) (by decide +kernel)))⟩
  have h1 := List.all_eq_true.mp wN_in w hw
  simp only [decide_eq_true_eq] at h1
  have h2 := ht w h1
  rcases wN_kind w hw with ⟨a, i, b, n, d, h, rfl⟩ | ⟨a, i, x, h, rfl⟩
  · exact va_Nw.of rfl h2
  · exact va_Nw.of rfl h2
theorem st_0 (hf : ∀ c ∈ flatC (Jvm.Cond.and given_1 narrow_1), c.before #[Value.ref b] s = true) (ht : ∀ w ∈ tables_1, w.before #[Value.ref b] s = true) (hA : ∀ a : Nat, a < s.heap.size → ¬ A a) : ∃ t : Nat, va_Z "CurtainHouse" (sNm 0) "[I" (.ref t) A s s.heap ∧ va_T .int t (sTab 0).length (fun j => .int ((sTab 0).getD j 0)) A s s.heap := by
  obtain ⟨t, h1, h2⟩ := va_Tof (args := #[Value.ref b]) (s := s) (tm := (Term.static "CurtainHouse" "GLADDENS" "[I")) (ty := .int) (N := 7) (f := fun j => .int ((sTab 0).getD j 0)) (A := A) (by decide) (hf _ (by decide +kernel)) (va_eqt (z := Int32.ofNat 7) (hf _ (by decide +kernel))) (fun j hj => by rcases (show j = 0 ∨ j = 1 ∨ j = 2 ∨ j = 3 ∨ j = 4 ∨ j = 5 ∨ j = 6 by omega) with rfl | rfl | rfl | rfl | rfl | rfl | rfl <;> exact va_eqt (hf _ (by decide +kernel))) hA
  exact ⟨t, va_Zref (ht _ (List.mem_of_getElem? (i := 249) (by decide +kernel))) (ht _ (List.mem_of_getElem? (i := 1) (by decide +kernel))) h1 hA, h2⟩
theorem st_1 (hf : ∀ c ∈ flatC (Jvm.Cond.and given_1 narrow_1), c.before #[Value.ref b] s = true) (ht : ∀ w ∈ tables_1, w.before #[Value.ref b] s = true) (hA : ∀ a : Nat, a < s.heap.size → ¬ A a) : ∃ t : Nat, va_Z "CurtainHouse" (sNm 1) "[I" (.ref t) A s s.heap ∧ va_T .int t (sTab 1).length (fun j => .int ((sTab 1).getD j 0)) A s s.heap := by
  obtain ⟨t, h1, h2⟩ := va_Tof (args := #[Value.ref b]) (s := s) (tm := (Term.static "CurtainHouse" "TIRES" "[I")) (ty := .int) (N := 7) (f := fun j => .int ((sTab 1).getD j 0)) (A := A) (by decide) (hf _ (by decide +kernel)) (va_eqt (z := Int32.ofNat 7) (hf _ (by decide +kernel))) (fun j hj => by rcases (show j = 0 ∨ j = 1 ∨ j = 2 ∨ j = 3 ∨ j = 4 ∨ j = 5 ∨ j = 6 by omega) with rfl | rfl | rfl | rfl | rfl | rfl | rfl <;> exact va_eqt (hf _ (by decide +kernel))) hA
  exact ⟨t, va_Zref (ht _ (List.mem_of_getElem? (i := 261) (by decide +kernel))) (ht _ (List.mem_of_getElem? (i := 1) (by decide +kernel))) h1 hA, h2⟩
theorem st_2 (hf : ∀ c ∈ flatC (Jvm.Cond.and given_1 narrow_1), c.before #[Value.ref b] s = true) (ht : ∀ w ∈ tables_1, w.before #[Value.ref b] s = true) (hA : ∀ a : Nat, a < s.heap.size → ¬ A a) : ∃ t : Nat, va_Z "CurtainHouse" (sNm 2) "[I" (.ref t) A s s.heap ∧ va_T .int t (sTab 2).length (fun j => .int ((sTab 2).getD j 0)) A s s.heap := by
  obtain ⟨t, h1, h2⟩ := va_Tof (args := #[Value.ref b]) (s := s) (tm := (Term.static "CurtainHouse" "BEARS" "[I")) (ty := .int) (N := 7) (f := fun j => .int ((sTab 2).getD j 0)) (A := A) (by decide) (hf _ (by decide +kernel)) (va_eqt (z := Int32.ofNat 7) (hf _ (by decide +kernel))) (fun j hj => by rcases (show j = 0 ∨ j = 1 ∨ j = 2 ∨ j = 3 ∨ j = 4 ∨ j = 5 ∨ j = 6 by omega) with rfl | rfl | rfl | rfl | rfl | rfl | rfl <;> exact va_eqt (hf _ (by decide +kernel))) hA
  exact ⟨t, va_Zref (ht _ (List.mem_of_getElem? (i := 267) (by decide +kernel))) (ht _ (List.mem_of_getElem? (i := 1) (by decide +kernel))) h1 hA, h2⟩
theorem st_3 (hf : ∀ c ∈ flatC (Jvm.Cond.and given_1 narrow_1), c.before #[Value.ref b] s = true) (ht : ∀ w ∈ tables_1, w.before #[Value.ref b] s = true) (hA : ∀ a : Nat, a < s.heap.size → ¬ A a) : ∃ t : Nat, va_Z "CurtainHouse" (sNm 3) "[I" (.ref t) A s s.heap ∧ va_T .int t (sTab 3).length (fun j => .int ((sTab 3).getD j 0)) A s s.heap := by
  obtain ⟨t, h1, h2⟩ := va_Tof (args := #[Value.ref b]) (s := s) (tm := (Term.static "CurtainHouse" "FALLS" "[I")) (ty := .int) (N := 7) (f := fun j => .int ((sTab 3).getD j 0)) (A := A) (by decide) (hf _ (by decide +kernel)) (va_eqt (z := Int32.ofNat 7) (hf _ (by decide +kernel))) (fun j hj => by rcases (show j = 0 ∨ j = 1 ∨ j = 2 ∨ j = 3 ∨ j = 4 ∨ j = 5 ∨ j = 6 by omega) with rfl | rfl | rfl | rfl | rfl | rfl | rfl <;> exact va_eqt (hf _ (by decide +kernel))) hA
  exact ⟨t, va_Zref (ht _ (List.mem_of_getElem? (i := 273) (by decide +kernel))) (ht _ (List.mem_of_getElem? (i := 1) (by decide +kernel))) h1 hA, h2⟩
theorem st_4 (hf : ∀ c ∈ flatC (Jvm.Cond.and given_1 narrow_1), c.before #[Value.ref b] s = true) (ht : ∀ w ∈ tables_1, w.before #[Value.ref b] s = true) (hA : ∀ a : Nat, a < s.heap.size → ¬ A a) : ∃ t : Nat, va_Z "CurtainHouse" (sNm 4) "[I" (.ref t) A s s.heap ∧ va_T .int t (sTab 4).length (fun j => .int ((sTab 4).getD j 0)) A s s.heap := by
  obtain ⟨t, h1, h2⟩ := va_Tof (args := #[Value.ref b]) (s := s) (tm := (Term.static "CurtainHouse" "RISES" "[I")) (ty := .int) (N := 7) (f := fun j => .int ((sTab 4).getD j 0)) (A := A) (by decide) (hf _ (by decide +kernel)) (va_eqt (z := Int32.ofNat 7) (hf _ (by decide +kernel))) (fun j hj => by rcases (show j = 0 ∨ j = 1 ∨ j = 2 ∨ j = 3 ∨ j = 4 ∨ j = 5 ∨ j = 6 by omega) with rfl | rfl | rfl | rfl | rfl | rfl | rfl <;> exact va_eqt (hf _ (by decide +kernel))) hA
  exact ⟨t, va_Zref (ht _ (List.mem_of_getElem? (i := 279) (by decide +kernel))) (ht _ (List.mem_of_getElem? (i := 1) (by decide +kernel))) h1 hA, h2⟩
theorem st_5 (hf : ∀ c ∈ flatC (Jvm.Cond.and given_1 narrow_1), c.before #[Value.ref b] s = true) (ht : ∀ w ∈ tables_1, w.before #[Value.ref b] s = true) (hA : ∀ a : Nat, a < s.heap.size → ¬ A a) : ∃ t : Nat, va_Z "CurtainHouse" (sNm 5) "[I" (.ref t) A s s.heap ∧ va_T .int t (sTab 5).length (fun j => .int ((sTab 5).getD j 0)) A s s.heap := by
  obtain ⟨t, h1, h2⟩ := va_Tof (args := #[Value.ref b]) (s := s) (tm := (Term.static "CurtainHouse" "COUNTS_AS" "[I")) (ty := .int) (N := 7) (f := fun j => .int ((sTab 5).getD j 0)) (A := A) (by decide) (hf _ (by decide +kernel)) (va_eqt (z := Int32.ofNat 7) (hf _ (by decide +kernel))) (fun j hj => by rcases (show j = 0 ∨ j = 1 ∨ j = 2 ∨ j = 3 ∨ j = 4 ∨ j = 5 ∨ j = 6 by omega) with rfl | rfl | rfl | rfl | rfl | rfl | rfl <;> exact va_eqt (hf _ (by decide +kernel))) hA
  exact ⟨t, va_Zref (ht _ (List.mem_of_getElem? (i := 619) (by decide +kernel))) (ht _ (List.mem_of_getElem? (i := 1) (by decide +kernel))) h1 hA, h2⟩
theorem st_6 (hf : ∀ c ∈ flatC (Jvm.Cond.and given_1 narrow_1), c.before #[Value.ref b] s = true) (ht : ∀ w ∈ tables_1, w.before #[Value.ref b] s = true) (hA : ∀ a : Nat, a < s.heap.size → ¬ A a) : ∃ t : Nat, va_Z "CurtainHouse" (sNm 6) "[I" (.ref t) A s s.heap ∧ va_T .int t (sTab 6).length (fun j => .int ((sTab 6).getD j 0)) A s s.heap := by
  obtain ⟨t, h1, h2⟩ := va_Tof (args := #[Value.ref b]) (s := s) (tm := (Term.static "CurtainHouse" "MOST_OF" "[I")) (ty := .int) (N := 6) (f := fun j => .int ((sTab 6).getD j 0)) (A := A) (by decide) (hf _ (by decide +kernel)) (va_eqt (z := Int32.ofNat 6) (hf _ (by decide +kernel))) (fun j hj => by rcases (show j = 0 ∨ j = 1 ∨ j = 2 ∨ j = 3 ∨ j = 4 ∨ j = 5 by omega) with rfl | rfl | rfl | rfl | rfl | rfl <;> exact va_eqt (hf _ (by decide +kernel))) hA
  exact ⟨t, va_Zref (ht _ (List.mem_of_getElem? (i := 285) (by decide +kernel))) (ht _ (List.mem_of_getElem? (i := 1) (by decide +kernel))) h1 hA, h2⟩
theorem sg_0 (hf : ∀ c ∈ flatC (Jvm.Cond.and given_1 narrow_1), c.before #[Value.ref b] s = true) (ht : ∀ w ∈ tables_1, w.before #[Value.ref b] s = true) (hA : ∀ a : Nat, a < s.heap.size → ¬ A a) : ∃ a v : Nat, (va_O "java/lang/String" a A s s.heap ∧ va_OF "java/lang/String" "coder" "B" (.int 0) a A s s.heap ∧ va_OF "java/lang/String" "value" "[B" (.ref v) a A s s.heap ∧ va_T .byte v (kLen.getD 0 0) (fun j => .int ((kByt.getD 0 []).getD j 0)) A s s.heap) ∧ vk_R "CurtainHouse$Tape" 99 "curtain" a s ∧ vk_R "CurtainHouseModel" 27 "curtain" a s := by
  obtain ⟨a, c, cA, kA, q1, q2, q3, q4, q5, q6, -⟩ := Cond.exactly_spec (args := #[Value.ref b]) (first := s) (o := none) (s := s) (idx := []) (t := (Term.string "CurtainHouse$Tape" 99)) (cls := "java/lang/String") (hf _ (by decide +kernel))
  obtain ⟨t, h1, h2⟩ := va_Tof (args := #[Value.ref b]) (s := s) (tm := .field (Term.string "CurtainHouse$Tape" 99) "java/lang/String" "value" "[B") (ty := .byte) (N := kLen.getD 0 0) (f := fun j => .int ((kByt.getD 0 []).getD j 0)) (A := A) (by decide) (hf _ (by decide +kernel)) (va_eqt (z := Int32.ofNat 7) (hf _ (by decide +kernel))) (fun j hj => by rcases (show j = 0 ∨ j = 1 ∨ j = 2 ∨ j = 3 ∨ j = 4 ∨ j = 5 ∨ j = 6 by simp only [kLen] at hj; simp at hj; omega) with rfl | rfl | rfl | rfl | rfl | rfl | rfl <;> exact va_eqt (hf _ (by decide +kernel))) hA
  exact ⟨a, t, ⟨⟨cA, q3, q5, by rw [q6]; exact q2, hA a (Array.getElem?_eq_some_iff.mp q3).1⟩, vk_OFof q1 (va_eqt (hf _ (by decide +kernel))) hA, vk_OFof q1 h1 hA, h2⟩, vk_R.of (ht _ (List.mem_of_getElem? (i := 509) (by decide +kernel))) q1, vk_R.of (ht _ (List.mem_of_getElem? (i := 685) (by decide +kernel))) (va_eqR (hf (.eq (Term.string "CurtainHouse$Tape" 99) (Term.string "CurtainHouseModel" 27)) (by decide +kernel)) q1)⟩
theorem sg_1 (hf : ∀ c ∈ flatC (Jvm.Cond.and given_1 narrow_1), c.before #[Value.ref b] s = true) (ht : ∀ w ∈ tables_1, w.before #[Value.ref b] s = true) (hA : ∀ a : Nat, a < s.heap.size → ¬ A a) : ∃ a v : Nat, (va_O "java/lang/String" a A s s.heap ∧ va_OF "java/lang/String" "coder" "B" (.int 0) a A s s.heap ∧ va_OF "java/lang/String" "value" "[B" (.ref v) a A s s.heap ∧ va_T .byte v (kLen.getD 1 0) (fun j => .int ((kByt.getD 1 []).getD j 0)) A s s.heap) ∧ vk_R "CurtainHouse$Tape" 104 "velvet" a s ∧ vk_R "CurtainHouseModel" 29 "velvet" a s := by
  obtain ⟨a, c, cA, kA, q1, q2, q3, q4, q5, q6, -⟩ := Cond.exactly_spec (args := #[Value.ref b]) (first := s) (o := none) (s := s) (idx := []) (t := (Term.string "CurtainHouse$Tape" 104)) (cls := "java/lang/String") (hf _ (by decide +kernel))
  obtain ⟨t, h1, h2⟩ := va_Tof (args := #[Value.ref b]) (s := s) (tm := .field (Term.string "CurtainHouse$Tape" 104) "java/lang/String" "value" "[B") (ty := .byte) (N := kLen.getD 1 0) (f := fun j => .int ((kByt.getD 1 []).getD j 0)) (A := A) (by decide) (hf _ (by decide +kernel)) (va_eqt (z := Int32.ofNat 6) (hf _ (by decide +kernel))) (fun j hj => by rcases (show j = 0 ∨ j = 1 ∨ j = 2 ∨ j = 3 ∨ j = 4 ∨ j = 5 by simp only [kLen] at hj; simp at hj; omega) with rfl | rfl | rfl | rfl | rfl | rfl <;> exact va_eqt (hf _ (by decide +kernel))) hA
  exact ⟨a, t, ⟨⟨cA, q3, q5, by rw [q6]; exact q2, hA a (Array.getElem?_eq_some_iff.mp q3).1⟩, vk_OFof q1 (va_eqt (hf _ (by decide +kernel))) hA, vk_OFof q1 h1 hA, h2⟩, vk_R.of (ht _ (List.mem_of_getElem? (i := 562) (by decide +kernel))) q1, vk_R.of (ht _ (List.mem_of_getElem? (i := 686) (by decide +kernel))) (va_eqR (hf (.eq (Term.string "CurtainHouse$Tape" 104) (Term.string "CurtainHouseModel" 29)) (by decide +kernel)) q1)⟩
theorem sg_2 (hf : ∀ c ∈ flatC (Jvm.Cond.and given_1 narrow_1), c.before #[Value.ref b] s = true) (ht : ∀ w ∈ tables_1, w.before #[Value.ref b] s = true) (hA : ∀ a : Nat, a < s.heap.size → ¬ A a) : ∃ a v : Nat, (va_O "java/lang/String" a A s s.heap ∧ va_OF "java/lang/String" "coder" "B" (.int 0) a A s s.heap ∧ va_OF "java/lang/String" "value" "[B" (.ref v) a A s s.heap ∧ va_T .byte v (kLen.getD 2 0) (fun j => .int ((kByt.getD 2 []).getD j 0)) A s s.heap) ∧ vk_R "CurtainHouse$Tape" 106 "gauze" a s ∧ vk_R "CurtainHouseModel" 31 "gauze" a s := by
  obtain ⟨a, c, cA, kA, q1, q2, q3, q4, q5, q6, -⟩ := Cond.exactly_spec (args := #[Value.ref b]) (first := s) (o := none) (s := s) (idx := []) (t := (Term.string "CurtainHouse$Tape" 106)) (cls := "java/lang/String") (hf _ (by decide +kernel))
  obtain ⟨t, h1, h2⟩ := va_Tof (args := #[Value.ref b]) (s := s) (tm := .field (Term.string "CurtainHouse$Tape" 106) "java/lang/String" "value" "[B") (ty := .byte) (N := kLen.getD 2 0) (f := fun j => .int ((kByt.getD 2 []).getD j 0)) (A := A) (by decide) (hf _ (by decide +kernel)) (va_eqt (z := Int32.ofNat 5) (hf _ (by decide +kernel))) (fun j hj => by rcases (show j = 0 ∨ j = 1 ∨ j = 2 ∨ j = 3 ∨ j = 4 by simp only [kLen] at hj; simp at hj; omega) with rfl | rfl | rfl | rfl | rfl <;> exact va_eqt (hf _ (by decide +kernel))) hA
  exact ⟨a, t, ⟨⟨cA, q3, q5, by rw [q6]; exact q2, hA a (Array.getElem?_eq_some_iff.mp q3).1⟩, vk_OFof q1 (va_eqt (hf _ (by decide +kernel))) hA, vk_OFof q1 h1 hA, h2⟩, vk_R.of (ht _ (List.mem_of_getElem? (i := 563) (by decide +kernel))) q1, vk_R.of (ht _ (List.mem_of_getElem? (i := 687) (by decide +kernel))) (va_eqR (hf (.eq (Term.string "CurtainHouse$Tape" 106) (Term.string "CurtainHouseModel" 31)) (by decide +kernel)) q1)⟩
theorem sg_3 (hf : ∀ c ∈ flatC (Jvm.Cond.and given_1 narrow_1), c.before #[Value.ref b] s = true) (ht : ∀ w ∈ tables_1, w.before #[Value.ref b] s = true) (hA : ∀ a : Nat, a < s.heap.size → ¬ A a) : ∃ a v : Nat, (va_O "java/lang/String" a A s s.heap ∧ va_OF "java/lang/String" "coder" "B" (.int 0) a A s s.heap ∧ va_OF "java/lang/String" "value" "[B" (.ref v) a A s s.heap ∧ va_T .byte v (kLen.getD 3 0) (fun j => .int ((kByt.getD 3 []).getD j 0)) A s s.heap) ∧ vk_R "CurtainHouse$Tape" 108 "drop" a s ∧ vk_R "CurtainHouseModel" 33 "drop" a s := by
  obtain ⟨a, c, cA, kA, q1, q2, q3, q4, q5, q6, -⟩ := Cond.exactly_spec (args := #[Value.ref b]) (first := s) (o := none) (s := s) (idx := []) (t := (Term.string "CurtainHouse$Tape" 108)) (cls := "java/lang/String") (hf _ (by decide +kernel))
  obtain ⟨t, h1, h2⟩ := va_Tof (args := #[Value.ref b]) (s := s) (tm := .field (Term.string "CurtainHouse$Tape" 108) "java/lang/String" "value" "[B") (ty := .byte) (N := kLen.getD 3 0) (f := fun j => .int ((kByt.getD 3 []).getD j 0)) (A := A) (by decide) (hf _ (by decide +kernel)) (va_eqt (z := Int32.ofNat 4) (hf _ (by decide +kernel))) (fun j hj => by rcases (show j = 0 ∨ j = 1 ∨ j = 2 ∨ j = 3 by simp only [kLen] at hj; simp at hj; omega) with rfl | rfl | rfl | rfl <;> exact va_eqt (hf _ (by decide +kernel))) hA
  exact ⟨a, t, ⟨⟨cA, q3, q5, by rw [q6]; exact q2, hA a (Array.getElem?_eq_some_iff.mp q3).1⟩, vk_OFof q1 (va_eqt (hf _ (by decide +kernel))) hA, vk_OFof q1 h1 hA, h2⟩, vk_R.of (ht _ (List.mem_of_getElem? (i := 564) (by decide +kernel))) q1, vk_R.of (ht _ (List.mem_of_getElem? (i := 688) (by decide +kernel))) (va_eqR (hf (.eq (Term.string "CurtainHouse$Tape" 108) (Term.string "CurtainHouseModel" 33)) (by decide +kernel)) q1)⟩
theorem sg_4 (hf : ∀ c ∈ flatC (Jvm.Cond.and given_1 narrow_1), c.before #[Value.ref b] s = true) (ht : ∀ w ∈ tables_1, w.before #[Value.ref b] s = true) (hA : ∀ a : Nat, a < s.heap.size → ¬ A a) : ∃ a v : Nat, (va_O "java/lang/String" a A s s.heap ∧ va_OF "java/lang/String" "coder" "B" (.int 0) a A s s.heap ∧ va_OF "java/lang/String" "value" "[B" (.ref v) a A s s.heap ∧ va_T .byte v (kLen.getD 4 0) (fun j => .int ((kByt.getD 4 []).getD j 0)) A s s.heap) ∧ vk_R "CurtainHouse$Tape" 110 "cloud" a s ∧ vk_R "CurtainHouseModel" 35 "cloud" a s := by
  obtain ⟨a, c, cA, kA, q1, q2, q3, q4, q5, q6, -⟩ := Cond.exactly_spec (args := #[Value.ref b]) (first := s) (o := none) (s := s) (idx := []) (t := (Term.string "CurtainHouse$Tape" 110)) (cls := "java/lang/String") (hf _ (by decide +kernel))
  obtain ⟨t, h1, h2⟩ := va_Tof (args := #[Value.ref b]) (s := s) (tm := .field (Term.string "CurtainHouse$Tape" 110) "java/lang/String" "value" "[B") (ty := .byte) (N := kLen.getD 4 0) (f := fun j => .int ((kByt.getD 4 []).getD j 0)) (A := A) (by decide) (hf _ (by decide +kernel)) (va_eqt (z := Int32.ofNat 5) (hf _ (by decide +kernel))) (fun j hj => by rcases (show j = 0 ∨ j = 1 ∨ j = 2 ∨ j = 3 ∨ j = 4 by simp only [kLen] at hj; simp at hj; omega) with rfl | rfl | rfl | rfl | rfl <;> exact va_eqt (hf _ (by decide +kernel))) hA
  exact ⟨a, t, ⟨⟨cA, q3, q5, by rw [q6]; exact q2, hA a (Array.getElem?_eq_some_iff.mp q3).1⟩, vk_OFof q1 (va_eqt (hf _ (by decide +kernel))) hA, vk_OFof q1 h1 hA, h2⟩, vk_R.of (ht _ (List.mem_of_getElem? (i := 565) (by decide +kernel))) q1, vk_R.of (ht _ (List.mem_of_getElem? (i := 689) (by decide +kernel))) (va_eqR (hf (.eq (Term.string "CurtainHouse$Tape" 110) (Term.string "CurtainHouseModel" 35)) (by decide +kernel)) q1)⟩
theorem sg_5 (hf : ∀ c ∈ flatC (Jvm.Cond.and given_1 narrow_1), c.before #[Value.ref b] s = true) (ht : ∀ w ∈ tables_1, w.before #[Value.ref b] s = true) (hA : ∀ a : Nat, a < s.heap.size → ¬ A a) : ∃ a v : Nat, (va_O "java/lang/String" a A s s.heap ∧ va_OF "java/lang/String" "coder" "B" (.int 0) a A s s.heap ∧ va_OF "java/lang/String" "value" "[B" (.ref v) a A s s.heap ∧ va_T .byte v (kLen.getD 5 0) (fun j => .int ((kByt.getD 5 []).getD j 0)) A s s.heap) ∧ vk_R "CurtainHouse$Tape" 112 "iron" a s ∧ vk_R "CurtainHouseModel" 37 "iron" a s := by
  obtain ⟨a, c, cA, kA, q1, q2, q3, q4, q5, q6, -⟩ := Cond.exactly_spec (args := #[Value.ref b]) (first := s) (o := none) (s := s) (idx := []) (t := (Term.string "CurtainHouse$Tape" 112)) (cls := "java/lang/String") (hf _ (by decide +kernel))
  obtain ⟨t, h1, h2⟩ := va_Tof (args := #[Value.ref b]) (s := s) (tm := .field (Term.string "CurtainHouse$Tape" 112) "java/lang/String" "value" "[B") (ty := .byte) (N := kLen.getD 5 0) (f := fun j => .int ((kByt.getD 5 []).getD j 0)) (A := A) (by decide) (hf _ (by decide +kernel)) (va_eqt (z := Int32.ofNat 4) (hf _ (by decide +kernel))) (fun j hj => by rcases (show j = 0 ∨ j = 1 ∨ j = 2 ∨ j = 3 by simp only [kLen] at hj; simp at hj; omega) with rfl | rfl | rfl | rfl <;> exact va_eqt (hf _ (by decide +kernel))) hA
  exact ⟨a, t, ⟨⟨cA, q3, q5, by rw [q6]; exact q2, hA a (Array.getElem?_eq_some_iff.mp q3).1⟩, vk_OFof q1 (va_eqt (hf _ (by decide +kernel))) hA, vk_OFof q1 h1 hA, h2⟩, vk_R.of (ht _ (List.mem_of_getElem? (i := 566) (by decide +kernel))) q1, vk_R.of (ht _ (List.mem_of_getElem? (i := 690) (by decide +kernel))) (va_eqR (hf (.eq (Term.string "CurtainHouse$Tape" 112) (Term.string "CurtainHouseModel" 37)) (by decide +kernel)) q1)⟩
theorem sg_6 (hf : ∀ c ∈ flatC (Jvm.Cond.and given_1 narrow_1), c.before #[Value.ref b] s = true) (ht : ∀ w ∈ tables_1, w.before #[Value.ref b] s = true) (hA : ∀ a : Nat, a < s.heap.size → ¬ A a) : ∃ a v : Nat, (va_O "java/lang/String" a A s s.heap ∧ va_OF "java/lang/String" "coder" "B" (.int 0) a A s s.heap ∧ va_OF "java/lang/String" "value" "[B" (.ref v) a A s s.heap ∧ va_T .byte v (kLen.getD 6 0) (fun j => .int ((kByt.getD 6 []).getD j 0)) A s s.heap) ∧ vk_R "CurtainHouse$Tape" 114 "fringe" a s ∧ vk_R "CurtainHouseModel" 39 "fringe" a s := by
  obtain ⟨a, c, cA, kA, q1, q2, q3, q4, q5, q6, -⟩ := Cond.exactly_spec (args := #[Value.ref b]) (first := s) (o := none) (s := s) (idx := []) (t := (Term.string "CurtainHouse$Tape" 114)) (cls := "java/lang/String") (hf _ (by decide +kernel))
  obtain ⟨t, h1, h2⟩ := va_Tof (args := #[Value.ref b]) (s := s) (tm := .field (Term.string "CurtainHouse$Tape" 114) "java/lang/String" "value" "[B") (ty := .byte) (N := kLen.getD 6 0) (f := fun j => .int ((kByt.getD 6 []).getD j 0)) (A := A) (by decide) (hf _ (by decide +kernel)) (va_eqt (z := Int32.ofNat 6) (hf _ (by decide +kernel))) (fun j hj => by rcases (show j = 0 ∨ j = 1 ∨ j = 2 ∨ j = 3 ∨ j = 4 ∨ j = 5 by simp only [kLen] at hj; simp at hj; omega) with rfl | rfl | rfl | rfl | rfl | rfl <;> exact va_eqt (hf _ (by decide +kernel))) hA
  exact ⟨a, t, ⟨⟨cA, q3, q5, by rw [q6]; exact q2, hA a (Array.getElem?_eq_some_iff.mp q3).1⟩, vk_OFof q1 (va_eqt (hf _ (by decide +kernel))) hA, vk_OFof q1 h1 hA, h2⟩, vk_R.of (ht _ (List.mem_of_getElem? (i := 567) (by decide +kernel))) q1, vk_R.of (ht _ (List.mem_of_getElem? (i := 691) (by decide +kernel))) (va_eqR (hf (.eq (Term.string "CurtainHouse$Tape" 114) (Term.string "CurtainHouseModel" 39)) (by decide +kernel)) q1)⟩
theorem sg_7 (hf : ∀ c ∈ flatC (Jvm.Cond.and given_1 narrow_1), c.before #[Value.ref b] s = true) (ht : ∀ w ∈ tables_1, w.before #[Value.ref b] s = true) (hA : ∀ a : Nat, a < s.heap.size → ¬ A a) : ∃ a v : Nat, (va_O "java/lang/String" a A s s.heap ∧ va_OF "java/lang/String" "coder" "B" (.int 0) a A s s.heap ∧ va_OF "java/lang/String" "value" "[B" (.ref v) a A s s.heap ∧ va_T .byte v (kLen.getD 7 0) (fun j => .int ((kByt.getD 7 []).getD j 0)) A s s.heap) ∧ vk_R "CurtainHouse$Tape" 43 "scene" a s ∧ vk_R "CurtainHouseModel" 295 "scene" a s := by
  obtain ⟨a, c, cA, kA, q1, q2, q3, q4, q5, q6, -⟩ := Cond.exactly_spec (args := #[Value.ref b]) (first := s) (o := none) (s := s) (idx := []) (t := (Term.string "CurtainHouse$Tape" 43)) (cls := "java/lang/String") (hf _ (by decide +kernel))
  obtain ⟨t, h1, h2⟩ := va_Tof (args := #[Value.ref b]) (s := s) (tm := .field (Term.string "CurtainHouse$Tape" 43) "java/lang/String" "value" "[B") (ty := .byte) (N := kLen.getD 7 0) (f := fun j => .int ((kByt.getD 7 []).getD j 0)) (A := A) (by decide) (hf _ (by decide +kernel)) (va_eqt (z := Int32.ofNat 5) (hf _ (by decide +kernel))) (fun j hj => by rcases (show j = 0 ∨ j = 1 ∨ j = 2 ∨ j = 3 ∨ j = 4 by simp only [kLen] at hj; simp at hj; omega) with rfl | rfl | rfl | rfl | rfl <;> exact va_eqt (hf _ (by decide +kernel))) hA
  exact ⟨a, t, ⟨⟨cA, q3, q5, by rw [q6]; exact q2, hA a (Array.getElem?_eq_some_iff.mp q3).1⟩, vk_OFof q1 (va_eqt (hf _ (by decide +kernel))) hA, vk_OFof q1 h1 hA, h2⟩, vk_R.of (ht _ (List.mem_of_getElem? (i := 572) (by decide +kernel))) q1, vk_R.of (ht _ (List.mem_of_getElem? (i := 1094) (by decide +kernel))) (va_eqR (hf (.eq (Term.string "CurtainHouse$Tape" 43) (Term.string "CurtainHouseModel" 295)) (by decide +kernel)) q1)⟩
theorem sg_8 (hf : ∀ c ∈ flatC (Jvm.Cond.and given_1 narrow_1), c.before #[Value.ref b] s = true) (ht : ∀ w ∈ tables_1, w.before #[Value.ref b] s = true) (hA : ∀ a : Nat, a < s.heap.size → ¬ A a) : ∃ a v : Nat, (va_O "java/lang/String" a A s s.heap ∧ va_OF "java/lang/String" "coder" "B" (.int 0) a A s s.heap ∧ va_OF "java/lang/String" "value" "[B" (.ref v) a A s s.heap ∧ va_T .byte v (kLen.getD 8 0) (fun j => .int ((kByt.getD 8 []).getD j 0)) A s s.heap) ∧ vk_R "CurtainHouse$Tape" 52 "fire" a s ∧ vk_R "CurtainHouseModel" 297 "fire" a s := by
  obtain ⟨a, c, cA, kA, q1, q2, q3, q4, q5, q6, -⟩ := Cond.exactly_spec (args := #[Value.ref b]) (first := s) (o := none) (s := s) (idx := []) (t := (Term.string "CurtainHouse$Tape" 52)) (cls := "java/lang/String") (hf _ (by decide +kernel))
  obtain ⟨t, h1, h2⟩ := va_Tof (args := #[Value.ref b]) (s := s) (tm := .field (Term.string "CurtainHouse$Tape" 52) "java/lang/String" "value" "[B") (ty := .byte) (N := kLen.getD 8 0) (f := fun j => .int ((kByt.getD 8 []).getD j 0)) (A := A) (by decide) (hf _ (by decide +kernel)) (va_eqt (z := Int32.ofNat 4) (hf _ (by decide +kernel))) (fun j hj => by rcases (show j = 0 ∨ j = 1 ∨ j = 2 ∨ j = 3 by simp only [kLen] at hj; simp at hj; omega) with rfl | rfl | rfl | rfl <;> exact va_eqt (hf _ (by decide +kernel))) hA
  exact ⟨a, t, ⟨⟨cA, q3, q5, by rw [q6]; exact q2, hA a (Array.getElem?_eq_some_iff.mp q3).1⟩, vk_OFof q1 (va_eqt (hf _ (by decide +kernel))) hA, vk_OFof q1 h1 hA, h2⟩, vk_R.of (ht _ (List.mem_of_getElem? (i := 585) (by decide +kernel))) q1, vk_R.of (ht _ (List.mem_of_getElem? (i := 1095) (by decide +kernel))) (va_eqR (hf (.eq (Term.string "CurtainHouse$Tape" 52) (Term.string "CurtainHouseModel" 297)) (by decide +kernel)) q1)⟩
theorem sg_9 (hf : ∀ c ∈ flatC (Jvm.Cond.and given_1 narrow_1), c.before #[Value.ref b] s = true) (ht : ∀ w ∈ tables_1, w.before #[Value.ref b] s = true) (hA : ∀ a : Nat, a < s.heap.size → ¬ A a) : ∃ a v : Nat, (va_O "java/lang/String" a A s s.heap ∧ va_OF "java/lang/String" "coder" "B" (.int 0) a A s s.heap ∧ va_OF "java/lang/String" "value" "[B" (.ref v) a A s s.heap ∧ va_T .byte v (kLen.getD 9 0) (fun j => .int ((kByt.getD 9 []).getD j 0)) A s s.heap) ∧ vk_R "CurtainHouse$Tape" 58 "out" a s ∧ vk_R "CurtainHouseModel" 299 "out" a s := by
  obtain ⟨a, c, cA, kA, q1, q2, q3, q4, q5, q6, -⟩ := Cond.exactly_spec (args := #[Value.ref b]) (first := s) (o := none) (s := s) (idx := []) (t := (Term.string "CurtainHouse$Tape" 58)) (cls := "java/lang/String") (hf _ (by decide +kernel))
  obtain ⟨t, h1, h2⟩ := va_Tof (args := #[Value.ref b]) (s := s) (tm := .field (Term.string "CurtainHouse$Tape" 58) "java/lang/String" "value" "[B") (ty := .byte) (N := kLen.getD 9 0) (f := fun j => .int ((kByt.getD 9 []).getD j 0)) (A := A) (by decide) (hf _ (by decide +kernel)) (va_eqt (z := Int32.ofNat 3) (hf _ (by decide +kernel))) (fun j hj => by rcases (show j = 0 ∨ j = 1 ∨ j = 2 by simp only [kLen] at hj; simp at hj; omega) with rfl | rfl | rfl <;> exact va_eqt (hf _ (by decide +kernel))) hA
  exact ⟨a, t, ⟨⟨cA, q3, q5, by rw [q6]; exact q2, hA a (Array.getElem?_eq_some_iff.mp q3).1⟩, vk_OFof q1 (va_eqt (hf _ (by decide +kernel))) hA, vk_OFof q1 h1 hA, h2⟩, vk_R.of (ht _ (List.mem_of_getElem? (i := 586) (by decide +kernel))) q1, vk_R.of (ht _ (List.mem_of_getElem? (i := 1096) (by decide +kernel))) (va_eqR (hf (.eq (Term.string "CurtainHouse$Tape" 58) (Term.string "CurtainHouseModel" 299)) (by decide +kernel)) q1)⟩
theorem sg_10 (hf : ∀ c ∈ flatC (Jvm.Cond.and given_1 narrow_1), c.before #[Value.ref b] s = true) (ht : ∀ w ∈ tables_1, w.before #[Value.ref b] s = true) (hA : ∀ a : Nat, a < s.heap.size → ¬ A a) : ∃ a v : Nat, (va_O "java/lang/String" a A s s.heap ∧ va_OF "java/lang/String" "coder" "B" (.int 0) a A s s.heap ∧ va_OF "java/lang/String" "value" "[B" (.ref v) a A s s.heap ∧ va_T .byte v (kLen.getD 10 0) (fun j => .int ((kByt.getD 10 []).getD j 0)) A s s.heap) ∧ vk_R "CurtainHouse$Tape" 68 "mood" a s ∧ vk_R "CurtainHouseModel" 274 "mood" a s := by
  obtain ⟨a, c, cA, kA, q1, q2, q3, q4, q5, q6, -⟩ := Cond.exactly_spec (args := #[Value.ref b]) (first := s) (o := none) (s := s) (idx := []) (t := (Term.string "CurtainHouse$Tape" 68)) (cls := "java/lang/String") (hf _ (by decide +kernel))
  obtain ⟨t, h1, h2⟩ := va_Tof (args := #[Value.ref b]) (s := s) (tm := .field (Term.string "CurtainHouse$Tape" 68) "java/lang/String" "value" "[B") (ty := .byte) (N := kLen.getD 10 0) (f := fun j => .int ((kByt.getD 10 []).getD j 0)) (A := A) (by decide) (hf _ (by decide +kernel)) (va_eqt (z := Int32.ofNat 4) (hf _ (by decide +kernel))) (fun j hj => by rcases (show j = 0 ∨ j = 1 ∨ j = 2 ∨ j = 3 by simp only [kLen] at hj; simp at hj; omega) with rfl | rfl | rfl | rfl <;> exact va_eqt (hf _ (by decide +kernel))) hA
  exact ⟨a, t, ⟨⟨cA, q3, q5, by rw [q6]; exact q2, hA a (Array.getElem?_eq_some_iff.mp q3).1⟩, vk_OFof q1 (va_eqt (hf _ (by decide +kernel))) hA, vk_OFof q1 h1 hA, h2⟩, vk_R.of (ht _ (List.mem_of_getElem? (i := 593) (by decide +kernel))) q1, vk_R.of (ht _ (List.mem_of_getElem? (i := 1078) (by decide +kernel))) (va_eqR (hf (.eq (Term.string "CurtainHouse$Tape" 68) (Term.string "CurtainHouseModel" 274)) (by decide +kernel)) q1)⟩
theorem sg_11 (hf : ∀ c ∈ flatC (Jvm.Cond.and given_1 narrow_1), c.before #[Value.ref b] s = true) (ht : ∀ w ∈ tables_1, w.before #[Value.ref b] s = true) (hA : ∀ a : Nat, a < s.heap.size → ¬ A a) : ∃ a v : Nat, (va_O "java/lang/String" a A s s.heap ∧ va_OF "java/lang/String" "coder" "B" (.int 0) a A s s.heap ∧ va_OF "java/lang/String" "value" "[B" (.ref v) a A s s.heap ∧ va_T .byte v (kLen.getD 11 0) (fun j => .int ((kByt.getD 11 []).getD j 0)) A s s.heap) ∧ vk_R "CurtainHouse$Tape" 74 "likes" a s ∧ vk_R "CurtainHouseModel" 282 "likes" a s := by
  obtain ⟨a, c, cA, kA, q1, q2, q3, q4, q5, q6, -⟩ := Cond.exactly_spec (args := #[Value.ref b]) (first := s) (o := none) (s := s) (idx := []) (t := (Term.string "CurtainHouse$Tape" 74)) (cls := "java/lang/String") (hf _ (by decide +kernel))
  obtain ⟨t, h1, h2⟩ := va_Tof (args := #[Value.ref b]) (s := s) (tm := .field (Term.string "CurtainHouse$Tape" 74) "java/lang/String" "value" "[B") (ty := .byte) (N := kLen.getD 11 0) (f := fun j => .int ((kByt.getD 11 []).getD j 0)) (A := A) (by decide) (hf _ (by decide +kernel)) (va_eqt (z := Int32.ofNat 5) (hf _ (by decide +kernel))) (fun j hj => by rcases (show j = 0 ∨ j = 1 ∨ j = 2 ∨ j = 3 ∨ j = 4 by simp only [kLen] at hj; simp at hj; omega) with rfl | rfl | rfl | rfl | rfl <;> exact va_eqt (hf _ (by decide +kernel))) hA
  exact ⟨a, t, ⟨⟨cA, q3, q5, by rw [q6]; exact q2, hA a (Array.getElem?_eq_some_iff.mp q3).1⟩, vk_OFof q1 (va_eqt (hf _ (by decide +kernel))) hA, vk_OFof q1 h1 hA, h2⟩, vk_R.of (ht _ (List.mem_of_getElem? (i := 600) (by decide +kernel))) q1, vk_R.of (ht _ (List.mem_of_getElem? (i := 1087) (by decide +kernel))) (va_eqR (hf (.eq (Term.string "CurtainHouse$Tape" 74) (Term.string "CurtainHouseModel" 282)) (by decide +kernel)) q1)⟩
theorem sg_12 (hf : ∀ c ∈ flatC (Jvm.Cond.and given_1 narrow_1), c.before #[Value.ref b] s = true) (ht : ∀ w ∈ tables_1, w.before #[Value.ref b] s = true) (hA : ∀ a : Nat, a < s.heap.size → ¬ A a) : ∃ a v : Nat, (va_O "java/lang/String" a A s s.heap ∧ va_OF "java/lang/String" "coder" "B" (.int 0) a A s s.heap ∧ va_OF "java/lang/String" "value" "[B" (.ref v) a A s s.heap ∧ va_T .byte v (kLen.getD 12 0) (fun j => .int ((kByt.getD 12 []).getD j 0)) A s s.heap) ∧ vk_R "CurtainHouse$Tape" 76 "high" a s ∧ vk_R "CurtainHouseModel" 284 "high" a s := by
  obtain ⟨a, c, cA, kA, q1, q2, q3, q4, q5, q6, -⟩ := Cond.exactly_spec (args := #[Value.ref b]) (first := s) (o := none) (s := s) (idx := []) (t := (Term.string "CurtainHouse$Tape" 76)) (cls := "java/lang/String") (hf _ (by decide +kernel))
  obtain ⟨t, h1, h2⟩ := va_Tof (args := #[Value.ref b]) (s := s) (tm := .field (Term.string "CurtainHouse$Tape" 76) "java/lang/String" "value" "[B") (ty := .byte) (N := kLen.getD 12 0) (f := fun j => .int ((kByt.getD 12 []).getD j 0)) (A := A) (by decide) (hf _ (by decide +kernel)) (va_eqt (z := Int32.ofNat 4) (hf _ (by decide +kernel))) (fun j hj => by rcases (show j = 0 ∨ j = 1 ∨ j = 2 ∨ j = 3 by simp only [kLen] at hj; simp at hj; omega) with rfl | rfl | rfl | rfl <;> exact va_eqt (hf _ (by decide +kernel))) hA
  exact ⟨a, t, ⟨⟨cA, q3, q5, by rw [q6]; exact q2, hA a (Array.getElem?_eq_some_iff.mp q3).1⟩, vk_OFof q1 (va_eqt (hf _ (by decide +kernel))) hA, vk_OFof q1 h1 hA, h2⟩, vk_R.of (ht _ (List.mem_of_getElem? (i := 601) (by decide +kernel))) q1, vk_R.of (ht _ (List.mem_of_getElem? (i := 1088) (by decide +kernel))) (va_eqR (hf (.eq (Term.string "CurtainHouse$Tape" 76) (Term.string "CurtainHouseModel" 284)) (by decide +kernel)) q1)⟩
theorem sg_13 (hf : ∀ c ∈ flatC (Jvm.Cond.and given_1 narrow_1), c.before #[Value.ref b] s = true) (ht : ∀ w ∈ tables_1, w.before #[Value.ref b] s = true) (hA : ∀ a : Nat, a < s.heap.size → ¬ A a) : ∃ a v : Nat, (va_O "java/lang/String" a A s s.heap ∧ va_OF "java/lang/String" "coder" "B" (.int 0) a A s s.heap ∧ va_OF "java/lang/String" "value" "[B" (.ref v) a A s s.heap ∧ va_T .byte v (kLen.getD 13 0) (fun j => .int ((kByt.getD 13 []).getD j 0)) A s s.heap) ∧ vk_R "CurtainHouse$Tape" 78 "tied" a s ∧ vk_R "CurtainHouseModel" 286 "tied" a s := by
  obtain ⟨a, c, cA, kA, q1, q2, q3, q4, q5, q6, -⟩ := Cond.exactly_spec (args := #[Value.ref b]) (first := s) (o := none) (s := s) (idx := []) (t := (Term.string "CurtainHouse$Tape" 78)) (cls := "java/lang/String") (hf _ (by decide +kernel))
  obtain ⟨t, h1, h2⟩ := va_Tof (args := #[Value.ref b]) (s := s) (tm := .field (Term.string "CurtainHouse$Tape" 78) "java/lang/String" "value" "[B") (ty := .byte) (N := kLen.getD 13 0) (f := fun j => .int ((kByt.getD 13 []).getD j 0)) (A := A) (by decide) (hf _ (by decide +kernel)) (va_eqt (z := Int32.ofNat 4) (hf _ (by decide +kernel))) (fun j hj => by rcases (show j = 0 ∨ j = 1 ∨ j = 2 ∨ j = 3 by simp only [kLen] at hj; simp at hj; omega) with rfl | rfl | rfl | rfl <;> exact va_eqt (hf _ (by decide +kernel))) hA
  exact ⟨a, t, ⟨⟨cA, q3, q5, by rw [q6]; exact q2, hA a (Array.getElem?_eq_some_iff.mp q3).1⟩, vk_OFof q1 (va_eqt (hf _ (by decide +kernel))) hA, vk_OFof q1 h1 hA, h2⟩, vk_R.of (ht _ (List.mem_of_getElem? (i := 602) (by decide +kernel))) q1, vk_R.of (ht _ (List.mem_of_getElem? (i := 1089) (by decide +kernel))) (va_eqR (hf (.eq (Term.string "CurtainHouse$Tape" 78) (Term.string "CurtainHouseModel" 286)) (by decide +kernel)) q1)⟩
theorem st_all (hf : ∀ c ∈ flatC (Jvm.Cond.and given_1 narrow_1), c.before #[Value.ref b] s = true) (ht : ∀ w ∈ tables_1, w.before #[Value.ref b] s = true) (hA : ∀ a : Nat, a < s.heap.size → ¬ A a) : ∃ aS : Nat → Nat, ∀ k, k < 7 → va_Z "CurtainHouse" (sNm k) "[I" (.ref (aS k)) A s s.heap ∧ va_T .int (aS k) (sTab k).length (fun j => .int ((sTab k).getD j 0)) A s s.heap := by
  obtain ⟨t0, h0⟩ := st_0 hf ht hA
  obtain ⟨t1, h1⟩ := st_1 hf ht hA
  obtain ⟨t2, h2⟩ := st_2 hf ht hA
  obtain ⟨t3, h3⟩ := st_3 hf ht hA
  obtain ⟨t4, h4⟩ := st_4 hf ht hA
  obtain ⟨t5, h5⟩ := st_5 hf ht hA
  obtain ⟨t6, h6⟩ := st_6 hf ht hA
  refine ⟨fun k => [t0, t1, t2, t3, t4, t5, t6].getD k 0, fun k hk => ?_⟩
  rcases (show k = 0 ∨ k = 1 ∨ k = 2 ∨ k = 3 ∨ k = 4 ∨ k = 5 ∨ k = 6 by omega) with rfl | rfl | rfl | rfl | rfl | rfl | rfl
  · exact h0
  · exact h1
  · exact h2
  · exact h3
  · exact h4
  · exact h5
  · exact h6
theorem sg_all (hf : ∀ c ∈ flatC (Jvm.Cond.and given_1 narrow_1), c.before #[Value.ref b] s = true) (ht : ∀ w ∈ tables_1, w.before #[Value.ref b] s = true) (hA : ∀ a : Nat, a < s.heap.size → ¬ A a) : ∃ aK aV : Nat → Nat, SX aK aV A s s.heap := by
  obtain ⟨a0, v0, h0, u0, w0⟩ := sg_0 hf ht hA
  obtain ⟨a1, v1, h1, u1, w1⟩ := sg_1 hf ht hA
  obtain ⟨a2, v2, h2, u2, w2⟩ := sg_2 hf ht hA
  obtain ⟨a3, v3, h3, u3, w3⟩ := sg_3 hf ht hA
  obtain ⟨a4, v4, h4, u4, w4⟩ := sg_4 hf ht hA
  obtain ⟨a5, v5, h5, u5, w5⟩ := sg_5 hf ht hA
  obtain ⟨a6, v6, h6, u6, w6⟩ := sg_6 hf ht hA
  obtain ⟨a7, v7, h7, u7, w7⟩ := sg_7 hf ht hA
  obtain ⟨a8, v8, h8, u8, w8⟩ := sg_8 hf ht hA
  obtain ⟨a9, v9, h9, u9, w9⟩ := sg_9 hf ht hA
  obtain ⟨a10, v10, h10, u10, w10⟩ := sg_10 hf ht hA
  obtain ⟨a11, v11, h11, u11, w11⟩ := sg_11 hf ht hA
  obtain ⟨a12, v12, h12, u12, w12⟩ := sg_12 hf ht hA
  obtain ⟨a13, v13, h13, u13, w13⟩ := sg_13 hf ht hA
  refine ⟨fun k => [a0, a1, a2, a3, a4, a5, a6, a7, a8, a9, a10, a11, a12, a13].getD k 0, fun k => [v0, v1, v2, v3, v4, v5, v6, v7, v8, v9, v10, v11, v12, v13].getD k 0, fun k hk => ?_, fun q hq => ?_⟩
  · rcases (show k = 0 ∨ k = 1 ∨ k = 2 ∨ k = 3 ∨ k = 4 ∨ k = 5 ∨ k = 6 ∨ k = 7 ∨ k = 8 ∨ k = 9 ∨ k = 10 ∨ k = 11 ∨ k = 12 ∨ k = 13 by omega) with rfl | rfl | rfl | rfl | rfl | rfl | rfl | rfl | rfl | rfl | rfl | rfl | rfl | rfl
    · exact h0
    · exact h1
    · exact h2
    · exact h3
    · exact h4
    · exact h5
    · exact h6
    · exact h7
    · exact h8
    · exact h9
    · exact h10
    · exact h11
    · exact h12
    · exact h13
  · simp only [kRefs, List.mem_cons, List.not_mem_nil, or_false] at hq
    rcases hq with rfl | rfl | rfl | rfl | rfl | rfl | rfl | rfl | rfl | rfl | rfl | rfl | rfl | rfl | rfl | rfl | rfl | rfl | rfl | rfl | rfl | rfl | rfl | rfl | rfl | rfl | rfl | rfl
    · exact u0
    · exact u1
    · exact u2
    · exact u3
    · exact u4
    · exact u5
    · exact u6
    · exact u7
    · exact u8
    · exact u9
    · exact u10
    · exact u11
    · exact u12
    · exact u13
    · exact w0
    · exact w1
    · exact w2
    · exact w3
    · exact w4
    · exact w5
    · exact w6
    · exact w10
    · exact w11
    · exact w12
    · exact w13
    · exact w7
    · exact w8
    · exact w9
end PREM
