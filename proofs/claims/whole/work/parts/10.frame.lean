/-! THE FRAME: all cells of both objects at addresses that never change; what changes is a row of ints a cell. Own rows. -/
abbrev Mem : Type := Nat → Nat → Int32
abbrev LV : Type := List (Nat × Value)
def setr (σ : Mem) (i : Nat) (r : Nat → Int32) : Mem := fun a => if a = i then r else σ a
def up2 (σ : Mem) (i k : Nat) (v : Int32) : Mem := setr σ i (upd (σ i) k v)
def cpy2 (σ : Mem) (i j sp dp n : Nat) : Mem := setr σ j (va_cpy (σ i) (σ j) sp dp n)
abbrev En : Type := va_G × (Nat → Nat) × (Nat → ClassId) × (Nat → Nat) × (Nat → Nat) × (Nat → Nat)
abbrev eD (E : En) : va_G := E.1
abbrev eA (E : En) : Nat → Nat := E.2.1
abbrev eC (E : En) : Nat → ClassId := E.2.2.1
abbrev eK (E : En) : Nat → Nat := E.2.2.2.1
abbrev eV (E : En) : Nat → Nat := E.2.2.2.2.1
abbrev eS (E : En) : Nat → Nat := E.2.2.2.2.2
abbrev eT (E : En) : List (ClassId × FieldType) := [(eC E 0, .int), (eC E 1, .byte), (eC E 2, .object "CurtainHouse$Curtain"), (eC E 3, .object "CurtainHouse$Sheet"), (eC E 4, .object "java/lang/String")]
/-- the kind of a cell: 0 Curtain, 1 House, 2 Sheet, 3 Tape, 4 CurtainHouse, 5 the reference, 6 ints, 7 bytes, 8 Curtains, 9 Sheets, 10 Strings -/
def ck (i : Nat) : Nat :=
  if i = 0 then 4 else if i = 37 then 0 else if i = 38 then 3 else if i = 39 then 7 else if i = 40 then 9 else if i = 49 then 6 else if i = 50 then 5 else if i = 56 then 10 else if 50 < i then 6
  else if 40 < i then (if (i - 41) % 2 = 0 then 2 else 6)
  else if (i - 1) % 12 = 0 then 1 else if (i - 1) % 12 ≤ 2 then 6 else if (i - 1) % 12 = 3 then 8 else 0
def ln (i : Nat) : Nat :=
  if i = 39 then 120 else if i = 40 then 4 else if i = 49 then 7 else if 50 < i then [70, 70, 70, 8, 120, 7, 600, 4, 4, 160, 40].getD (i - 51) 0
  else if 40 < i then (if (i - 41) % 2 = 0 then 0 else 40)
  else if (i - 1) % 12 = 1 then 6 else if (i - 1) % 12 = 2 then 10 else if (i - 1) % 12 = 3 then 8 else 0
def cel (E : En) (i : Nat) (r : Nat → Int32) : va_E :=
  if ck i = 0 then .inr (0, [.int (r 0), .int (r 1), .int (r 2), .int (r 3), .int (r 4), .int (r 5)])
  else if ck i = 1 then .inr (1, [.int (r 0), .int (r 1), .int (r 2), .int (r 3), .int (r 4), .int (r 5), .ref (eA E (i + 1)), .ref (eA E (i + 2)), .ref (eA E (i + 3))])
  else if ck i = 2 then .inr (2, [.int (r 0), .int (r 1), .ref (eA E (i + 1))])
  else if ck i = 3 then .inr (3, [.ref (eA E 39), .int (r 1), .int (r 2), .int (r 3), .int (r 4), .int (r 5)])
  else if ck i = 4 then .inr (4, [.ref (eA E 1), .ref (eA E 13), .int (r 2), .ref (eA E 25), .ref (eA E 37), .ref (eA E 38), .ref (eA E 40), .ref (eA E 49)])
  else if ck i = 5 then .inr (5, [.ref (eA E 51), .ref (eA E 52), .ref (eA E 53), .int (r 3), .ref (eA E 54), .ref (eA E 55), .int (r 6), .int (r 7), .int (r 8), .int (r 9), .int (r 10), .int (r 11), .ref (eA E 56), .ref (eA E 57), .int (r 14), .int (r 15), .ref (eA E 58), .ref (eA E 59), .ref (eA E 60), .ref (eA E 61)])
  else if ck i = 6 then .inl (eC E 0, ln i, .inl r)
  else if ck i = 7 then .inl (eC E 1, ln i, .inl r)
  else if ck i = 8 then .inl (eC E 2, ln i, .inr (.inr (.inr (.inr (fun j => some (eA E (i + 1 + j)))))))
  else if ck i = 9 then .inl (eC E 3, ln i, .inr (.inr (.inr (.inr (fun j => some (eA E (i + 1 + 2 * j)))))))
  else .inl (eC E 4, ln i, .inr (.inr (.inr (.inr (fun j => some (eK E j))))))
def wsW (E : En) (ρ : Mem) : va_W := (List.range 62).map (fun i => (eA E i, cel E i (ρ i)))
def WA (E : En) : Nat → Prop := fun q => ∃ i, i < 62 ∧ eA E i = q
theorem ws_get {E : En} {ρ : Mem} {i : Nat} (h : i < 62) : (wsW E ρ)[i]? = some (eA E i, cel E i (ρ i)) := by
  simp [wsW, h]
theorem setr_same {σ : Mem} {i : Nat} {r : Nat → Int32} : setr σ i r i = r := by simp [setr]
theorem setr_ne {σ : Mem} {i a : Nat} {r : Nat → Int32} (h : a ≠ i) : setr σ i r a = σ a := by simp [setr, h]
theorem ws_set {E : En} {ρ : Mem} {i : Nat} {r : Nat → Int32} {e : va_E} (h : i < 62) (hc : cel E i r = e) : (wsW E ρ).set i (eA E i, e) = wsW E (setr ρ i r) := by
  subst hc
  apply List.ext_getElem?
  intro a
  by_cases hi : i = a
  · subst hi
    rw [ws_get h, setr_same]
    simp [wsW, h, List.getElem?_set]
  · rw [List.getElem?_set_ne hi]
    by_cases ha : a < 62
    · rw [ws_get ha, ws_get ha, setr_ne (fun q => hi q.symm)]
    · simp [wsW, ha]
theorem wsD {E : En} (hI : ∀ i j, i < 62 → j < 62 → eA E i = eA E j → i = j) (ρ : Mem) : va_D (WA E) (wsW E ρ) := by
  refine ⟨fun i j p q hi hj hpq => ?_, fun k q hk => ?_⟩
  · have h1 : i < 62 := by
      have := (List.getElem?_eq_some_iff.mp hi).1
      simpa [wsW] using this
    have h2 : j < 62 := by
      have := (List.getElem?_eq_some_iff.mp hj).1
      simpa [wsW] using this
    rw [ws_get h1] at hi
    rw [ws_get h2] at hj
    cases hi
    cases hj
    exact hI i j h1 h2 hpq
  · have h1 : k < 62 := by
      have := (List.getElem?_eq_some_iff.mp hk).1
      simpa [wsW] using this
    rw [ws_get h1] at hk
    cases hk
    exact ⟨k, h1, rfl⟩
def sNm (k : Nat) : String := ["GLADDENS", "TIRES", "BEARS", "FALLS", "RISES", "COUNTS_AS", "MOST_OF"].getD k ""
def sTab (k : Nat) : List Int32 := [[5, 10, 4, 4, 4, 0, 8], [4, 6, 2, 2, 1, 0, 6], [30, 40, 20, 20, 40, 0, 40], [4, 2, 6, 20, 5, 1, 2], [2, 1, 3, 6, 6, 1, 1], [1, 3, 5, 13, 29, 33, 67], [6, 99, 4095, 20, 1, 9999]].getD k []
def kLen : List Nat := [7, 6, 5, 4, 5, 4, 6, 5, 4, 3, 4, 5, 4, 4]
def kByt : List (List Int32) := [[99, 117, 114, 116, 97, 105, 110], [118, 101, 108, 118, 101, 116], [103, 97, 117, 122, 101], [100, 114, 111, 112], [99, 108, 111, 117, 100], [105, 114, 111, 110], [102, 114, 105, 110, 103, 101], [115, 99, 101, 110, 101], [102, 105, 114, 101], [111, 117, 116], [109, 111, 111, 100], [108, 105, 107, 101, 115], [104, 105, 103, 104], [116, 105, 101, 100]]
def kRefs : List (String × Nat × String × Nat) := [("CurtainHouse$Tape", 99, "curtain", 0), ("CurtainHouse$Tape", 104, "velvet", 1), ("CurtainHouse$Tape", 106, "gauze", 2), ("CurtainHouse$Tape", 108, "drop", 3), ("CurtainHouse$Tape", 110, "cloud", 4), ("CurtainHouse$Tape", 112, "iron", 5), ("CurtainHouse$Tape", 114, "fringe", 6), ("CurtainHouse$Tape", 43, "scene", 7), ("CurtainHouse$Tape", 52, "fire", 8), ("CurtainHouse$Tape", 58, "out", 9), ("CurtainHouse$Tape", 68, "mood", 10), ("CurtainHouse$Tape", 74, "likes", 11), ("CurtainHouse$Tape", 76, "high", 12), ("CurtainHouse$Tape", 78, "tied", 13), ("CurtainHouseModel", 27, "curtain", 0), ("CurtainHouseModel", 29, "velvet", 1), ("CurtainHouseModel", 31, "gauze", 2), ("CurtainHouseModel", 33, "drop", 3), ("CurtainHouseModel", 35, "cloud", 4), ("CurtainHouseModel", 37, "iron", 5), ("CurtainHouseModel", 39, "fringe", 6), ("CurtainHouseModel", 274, "mood", 10), ("CurtainHouseModel", 282, "likes", 11), ("CurtainHouseModel", 284, "high", 12), ("CurtainHouseModel", 286, "tied", 13), ("CurtainHouseModel", 295, "scene", 7), ("CurtainHouseModel", 297, "fire", 8), ("CurtainHouseModel", 299, "out", 9)]
def wN : List Cond := [(Cond.methodLinkNest "CurtainHouse$House" (28 : Nat) ({ cls := "CurtainHouse$Curtain", name := "<init>", desc := "()V" } : MethodName) "CurtainHouse"), (Cond.methodLinkNest "CurtainHouse" (24 : Nat) ({ cls := "CurtainHouse$Curtain", name := "<init>", desc := "()V" } : MethodName) "CurtainHouse"), (Cond.methodLinkNest "CurtainHouse" (31 : Nat) ({ cls := "CurtainHouse$Tape", name := "<init>", desc := "()V" } : MethodName) "CurtainHouse"), (Cond.methodLinkNest "CurtainHouse" (46 : Nat) ({ cls := "CurtainHouse$Sheet", name := "<init>", desc := "()V" } : MethodName) "CurtainHouse"), (Cond.fieldLinkNest "CurtainHouse$Curtain" (51 : Nat) "CurtainHouse" "GLADDENS" "[I" "CurtainHouse"), (Cond.fieldLinkNest "CurtainHouse$Curtain" (59 : Nat) "CurtainHouse" "TIRES" "[I" "CurtainHouse"), (Cond.fieldLinkNest "CurtainHouse$Curtain" (62 : Nat) "CurtainHouse" "BEARS" "[I" "CurtainHouse"), (Cond.fieldLinkNest "CurtainHouse$Curtain" (65 : Nat) "CurtainHouse" "FALLS" "[I" "CurtainHouse"), (Cond.fieldLinkNest "CurtainHouse$Curtain" (68 : Nat) "CurtainHouse" "RISES" "[I" "CurtainHouse"), (Cond.fieldLinkNest "CurtainHouse$Tape" (84 : Nat) "CurtainHouse" "MOST_OF" "[I" "CurtainHouse"), (Cond.fieldLinkNest "CurtainHouse$Curtain" (47 : Nat) "CurtainHouse" "COUNTS_AS" "[I" "CurtainHouse")]
/-- the String constants: cells that are there from the start, none of them in A -/
def kS (aK aV : Nat → Nat) (A : Nat → Prop) (U : State) (H : Heap) : Prop := ∀ i : Nat, i < 14 → va_O "java/lang/String" (aK i) A U H ∧ va_OF "java/lang/String" "coder" "B" (.int 0) (aK i) A U H ∧ va_OF "java/lang/String" "value" "[B" (.ref (aV i)) (aK i) A U H ∧ va_T .byte (aV i) (kLen.getD i 0) (fun j => .int ((kByt.getD i []).getD j 0)) A U H
theorem kS.moved {aK aV : Nat → Nat} {A : Nat → Prop} {u U : State} {H : Heap} (hvm : u.vm.Alike U.vm) (h : kS aK aV A u H) : kS aK aV A U H := fun i hi => ⟨va_O.moved hvm (h i hi).1, va_OF.moved hvm (h i hi).2.1, va_OF.moved hvm (h i hi).2.2.1, va_T.moved hvm (h i hi).2.2.2⟩
theorem kS.kept {aK aV : Nat → Nat} {A : Nat → Prop} {U : State} {H H1 : Heap} (h : kS aK aV A U H) (hq : ∀ a : Nat, a < H.size → ¬ A a → H1[a]? = H[a]?) : kS aK aV A U H1 := fun i hi => ⟨(h i hi).1.kept hq, (h i hi).2.1.kept hq, (h i hi).2.2.1.kept hq, (h i hi).2.2.2.kept hq⟩
theorem kS.narrow {aK aV : Nat → Nat} {A B : Nat → Prop} {U : State} {H : Heap} (h : kS aK aV A U H) (hAB : ∀ q, B q → A q) : kS aK aV B U H := fun i hi => ⟨(h i hi).1.narrow hAB, (h i hi).2.1.narrow hAB, (h i hi).2.2.1.narrow hAB, (h i hi).2.2.2.narrow hAB⟩
theorem kS.recv {aK aV : Nat → Nat} {A : Nat → Prop} {s : State} {H : Heap} {locs : List Loc} {i : Nat} (hE : kS aK aV A s s.heap) (hi : i < 14) (hS : va_S A s.heap H locs) : ∃ cell : Cell, H[aK i]? = some cell ∧ cell.vm.isStatics = false ∧ s.vm.findClass "java/lang/String" = some cell.cls := by
  obtain ⟨cell, h1, h2, h3, -⟩ := (hE i hi).1.kept hS.2.1
  exact ⟨cell, h1, h2, h3⟩
def CK (E : En) (U : State) (H : Heap) : Prop :=
  va_K (eD E) vwCl (eT E) U ∧ (∀ i j, i < 62 → j < 62 → eA E i = eA E j → i = j) ∧
  (∀ k, k < 7 → va_Z "CurtainHouse" (sNm k) "[I" (.ref (eS E k)) (WA E) U H ∧ va_T .int (eS E k) (sTab k).length (fun j => .int ((sTab k).getD j 0)) (WA E) U H) ∧
  va_Z "java/lang/String" "COMPACT_STRINGS" "Z" (.int 1) (WA E) U H ∧
  kS (eK E) (eV E) (WA E) U H ∧
  (∀ q ∈ kRefs, vk_R q.1 q.2.1 q.2.2.1 (eK E q.2.2.2) U) ∧ (∀ w ∈ wN, va_Nw w U) ∧
  va_Zq "jdk/internal/util/Preconditions" "SIOOBE_FORMATTER" "Ljava/util/function/BiFunction;" (WA E) U H
theorem wN_kind : ∀ w ∈ wN, (∃ a i b n d h, w = Cond.fieldLinkNest a i b n d h) ∨ ∃ a i x h, w = Cond.methodLinkNest a i x h := by
  intro w hw
  simp only [wN, List.mem_cons, List.not_mem_nil, or_false] at hw
  rcases hw with rfl | rfl | rfl | rfl | rfl | rfl | rfl | rfl | rfl | rfl | rfl
  all_goals first | exact Or.inl ⟨_, _, _, _, _, _, rfl⟩ | exact Or.inr ⟨_, _, _, _, rfl⟩
theorem CK.move {E : En} {s U : State} {H : Heap} {locs : List Loc} (hW : s.WarmedH U.vm) (hS : va_S (WA E) s.heap H locs) (h : CK E s s.heap) : CK E U H := by
  obtain ⟨h1, h2, h3, h4, h5, h6, h7, h9⟩ := h
  have hk : ∀ a : Nat, a < s.heap.size → ¬ WA E a → H[a]? = s.heap[a]? := hS.2.1
  refine ⟨va_K.moved hW.alike h1, h2, fun k hk7 => ⟨((h3 k hk7).1.kept hk).moved hW.alike, ((h3 k hk7).2.kept hk).moved hW.alike⟩, (h4.kept hk).moved hW.alike, (h5.kept hk).moved hW.alike, fun q hq => (h6 q hq).warm hW, fun w hw => ?_, (h9.kept hk).moved hW.alike⟩
  have h8 := h7 w hw
  rcases wN_kind w hw with ⟨a, i, b, n, d, h, rfl⟩ | ⟨a, i, x, h, rfl⟩
  · exact va_Nw.warmF hW h8
  · exact va_Nw.warmM hW h8
theorem CK.same {E : En} {u U : State} {H : Heap} (hv : U.vm = u.vm) (h : CK E u H) : CK E U H := by
  obtain ⟨h1, h2, h3, h4, h5, h6, h7, h9⟩ := h
  have hA : u.vm.Alike U.vm := by rw [hv]; exact Vm.Alike.refl _
  refine ⟨va_K.moved hA h1, h2, fun k hk7 => ⟨(h3 k hk7).1.moved hA, (h3 k hk7).2.moved hA⟩, h4.moved hA, h5.moved hA, fun q hq => (h6 q hq).same hv, fun w hw => ?_, h9.moved hA⟩
  have h8 := h7 w hw
  rcases wN_kind w hw with ⟨a, i, b, n, d, h, rfl⟩ | ⟨a, i, x, h, rfl⟩
  · exact va_Nw.same rfl hv.symm h8
  · exact va_Nw.same rfl hv.symm h8
def WD (E : En) (ρ : Mem) (U : State) : Prop := va_P (eD E) vwCl (wsW E ρ) U.heap ∧ CK E U U.heap
/-- which memory is told: the class's part, or the reference's -/
def MK (mk : Mem → Mem) (sd : Nat → Prop) : Prop := (∀ σ i, sd i → mk σ i = σ i) ∧ (∀ σ i r, sd i → mk (setr σ i r) = setr (mk σ) i r)
abbrev sdC (i : Nat) : Prop := i < 50
abbrev sdM (i : Nat) : Prop := 50 ≤ i
abbrev kd (sd : Nat → Prop) (i k : Nat) : Prop := sd i ∧ i < 62 ∧ ck i = k
abbrev ka (sd : Nat → Prop) (i k n : Nat) : Prop := kd sd i k ∧ ln i = n
theorem ck1 : ∀ a, a < 62 → ck a = 1 → (a = 1 ∨ a = 13 ∨ a = 25) := by decide +kernel
theorem ck2 : ∀ a, a < 62 → ck a = 2 → (a = 41 ∨ a = 43 ∨ a = 45 ∨ a = 47) := by decide +kernel
theorem ck8 : ∀ a, a < 62 → ck a = 8 → ∀ j, j < 8 → a + 1 + j < 50 ∧ ck (a + 1 + j) = 0 := by decide +kernel
theorem ka_list {a : Nat} (h : kd sdC a 1) : ka sdC (a + 1) 6 6 := by
  rcases ck1 a h.2.1 h.2.2 with rfl | rfl | rfl <;> decide +kernel
theorem ka_spots {a : Nat} (h : kd sdC a 1) : ka sdC (a + 2) 6 10 := by
  rcases ck1 a h.2.1 h.2.2 with rfl | rfl | rfl <;> decide +kernel
theorem ka_curs {a : Nat} (h : kd sdC a 1) : ka sdC (a + 3) 8 8 := by
  rcases ck1 a h.2.1 h.2.2 with rfl | rfl | rfl <;> decide +kernel
theorem kd_cur {a j : Nat} (h : ka sdC a 8 8) (hj : j < 8) : kd sdC (a + 1 + j) 0 := by
  obtain ⟨h1, h2⟩ := ck8 a h.1.2.1 h.1.2.2 j hj
  exact ⟨h1, by omega, h2⟩
theorem kd_she : ∀ j, j < 4 → kd sdC (40 + 1 + 2 * j) 2 := by decide +kernel
theorem ka_num {a : Nat} (h : kd sdC a 2) : ka sdC (a + 1) 6 40 := by
  rcases ck2 a h.2.1 h.2.2 with rfl | rfl | rfl | rfl <;> decide +kernel

theorem kC_0 : kd sdC 0 4 := by decide +kernel
theorem kC_1 : kd sdC 1 1 := by decide +kernel
theorem kC_13 : kd sdC 13 1 := by decide +kernel
theorem kC_25 : kd sdC 25 1 := by decide +kernel
theorem kC_37 : kd sdC 37 0 := by decide +kernel
theorem kC_38 : kd sdC 38 3 := by decide +kernel
theorem kC_39 : ka sdC 39 7 120 := by decide +kernel
theorem kC_40 : ka sdC 40 9 4 := by decide +kernel
theorem kC_49 : ka sdC 49 6 7 := by decide +kernel
theorem kM_50 : kd sdM 50 5 := by decide +kernel
theorem kM_51 : ka sdM 51 6 70 := by decide +kernel
theorem kM_52 : ka sdM 52 6 70 := by decide +kernel
theorem kM_53 : ka sdM 53 6 70 := by decide +kernel
theorem kM_54 : ka sdM 54 6 8 := by decide +kernel
theorem kM_55 : ka sdM 55 6 120 := by decide +kernel
theorem kM_56 : ka sdM 56 10 7 := by decide +kernel
theorem kM_57 : ka sdM 57 6 600 := by decide +kernel
theorem kM_58 : ka sdM 58 6 4 := by decide +kernel
theorem kM_59 : ka sdM 59 6 4 := by decide +kernel
theorem kM_60 : ka sdM 60 6 160 := by decide +kernel
theorem kM_61 : ka sdM 61 6 40 := by decide +kernel

abbrev Cx : Type := Program × Launch × Env × Room × State × MethodId × Array Value × List Frame × Method × Code × (State → Prop) × Nat × En × (Mem → Mem) × Nat × Nat
abbrev xP (X : Cx) : Program := X.1
abbrev xl (X : Cx) : Launch := X.2.1
abbrev xe (X : Cx) : Env := X.2.2.1
abbrev xR (X : Cx) : Room := X.2.2.2.1
abbrev xs (X : Cx) : State := X.2.2.2.2.1
abbrev xm (X : Cx) : MethodId := X.2.2.2.2.2.1
abbrev xa (X : Cx) : Array Value := X.2.2.2.2.2.2.1
abbrev xb (X : Cx) : List Frame := X.2.2.2.2.2.2.2.1
abbrev xM (X : Cx) : Method := X.2.2.2.2.2.2.2.2.1
abbrev xc (X : Cx) : Code := X.2.2.2.2.2.2.2.2.2.1
abbrev xQ (X : Cx) : State → Prop := X.2.2.2.2.2.2.2.2.2.2.1
abbrev xn (X : Cx) : Nat := X.2.2.2.2.2.2.2.2.2.2.2.1
abbrev xE (X : Cx) : En := X.2.2.2.2.2.2.2.2.2.2.2.2.1
abbrev xk (X : Cx) : Mem → Mem := X.2.2.2.2.2.2.2.2.2.2.2.2.2.1
abbrev xC (X : Cx) : Nat := X.2.2.2.2.2.2.2.2.2.2.2.2.2.2.1
abbrev xS (X : Cx) : Nat := X.2.2.2.2.2.2.2.2.2.2.2.2.2.2.2
/-- from any heap that holds the memory σ, the machine at pc with these locals and this stack comes to its end as it must -/
def G (X : Cx) (σ : Mem) (pc : Nat) (lv : LV) (st : List Value) : Prop := ∀ (H : Heap) (locs : List Loc) (ls : Array Slot), va_P (eD (xE X)) vwCl (wsW (xE X) (xk X σ)) H → va_S (WA (xE X)) (xs X).heap H locs → lv_has ls (xn X) lv →
  W (xP X) (xl X) (xe X) (xR X) (xs X) (xm X) (xa X) (xb X) (xM X) (xc X) H locs (xC X) (xS X) (xQ X) (F0 (xm X) pc ls st)
def OK (X : Cx) (cc : ByteArray) (own : String) (sd : Nat → Prop) (nL : Nat) (R : Room) (l : Launch) : Prop :=
  (xP X).tables.exec = Jvm.exec ∧ (xc X).code = cc ∧ (xc X).maxLocals = nL ∧ xn X = nL ∧ (xs X).vm.findClass own = some (xm X).cls ∧ (∀ w ∈ wt, w.before (xa X) (xs X) = true) ∧ CK (xE X) (xs X) (xs X).heap ∧ MK (xk X) sd ∧ (xM X).locks = false ∧ xR X = R ∧ xl X = l ∧ xC X ≤ R.cells ∧ xS X ≤ R.slots
section OKS
variable {X : Cx} {cc : ByteArray} {own : String} {sd : Nat → Prop} {nL : Nat} {R : Room} {l : Launch}
theorem OK.x (o : OK X cc own sd nL R l) : (xP X).tables.exec = Jvm.exec := o.1
theorem OK.b (o : OK X cc own sd nL R l) : (xc X).code = cc := o.2.1
theorem OK.ml (o : OK X cc own sd nL R l) : (xc X).maxLocals = nL := o.2.2.1
theorem OK.n (o : OK X cc own sd nL R l) : xn X = nL := o.2.2.2.1
theorem OK.ow (o : OK X cc own sd nL R l) : (xs X).vm.findClass own = some (xm X).cls := o.2.2.2.2.1
theorem OK.ts (o : OK X cc own sd nL R l) : ∀ w ∈ wt, w.before (xa X) (xs X) = true := o.2.2.2.2.2.1
theorem OK.ck (o : OK X cc own sd nL R l) : CK (xE X) (xs X) (xs X).heap := o.2.2.2.2.2.2.1
theorem OK.mk (o : OK X cc own sd nL R l) : MK (xk X) sd := o.2.2.2.2.2.2.2.1
theorem OK.lo (o : OK X cc own sd nL R l) : (xM X).locks = false := o.2.2.2.2.2.2.2.2.1
theorem OK.r (o : OK X cc own sd nL R l) : xR X = R := o.2.2.2.2.2.2.2.2.2.1
theorem OK.la (o : OK X cc own sd nL R l) : xl X = l := o.2.2.2.2.2.2.2.2.2.2.1
theorem OK.hc (o : OK X cc own sd nL R l) : xC X ≤ R.cells := o.2.2.2.2.2.2.2.2.2.2.2.1
theorem OK.hs (o : OK X cc own sd nL R l) : xS X ≤ R.slots := o.2.2.2.2.2.2.2.2.2.2.2.2
theorem OK.D (o : OK X cc own sd nL R l) (ρ : Mem) : va_D (WA (xE X)) (wsW (xE X) ρ) := wsD o.ck.2.1 ρ
end OKS
/-! the words of the pure functions -/
def vL {α β : Type} (a : α) (K : α → β) : β := K a
def vW {β : Type} (σ : Mem) (i k : Nat) (v : Int32) (K : Mem → β) : β := K (up2 σ i k v)
def vI {β : Type} (n : Nat) (x : Int32) (K : Nat → Option β) : Option β := if ¬ (x < 0 ∨ n ≤ x.toNatClampNeg) then K x.toNatClampNeg else none
def vC {α β : Type} (a : Option (α × Mem)) (K : α → Mem → Option β) : Option β := match a with
  | none => none
  | some (r, σ) => K r σ
def vN {β : Type} (y : Int32) (K : Option β) : Option β := if y = 0 then none else K
def vB {β : Type} (v : Int32) (K : Option β) : Option β := if v = 0 ∨ v = 1 then K else none
def FU : Nat := 10000
theorem vI_some {β : Type} {n : Nat} {x : Int32} {K : Nat → Option β} {r : β} (h : vI n x K = some r) : vp_in x n ∧ x.toNatClampNeg < n ∧ K x.toNatClampNeg = some r := by
  unfold vI at h
  split at h
  · rename_i c
    exact ⟨c, Nat.not_le.mp fun q => c (Or.inr q), h⟩
  · cases h
theorem vC_some {α β : Type} {a : Option (α × Mem)} {K : α → Mem → Option β} {r : β} (h : vC a K = some r) : ∃ b σ, a = some (b, σ) ∧ K b σ = some r := by
  unfold vC at h
  split at h
  · cases h
  · exact ⟨_, _, rfl, h⟩
section ROWS
variable {X : Cx} {cc : ByteArray} {own : String} {sd : Nat → Prop} {nL : Nat} {R : Room} {l : Launch} {σ : Mem} {pc q : Nat} {lv : LV} {rest : List Value} {ρ : Type} {res : ρ}

theorem g_iconst (o : OK X cc own sd nL R l) {n : Int} {v : Int32} (hv : Int32.ofInt n = v) (d : decode cc pc = .ok (.iconst n, 1)) (hq : pc + 1 = q) (k : G X σ q lv (.int v :: rest)) : G X σ pc lv (rest) := fun H locs ls hP hS hl => by
  subst hq
  exact lv_iconst o.x o.b d hv (k H locs ls hP hS hl)
theorem g_bipush (o : OK X cc own sd nL R l) {n : Int} {v : Int32} (hv : (Int8.ofInt n).toInt32 = v) (d : decode cc pc = .ok (.bipush n, 2)) (hq : pc + 2 = q) (k : G X σ q lv (.int v :: rest)) : G X σ pc lv (rest) := fun H locs ls hP hS hl => by
  subst hq
  exact lv_bipush o.x o.b d hv (k H locs ls hP hS hl)
theorem g_sipush (o : OK X cc own sd nL R l) {n : Int} {v : Int32} (hv : (Int16.ofInt n).toInt32 = v) (d : decode cc pc = .ok (.sipush n, 3)) (hq : pc + 3 = q) (k : G X σ q lv (.int v :: rest)) : G X σ pc lv (rest) := fun H locs ls hP hS hl => by
  subst hq
  exact lv_sipush o.x o.b d hv (k H locs ls hP hS hl)
theorem g_lconst (o : OK X cc own sd nL R l) {n : Fin 2} {v : Int64} (hv : Int64.ofNat (n : Nat) = v) (d : decode cc pc = .ok (.lconst n, 1)) (hq : pc + 1 = q) (k : G X σ q lv (.long v :: rest)) : G X σ pc lv (rest) := fun H locs ls hP hS hl => by
  subst hq
  exact lv_lconst o.x o.b d hv (k H locs ls hP hS hl)
theorem g_ldc (o : OK X cc own sd nL R l) {index : Nat} {v : Int32} (hc : Cond.constant own index v ∈ wt) (d : decode cc pc = .ok (.ldc index, 2)) (hq : pc + 2 = q) (k : G X σ q lv (.int v :: rest)) : G X σ pc lv (rest) := fun H locs ls hP hS hl => by
  subst hq
  exact lv_ldc o.x o.b o.ow (o.ts _ hc) d (k H locs ls hP hS hl)
theorem g_ldcw (o : OK X cc own sd nL R l) {index : Nat} {v : Int32} (hc : Cond.constant own index v ∈ wt) (d : decode cc pc = .ok (.ldc_w index, 3)) (hq : pc + 3 = q) (k : G X σ q lv (.int v :: rest)) : G X σ pc lv (rest) := fun H locs ls hP hS hl => by
  subst hq
  exact lv_ldcw o.x o.b o.ow (o.ts _ hc) d (k H locs ls hP hS hl)
theorem g_iload_n (o : OK X cc own sd nL R l) {f : Fin 4} {i : Nat} {x : Int32} (j : Nat) (hj : lv[j]? = some (i, .int x)) (hi : (f : Nat) = i) (d : decode cc pc = .ok (.iload_n f, 1)) (hq : pc + 1 = q) (k : G X σ q lv (.int x :: rest)) : G X σ pc lv (rest) := fun H locs ls hP hS hl => by
  subst hq
  exact lv_iload_n o.x o.b d hi (lv_at hl j hj) (k H locs ls hP hS hl)
theorem g_iload (o : OK X cc own sd nL R l) {i : Nat} {x : Int32} (j : Nat) (hj : lv[j]? = some (i, .int x)) (d : decode cc pc = .ok (.iload i, 2)) (hq : pc + 2 = q) (k : G X σ q lv (.int x :: rest)) : G X σ pc lv (rest) := fun H locs ls hP hS hl => by
  subst hq
  exact lv_iload o.x o.b d (lv_at hl j hj) (k H locs ls hP hS hl)
theorem g_aload_n (o : OK X cc own sd nL R l) {f : Fin 4} {i : Nat} {x : Nat} (j : Nat) (hj : lv[j]? = some (i, .ref x)) (hi : (f : Nat) = i) (d : decode cc pc = .ok (.aload_n f, 1)) (hq : pc + 1 = q) (k : G X σ q lv (.ref x :: rest)) : G X σ pc lv (rest) := fun H locs ls hP hS hl => by
  subst hq
  exact lv_aload_n o.x o.b d hi (lv_at hl j hj) (k H locs ls hP hS hl)
theorem g_aload (o : OK X cc own sd nL R l) {i : Nat} {x : Nat} (j : Nat) (hj : lv[j]? = some (i, .ref x)) (d : decode cc pc = .ok (.aload i, 2)) (hq : pc + 2 = q) (k : G X σ q lv (.ref x :: rest)) : G X σ pc lv (rest) := fun H locs ls hP hS hl => by
  subst hq
  exact lv_aload o.x o.b d (lv_at hl j hj) (k H locs ls hP hS hl)
theorem g_lload_n (o : OK X cc own sd nL R l) {f : Fin 4} {i : Nat} {x : Int64} (j : Nat) (hj : lv[j]? = some (i, .long x)) (hi : (f : Nat) = i) (d : decode cc pc = .ok (.lload_n f, 1)) (hq : pc + 1 = q) (k : G X σ q lv (.long x :: rest)) : G X σ pc lv (rest) := fun H locs ls hP hS hl => by
  subst hq
  exact lv_lload_n o.x o.b d hi (lv_at hl j hj) (k H locs ls hP hS hl)
theorem g_lload (o : OK X cc own sd nL R l) {i : Nat} {x : Int64} (j : Nat) (hj : lv[j]? = some (i, .long x)) (d : decode cc pc = .ok (.lload i, 2)) (hq : pc + 2 = q) (k : G X σ q lv (.long x :: rest)) : G X σ pc lv (rest) := fun H locs ls hP hS hl => by
  subst hq
  exact lv_lload o.x o.b d (lv_at hl j hj) (k H locs ls hP hS hl)
theorem g_iadd (o : OK X cc own sd nL R l) {x y : Int32} (d : decode cc pc = .ok (.iadd, 1)) (hq : pc + 1 = q) (k : G X σ q lv (.int (x + y) :: rest)) : G X σ pc lv (.int y :: .int x :: rest) := fun H locs ls hP hS hl => by
  subst hq
  exact lv_iadd o.x o.b d (k H locs ls hP hS hl)
theorem g_isub (o : OK X cc own sd nL R l) {x y : Int32} (d : decode cc pc = .ok (.isub, 1)) (hq : pc + 1 = q) (k : G X σ q lv (.int (x - y) :: rest)) : G X σ pc lv (.int y :: .int x :: rest) := fun H locs ls hP hS hl => by
  subst hq
  exact lv_isub o.x o.b d (k H locs ls hP hS hl)
theorem g_imul (o : OK X cc own sd nL R l) {x y : Int32} (d : decode cc pc = .ok (.imul, 1)) (hq : pc + 1 = q) (k : G X σ q lv (.int (x * y) :: rest)) : G X σ pc lv (.int y :: .int x :: rest) := fun H locs ls hP hS hl => by
  subst hq
  exact lv_imul o.x o.b d (k H locs ls hP hS hl)
theorem g_iand (o : OK X cc own sd nL R l) {x y : Int32} (d : decode cc pc = .ok (.iand, 1)) (hq : pc + 1 = q) (k : G X σ q lv (.int (x &&& y) :: rest)) : G X σ pc lv (.int y :: .int x :: rest) := fun H locs ls hP hS hl => by
  subst hq
  exact lv_iand o.x o.b d (k H locs ls hP hS hl)
theorem g_ior (o : OK X cc own sd nL R l) {x y : Int32} (d : decode cc pc = .ok (.ior, 1)) (hq : pc + 1 = q) (k : G X σ q lv (.int (x ||| y) :: rest)) : G X σ pc lv (.int y :: .int x :: rest) := fun H locs ls hP hS hl => by
  subst hq
  exact lv_ior o.x o.b d (k H locs ls hP hS hl)
theorem g_ixor (o : OK X cc own sd nL R l) {x y : Int32} (d : decode cc pc = .ok (.ixor, 1)) (hq : pc + 1 = q) (k : G X σ q lv (.int (x ^^^ y) :: rest)) : G X σ pc lv (.int y :: .int x :: rest) := fun H locs ls hP hS hl => by
  subst hq
  exact lv_ixor o.x o.b d (k H locs ls hP hS hl)
theorem g_ishl (o : OK X cc own sd nL R l) {x y : Int32} (d : decode cc pc = .ok (.ishl, 1)) (hq : pc + 1 = q) (k : G X σ q lv (.int (x <<< (y &&& 31)) :: rest)) : G X σ pc lv (.int y :: .int x :: rest) := fun H locs ls hP hS hl => by
  subst hq
  exact lv_ishl o.x o.b d (k H locs ls hP hS hl)
theorem g_ishr (o : OK X cc own sd nL R l) {x y : Int32} (d : decode cc pc = .ok (.ishr, 1)) (hq : pc + 1 = q) (k : G X σ q lv (.int (x >>> (y &&& 31)) :: rest)) : G X σ pc lv (.int y :: .int x :: rest) := fun H locs ls hP hS hl => by
  subst hq
  exact lv_ishr o.x o.b d (k H locs ls hP hS hl)
theorem g_iushr (o : OK X cc own sd nL R l) {x y : Int32} (d : decode cc pc = .ok (.iushr, 1)) (hq : pc + 1 = q) (k : G X σ q lv (.int (x.toUInt32 >>> (y.toUInt32 &&& Int32.toUInt32 31)).toInt32 :: rest)) : G X σ pc lv (.int y :: .int x :: rest) := fun H locs ls hP hS hl => by
  subst hq
  exact lv_iushr o.x o.b d rfl (k H locs ls hP hS hl)
theorem g_idiv (o : OK X cc own sd nL R l) {x y : Int32} (hn : ¬ y = 0) (d : decode cc pc = .ok (.idiv, 1)) (hq : pc + 1 = q) (k : G X σ q lv (.int (x / y) :: rest)) : G X σ pc lv (.int y :: .int x :: rest) := fun H locs ls hP hS hl => by
  subst hq
  exact lv_idiv o.x o.b d hn (k H locs ls hP hS hl)
theorem g_irem (o : OK X cc own sd nL R l) {x y : Int32} (hn : ¬ y = 0) (d : decode cc pc = .ok (.irem, 1)) (hq : pc + 1 = q) (k : G X σ q lv (.int (x - x / y * y) :: rest)) : G X σ pc lv (.int y :: .int x :: rest) := fun H locs ls hP hS hl => by
  subst hq
  exact lv_irem o.x o.b d hn (k H locs ls hP hS hl)
theorem g_ladd (o : OK X cc own sd nL R l) {x y : Int64} (d : decode cc pc = .ok (.ladd, 1)) (hq : pc + 1 = q) (k : G X σ q lv (.long (x + y) :: rest)) : G X σ pc lv (.long y :: .long x :: rest) := fun H locs ls hP hS hl => by
  subst hq
  exact lv_ladd o.x o.b d (k H locs ls hP hS hl)
theorem g_lmul (o : OK X cc own sd nL R l) {x y : Int64} (d : decode cc pc = .ok (.lmul, 1)) (hq : pc + 1 = q) (k : G X σ q lv (.long (x * y) :: rest)) : G X σ pc lv (.long y :: .long x :: rest) := fun H locs ls hP hS hl => by
  subst hq
  exact lv_lmul o.x o.b d (k H locs ls hP hS hl)
theorem g_lcmp (o : OK X cc own sd nL R l) {x y : Int64} (d : decode cc pc = .ok (.lcmp, 1)) (hq : pc + 1 = q) (k : G X σ q lv (.int (lg_cmp x y) :: rest)) : G X σ pc lv (.long y :: .long x :: rest) := fun H locs ls hP hS hl => by
  subst hq
  exact W.lcmp o.x o.b d (k H locs ls hP hS hl)
theorem g_i2l (o : OK X cc own sd nL R l) {x : Int32} (d : decode cc pc = .ok (.i2l, 1)) (hq : pc + 1 = q) (k : G X σ q lv (.long x.toInt64 :: rest)) : G X σ pc lv (.int x :: rest) := fun H locs ls hP hS hl => by
  subst hq
  exact lv_i2l o.x o.b d rfl (k H locs ls hP hS hl)
theorem g_i2b (o : OK X cc own sd nL R l) {x : Int32} (d : decode cc pc = .ok (.i2b, 1)) (hq : pc + 1 = q) (k : G X σ q lv (.int x.toInt8.toInt32 :: rest)) : G X σ pc lv (.int x :: rest) := fun H locs ls hP hS hl => by
  subst hq
  exact lv_i2b o.x o.b d rfl (k H locs ls hP hS hl)
theorem g_i2s (o : OK X cc own sd nL R l) {x : Int32} (d : decode cc pc = .ok (.i2s, 1)) (hq : pc + 1 = q) (k : G X σ q lv (.int x.toInt16.toInt32 :: rest)) : G X σ pc lv (.int x :: rest) := fun H locs ls hP hS hl => by
  subst hq
  exact lv_i2s o.x o.b d rfl (k H locs ls hP hS hl)
theorem g_i2c (o : OK X cc own sd nL R l) {x : Int32} (d : decode cc pc = .ok (.i2c, 1)) (hq : pc + 1 = q) (k : G X σ q lv (.int (x.toUInt32 % 65536).toInt32 :: rest)) : G X σ pc lv (.int x :: rest) := fun H locs ls hP hS hl => by
  subst hq
  exact lv_i2c o.x o.b d rfl (k H locs ls hP hS hl)
theorem g_dup (o : OK X cc own sd nL R l) {a : Value} (ha : a.category = 1) (d : decode cc pc = .ok (.dup, 1)) (hq : pc + 1 = q) (k : G X σ q lv (a :: a :: rest)) : G X σ pc lv (a :: rest) := fun H locs ls hP hS hl => by
  subst hq
  exact lv_dup o.x o.b d ha (k H locs ls hP hS hl)
theorem g_dup2 (o : OK X cc own sd nL R l) {a b : Value} (ha : a.category = 1) (hb : b.category = 1) (d : decode cc pc = .ok (.dup2, 1)) (hq : pc + 1 = q) (k : G X σ q lv (a :: b :: a :: b :: rest)) : G X σ pc lv (a :: b :: rest) := fun H locs ls hP hS hl => by
  subst hq
  exact lv_dup2_11 o.x o.b d ha hb (k H locs ls hP hS hl)
theorem g_pop (o : OK X cc own sd nL R l) {a : Value} (ha : a.category = 1) (d : decode cc pc = .ok (.pop, 1)) (hq : pc + 1 = q) (k : G X σ q lv (rest)) : G X σ pc lv (a :: rest) := fun H locs ls hP hS hl => by
  subst hq
  exact lv_pop o.x o.b d ha (k H locs ls hP hS hl)
theorem g_goto (o : OK X cc own sd nL R l) {off : Int} {tgt : Nat} (d : decode cc pc = .ok (.goto off, 3)) (ht : (pc : Int) + off = (tgt : Int)) (k : G X σ tgt lv rest) : G X σ pc lv rest := fun H locs ls hP hS hl => lv_goto o.x o.b d ht (k H locs ls hP hS hl)
theorem g_istore_n (o : OK X cc own sd nL R l) {f : Fin 4} {i : Nat} {x : Int32} {K : Int32 → Option ρ} (d : decode cc pc = .ok (.istore_n f, 1)) (hq : pc + 1 = q) (hi : (f : Nat) = i) (hn : i < nL) (h : vL x K = some res) (lv' : Int32 → LV) (hl' : ∀ x, (i, Value.int x) :: lv.filter (fun q => !(q.1 == i) && !(q.1 + 1 == i && q.2.category == 2)) = lv' x) (k : ∀ x, K x = some res → G X σ q (lv' x) rest) : G X σ pc lv (.int x :: rest) := fun H locs ls hP hS hl => by
  subst hq
  exact lv_istore_n o.x o.b d hi hl (by rw [o.n]; exact hn) (hl' x) (fun ls' h' => k x h H locs ls' hP hS h')
theorem g_istore (o : OK X cc own sd nL R l) {i : Nat} {x : Int32} {K : Int32 → Option ρ} (d : decode cc pc = .ok (.istore i, 2)) (hq : pc + 2 = q) (hn : i < nL) (h : vL x K = some res) (lv' : Int32 → LV) (hl' : ∀ x, (i, Value.int x) :: lv.filter (fun q => !(q.1 == i) && !(q.1 + 1 == i && q.2.category == 2)) = lv' x) (k : ∀ x, K x = some res → G X σ q (lv' x) rest) : G X σ pc lv (.int x :: rest) := fun H locs ls hP hS hl => by
  subst hq
  exact lv_istore o.x o.b d hl (by rw [o.n]; exact hn) (hl' x) (fun ls' h' => k x h H locs ls' hP hS h')
theorem g_lstore (o : OK X cc own sd nL R l) {i : Nat} {x : Int64} {K : Int64 → Option ρ} (d : decode cc pc = .ok (.lstore i, 2)) (hq : pc + 2 = q) (hn : i + 1 < nL) (h : vL x K = some res) (lv' : Int64 → LV) (hl' : ∀ x, (i, Value.long x) :: lv.filter (fun q => !(q.1 == i) && (!(q.1 == i + 1) && !(q.1 + 1 == i && q.2.category == 2))) = lv' x) (k : ∀ x, K x = some res → G X σ q (lv' x) rest) : G X σ pc lv (.long x :: rest) := fun H locs ls hP hS hl => by
  subst hq
  exact lv_lstore o.x o.b d hl (by rw [o.n]; exact hn) (hl' x) (fun ls' h' => k x h H locs ls' hP hS h')
theorem g_astore_n (o : OK X cc own sd nL R l) {f : Fin 4} {i x : Nat} (d : decode cc pc = .ok (.astore_n f, 1)) (hq : pc + 1 = q) (hi : (f : Nat) = i) (hn : i < nL) (lv' : LV) (hl' : (i, Value.ref x) :: lv.filter (fun q => !(q.1 == i) && !(q.1 + 1 == i && q.2.category == 2)) = lv') (k : G X σ q lv' rest) : G X σ pc lv (.ref x :: rest) := fun H locs ls hP hS hl => by
  subst hq
  exact lv_astore_n o.x o.b d hi hl (by rw [o.n]; exact hn) hl' (fun ls' h' => k H locs ls' hP hS h')
theorem g_astore (o : OK X cc own sd nL R l) {i x : Nat} (d : decode cc pc = .ok (.astore i, 2)) (hq : pc + 2 = q) (hn : i < nL) (lv' : LV) (hl' : (i, Value.ref x) :: lv.filter (fun q => !(q.1 == i) && !(q.1 + 1 == i && q.2.category == 2)) = lv') (k : G X σ q lv' rest) : G X σ pc lv (.ref x :: rest) := fun H locs ls hP hS hl => by
  subst hq
  exact lv_astore o.x o.b d hl (by rw [o.n]; exact hn) hl' (fun ls' h' => k H locs ls' hP hS h')
theorem g_iinc (o : OK X cc own sd nL R l) {i : Nat} {n : Int} {x dn : Int32} {K : Int32 → Option ρ} (d : decode cc pc = .ok (.iinc i n, 3)) (hq : pc + 3 = q) (j : Nat) (hj : lv[j]? = some (i, .int x)) (hdn : Int32.ofInt n = dn) (hn : i < nL) (h : vL (x + dn) K = some res) (lv' : Int32 → LV) (hl' : ∀ x, (i, Value.int x) :: lv.filter (fun q => !(q.1 == i) && !(q.1 + 1 == i && q.2.category == 2)) = lv' x) (k : ∀ x, K x = some res → G X σ q (lv' x) rest) : G X σ pc lv rest := fun H locs ls hP hS hl => by
  subst hq
  exact lv_iinc o.x o.b d hl hj (by rw [hdn]) (by rw [o.n]; exact hn) (hl' (x + dn)) (fun ls' h' => k (x + dn) h H locs ls' hP hS h')
theorem g_icmp_eq (o : OK X cc own sd nL R l) {x y : Int32} {off : Int} {tgt : Nat} {A B : Option ρ} (d : decode cc pc = .ok (.if_icmp .eq off, 3)) (ht : (pc : Int) + off = (tgt : Int)) (hq : pc + 3 = q) (h : (if x = y then A else B) = some res) (kt : A = some res → G X σ tgt lv rest) (kf : B = some res → G X σ q lv rest) : G X σ pc lv (.int y :: .int x :: rest) := fun H locs ls hP hS hl => by
  subst hq
  exact lv_icmp_eq o.x o.b d ht (fun c => kt (by rw [if_pos c] at h; exact h) H locs ls hP hS hl) (fun c => kf (by rw [if_neg c] at h; exact h) H locs ls hP hS hl)
theorem g_if_eq (o : OK X cc own sd nL R l) {x : Int32} {off : Int} {tgt : Nat} {A B : Option ρ} (d : decode cc pc = .ok (.ifCond .eq off, 3)) (ht : (pc : Int) + off = (tgt : Int)) (hq : pc + 3 = q) (h : (if x = 0 then A else B) = some res) (kt : A = some res → G X σ tgt lv rest) (kf : B = some res → G X σ q lv rest) : G X σ pc lv (.int x :: rest) := fun H locs ls hP hS hl => by
  subst hq
  exact lv_if_eq o.x o.b d ht (fun c => kt (by rw [if_pos c] at h; exact h) H locs ls hP hS hl) (fun c => kf (by rw [if_neg c] at h; exact h) H locs ls hP hS hl)
theorem g_icmp_lt (o : OK X cc own sd nL R l) {x y : Int32} {off : Int} {tgt : Nat} {A B : Option ρ} (d : decode cc pc = .ok (.if_icmp .lt off, 3)) (ht : (pc : Int) + off = (tgt : Int)) (hq : pc + 3 = q) (h : (if x < y then A else B) = some res) (kt : A = some res → G X σ tgt lv rest) (kf : B = some res → G X σ q lv rest) : G X σ pc lv (.int y :: .int x :: rest) := fun H locs ls hP hS hl => by
  subst hq
  exact lv_icmp_lt o.x o.b d ht (fun c => kt (by rw [if_pos c] at h; exact h) H locs ls hP hS hl) (fun c => kf (by rw [if_neg c] at h; exact h) H locs ls hP hS hl)
theorem g_if_lt (o : OK X cc own sd nL R l) {x : Int32} {off : Int} {tgt : Nat} {A B : Option ρ} (d : decode cc pc = .ok (.ifCond .lt off, 3)) (ht : (pc : Int) + off = (tgt : Int)) (hq : pc + 3 = q) (h : (if x < 0 then A else B) = some res) (kt : A = some res → G X σ tgt lv rest) (kf : B = some res → G X σ q lv rest) : G X σ pc lv (.int x :: rest) := fun H locs ls hP hS hl => by
  subst hq
  exact lv_if_lt o.x o.b d ht (fun c => kt (by rw [if_pos c] at h; exact h) H locs ls hP hS hl) (fun c => kf (by rw [if_neg c] at h; exact h) H locs ls hP hS hl)
theorem g_icmp_ge (o : OK X cc own sd nL R l) {x y : Int32} {off : Int} {tgt : Nat} {A B : Option ρ} (d : decode cc pc = .ok (.if_icmp .ge off, 3)) (ht : (pc : Int) + off = (tgt : Int)) (hq : pc + 3 = q) (h : (if y ≤ x then A else B) = some res) (kt : A = some res → G X σ tgt lv rest) (kf : B = some res → G X σ q lv rest) : G X σ pc lv (.int y :: .int x :: rest) := fun H locs ls hP hS hl => by
  subst hq
  exact lv_icmp_ge o.x o.b d ht (fun c => kt (by rw [if_pos c] at h; exact h) H locs ls hP hS hl) (fun c => kf (by rw [if_neg c] at h; exact h) H locs ls hP hS hl)
theorem g_if_ge (o : OK X cc own sd nL R l) {x : Int32} {off : Int} {tgt : Nat} {A B : Option ρ} (d : decode cc pc = .ok (.ifCond .ge off, 3)) (ht : (pc : Int) + off = (tgt : Int)) (hq : pc + 3 = q) (h : (if 0 ≤ x then A else B) = some res) (kt : A = some res → G X σ tgt lv rest) (kf : B = some res → G X σ q lv rest) : G X σ pc lv (.int x :: rest) := fun H locs ls hP hS hl => by
  subst hq
  exact lv_if_ge o.x o.b d ht (fun c => kt (by rw [if_pos c] at h; exact h) H locs ls hP hS hl) (fun c => kf (by rw [if_neg c] at h; exact h) H locs ls hP hS hl)
theorem g_icmp_gt (o : OK X cc own sd nL R l) {x y : Int32} {off : Int} {tgt : Nat} {A B : Option ρ} (d : decode cc pc = .ok (.if_icmp .gt off, 3)) (ht : (pc : Int) + off = (tgt : Int)) (hq : pc + 3 = q) (h : (if y < x then A else B) = some res) (kt : A = some res → G X σ tgt lv rest) (kf : B = some res → G X σ q lv rest) : G X σ pc lv (.int y :: .int x :: rest) := fun H locs ls hP hS hl => by
  subst hq
  exact lv_icmp_gt o.x o.b d ht (fun c => kt (by rw [if_pos c] at h; exact h) H locs ls hP hS hl) (fun c => kf (by rw [if_neg c] at h; exact h) H locs ls hP hS hl)
theorem g_if_gt (o : OK X cc own sd nL R l) {x : Int32} {off : Int} {tgt : Nat} {A B : Option ρ} (d : decode cc pc = .ok (.ifCond .gt off, 3)) (ht : (pc : Int) + off = (tgt : Int)) (hq : pc + 3 = q) (h : (if 0 < x then A else B) = some res) (kt : A = some res → G X σ tgt lv rest) (kf : B = some res → G X σ q lv rest) : G X σ pc lv (.int x :: rest) := fun H locs ls hP hS hl => by
  subst hq
  exact lv_if_gt o.x o.b d ht (fun c => kt (by rw [if_pos c] at h; exact h) H locs ls hP hS hl) (fun c => kf (by rw [if_neg c] at h; exact h) H locs ls hP hS hl)
theorem g_icmp_le (o : OK X cc own sd nL R l) {x y : Int32} {off : Int} {tgt : Nat} {A B : Option ρ} (d : decode cc pc = .ok (.if_icmp .le off, 3)) (ht : (pc : Int) + off = (tgt : Int)) (hq : pc + 3 = q) (h : (if x ≤ y then A else B) = some res) (kt : A = some res → G X σ tgt lv rest) (kf : B = some res → G X σ q lv rest) : G X σ pc lv (.int y :: .int x :: rest) := fun H locs ls hP hS hl => by
  subst hq
  exact lv_icmp_le o.x o.b d ht (fun c => kt (by rw [if_pos c] at h; exact h) H locs ls hP hS hl) (fun c => kf (by rw [if_neg c] at h; exact h) H locs ls hP hS hl)
theorem g_if_le (o : OK X cc own sd nL R l) {x : Int32} {off : Int} {tgt : Nat} {A B : Option ρ} (d : decode cc pc = .ok (.ifCond .le off, 3)) (ht : (pc : Int) + off = (tgt : Int)) (hq : pc + 3 = q) (h : (if x ≤ 0 then A else B) = some res) (kt : A = some res → G X σ tgt lv rest) (kf : B = some res → G X σ q lv rest) : G X σ pc lv (.int x :: rest) := fun H locs ls hP hS hl => by
  subst hq
  exact lv_if_le o.x o.b d ht (fun c => kt (by rw [if_pos c] at h; exact h) H locs ls hP hS hl) (fun c => kf (by rw [if_neg c] at h; exact h) H locs ls hP hS hl)
theorem g_icmp_ne (o : OK X cc own sd nL R l) {x y : Int32} {off : Int} {tgt : Nat} {A B : Option ρ} (d : decode cc pc = .ok (.if_icmp .ne off, 3)) (ht : (pc : Int) + off = (tgt : Int)) (hq : pc + 3 = q) (h : (if x = y then B else A) = some res) (kt : A = some res → G X σ tgt lv rest) (kf : B = some res → G X σ q lv rest) : G X σ pc lv (.int y :: .int x :: rest) := fun H locs ls hP hS hl => by
  subst hq
  exact lv_icmp_ne o.x o.b d ht (fun c => kt (by rw [if_neg c] at h; exact h) H locs ls hP hS hl) (fun c => kf (by rw [if_pos c] at h; exact h) H locs ls hP hS hl)
theorem g_if_ne (o : OK X cc own sd nL R l) {x : Int32} {off : Int} {tgt : Nat} {A B : Option ρ} (d : decode cc pc = .ok (.ifCond .ne off, 3)) (ht : (pc : Int) + off = (tgt : Int)) (hq : pc + 3 = q) (h : (if x = 0 then B else A) = some res) (kt : A = some res → G X σ tgt lv rest) (kf : B = some res → G X σ q lv rest) : G X σ pc lv (.int x :: rest) := fun H locs ls hP hS hl => by
  subst hq
  exact lv_if_ne o.x o.b d ht (fun c => kt (by rw [if_neg c] at h; exact h) H locs ls hP hS hl) (fun c => kf (by rw [if_pos c] at h; exact h) H locs ls hP hS hl)
theorem g_swIn (o : OK X cc own sd nL R l) {dflt lo hi : Int} {offs : Array Int} {len tgt : Nat} {off : Int} {x : Int32} (v : Int32) {A B : Option ρ} (d : decode cc pc = .ok (.tableswitch dflt lo hi offs, len)) (h1 : ¬ v.toInt < lo) (h2 : ¬ hi < v.toInt) (ho : offs[(v.toInt - lo).toNat]? = some off) (ht : (pc : Int) + off = (tgt : Int)) (h : (if x = v then A else B) = some res) (kt : A = some res → G X σ tgt lv rest) (kf : ¬ x = v → B = some res → G X σ pc lv (.int x :: rest)) : G X σ pc lv (.int x :: rest) := by
  by_cases c : x = v
  · rw [if_pos c] at h
    subst c
    exact fun H locs ls hP hS hl => lv_tableIn o.x o.b d h1 h2 ho ht (kt h H locs ls hP hS hl)
  · rw [if_neg c] at h
    exact kf c h
theorem g_swOut (o : OK X cc own sd nL R l) {dflt lo hi : Int} {offs : Array Int} {len tgt : Nat} {x : Int32} (d : decode cc pc = .ok (.tableswitch dflt lo hi offs, len)) (h1 : x.toInt < lo ∨ hi < x.toInt) (ht : (pc : Int) + dflt = (tgt : Int)) (k : G X σ tgt lv rest) : G X σ pc lv (.int x :: rest) := fun H locs ls hP hS hl => lv_tableOut o.x o.b d h1 ht (k H locs ls hP hS hl)
theorem sw_out {x : Int32} {lo hi : Int} (hlo : -2147483648 ≤ lo) (hhi : hi ≤ 2147483647) (h : ∀ k : Int, lo ≤ k → k ≤ hi → ¬ x = Int32.ofInt k) : x.toInt < lo ∨ hi < x.toInt := by
  by_cases c : x.toInt < lo ∨ hi < x.toInt
  · exact c
  · refine absurd ?_ (h x.toInt (by omega) (by omega))
    simp
theorem g_looksw (o : OK X cc own sd nL R l) {dflt : Int} {ps : Array (Int × Int)} {len : Nat} {off : Int} {tgt : Nat} {x : Int32} (d : decode cc pc = .ok (.lookupswitch dflt ps, len)) (hp : (ps.toList.zip (ps.toList.drop 1)).all (fun (a, next) => a.1 < next.1) = true) (ho : Op.lookupswitch.offset ps.toList dflt x.toInt = off) (ht : (pc : Int) + off = (tgt : Int)) (k : G X σ tgt lv rest) : G X σ pc lv (.int x :: rest) := fun H locs ls hP hS hl => lv_lookup o.x o.b d hp ho ht (k H locs ls hP hS hl)

end ROWS
