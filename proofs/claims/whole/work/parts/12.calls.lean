/-! calls and ends -/
theorem gin_v {own : String} {index : Nat} {y : MethodName} {b : ByteArray} {maxL n : Nat} {ret : Option FieldType} (hm : Cond.methodLink own index y ∈ wt) (hc : Cvi y b maxL ret n) : GoodIn wt (wsV own index y.cls y (Cond.code y b maxL ret :: wt)) := by
  have g : ∀ w, w ∈ wt → w ∈ wt ∧ ((w.onTables && w.keeps) = true ∨ ∃ ty, w = .arrayClass ty) := fun w h => ⟨h, good_of_word (wt_good w h)⟩
  intro w hw
  rcases List.mem_append.mp hw with h | h
  · simp only [List.mem_cons, List.not_mem_nil, or_false] at h
    rcases h with rfl | rfl | rfl | rfl
    · exact g _ hm
    · exact g _ hc.1
    · exact g _ hc.2.1
    · exact g _ hc.2.2.1
  · rcases List.mem_cons.mp h with rfl | h
    · exact g _ hc.2.2.2.1
    · exact g _ h
theorem gin_c {y : MethodName} {b : ByteArray} {maxL : Nat} {ret : Option FieldType} (hc : Cond.code y b maxL ret ∈ wt) : GoodIn wt (Cond.code y b maxL ret :: wt) := by
  intro w hw
  rcases List.mem_cons.mp hw with rfl | h
  · exact ⟨hc, good_of_word (wt_good _ hc)⟩
  · exact ⟨h, good_of_word (wt_good _ h)⟩
theorem WD.blind {E : En} {ρ : Mem} {av : List Value} : FrameBlind (va_Pc av (fun U => WD E ρ U)) := by
  intro a U g mk h
  exact ⟨h.1, h.2.1, CK.same (u := U) rfl h.2.2⟩
theorem cel_obj {E : En} {i k : Nat} {r : Nat → Int32} (hk : ck i = k) (h : k < 6) : ∃ fs, cel E i r = .inr (k, fs) := by
  match k, h with
  | 0, _ => exact ⟨_, cel_X0 hk⟩
  | 1, _ => exact ⟨_, cel_X1 hk⟩
  | 2, _ => exact ⟨_, cel_X2 hk⟩
  | 3, _ => exact ⟨_, cel_X3 hk⟩
  | 4, _ => exact ⟨_, cel_X4 hk⟩
  | 5, _ => exact ⟨_, cel_X5 hk⟩
theorem ws_recv {E : En} {s : State} {ρ : Mem} {H : Heap} {i k : Nat} {C : vw_C} {sd : Nat → Prop} (hK : va_K (eD E) vwCl (eT E) s) (hP : va_P (eD E) vwCl (wsW E ρ) H) (hk : kd sd i k) (h6 : k < 6) (hC : vwCl[k]? = some C) : ∃ cell : Cell, H[eA E i]? = some cell ∧ cell.vm.isStatics = false ∧ s.vm.findClass C.1 = some cell.cls := by
  obtain ⟨fs, hf⟩ := cel_obj (E := E) (r := ρ i) hk.2.2 h6
  exact va_recv hK hP hC (by rw [ws_get hk.2.1, hf])
/-- the ends that a contract tells -/
abbrev QI (E : En) (mk : Mem → Mem) (r : Int32) (σ : Mem) : Array Value → State → Outcome → State → Prop := va_Qi (fun (r' : Int32) (_ : Unit) => r' = r) (fun _ t => WD E (mk σ) t) (WA E)
abbrev QL (E : En) (mk : Mem → Mem) (r : Int64) (σ : Mem) : Array Value → State → Outcome → State → Prop := va_Ql (fun (r' : Int64) (_ : Unit) => r' = r) (fun _ t => WD E (mk σ) t) (WA E)
abbrev QV (E : En) (mk : Mem → Mem) (σ : Mem) : Array Value → State → Outcome → State → Prop := va_Qv (fun (_ : Unit) => True) (fun _ t => WD E (mk σ) t) (WA E)
abbrev QR (E : En) (mk : Mem → Mem) (r : Nat) (σ : Mem) : Array Value → State → Outcome → State → Prop := va_Qr (fun (_ : Unit) => True) (fun _ a t => a = eA E r ∧ WD E (mk σ) t) (WA E)
abbrev PW (E : En) (mk : Mem → Mem) (av : List Value) (σ : Mem) : Array Value → State → Prop := va_Pc av (fun U => WD E (mk σ) U)
def RI (X : Cx) (ty : FieldType) (r : Int32) (σ : Mem) : Prop := (xM X).sig.returnType = some ty ∧ xQ X = MQ (xb X) (QI (xE X) (xk X) r σ) (xa X) (xs X) (xC X) (xS X) (WA (xE X))
def RJ (X : Cx) (r : Int64) (σ : Mem) : Prop := (xM X).sig.returnType = some .long ∧ xQ X = MQ (xb X) (QL (xE X) (xk X) r σ) (xa X) (xs X) (xC X) (xS X) (WA (xE X))
def RV (X : Cx) (σ : Mem) : Prop := (xM X).sig.returnType = none ∧ xQ X = MQ (xb X) (QV (xE X) (xk X) σ) (xa X) (xs X) (xC X) (xS X) (WA (xE X))
def RR (X : Cx) (r : Nat) (σ : Mem) : Prop := (∃ C, (xM X).sig.returnType = some (.object C)) ∧ xQ X = MQ (xb X) (QR (xE X) (xk X) r σ) (xa X) (xs X) (xC X) (xS X) (WA (xE X))
section CROWS
variable {X : Cx} {cc : ByteArray} {own : String} {sd : Nat → Prop} {nL : Nat} {R : Room} {l : Launch} {σ : Mem} {pc q i : Nat} {lv : LV} {rest : List Value} {ρ : Type} {res : ρ}
theorem g_iret (o : OK X cc own sd nL R l) {ty : FieldType} {r v : Int32} {σ' : Mem} (hr : RI X ty r σ') (h : some (v, σ) = some (r, σ')) (hn : narrow ty (.int v) = .int v) (d : decode cc pc = .ok (.ireturn, 1)) : G X σ pc lv [.int v] := fun H locs ls hP hS hl => by
  have e1 : v = r := congrArg (fun z => z.1) (Option.some.inj h)
  have e2 : σ = σ' := congrArg (fun z => z.2) (Option.some.inj h)
  subst e1
  subst e2
  rw [hr.2]
  exact W.zret (Qc := QI (xE X) (xk X) v σ) o.x o.b hr.1 hn (fun t ht hW => ⟨⟨v, (), rfl, rfl, by rw [ht]; exact hP, by rw [ht]; exact o.ck.move hW hS⟩, hS.F ht⟩) hS.2.2 d o.lo
theorem g_lret (o : OK X cc own sd nL R l) {r v : Int64} {σ' : Mem} (hr : RJ X r σ') (h : some (v, σ) = some (r, σ')) (d : decode cc pc = .ok (.lreturn, 1)) : G X σ pc lv [.long v] := fun H locs ls hP hS hl => by
  have e1 : v = r := congrArg (fun z => z.1) (Option.some.inj h)
  have e2 : σ = σ' := congrArg (fun z => z.2) (Option.some.inj h)
  subst e1
  subst e2
  rw [hr.2]
  exact W.lret (Qc := QL (xE X) (xk X) v σ) o.x o.b hr.1 (fun t ht hW => ⟨⟨v, (), rfl, rfl, by rw [ht]; exact hP, by rw [ht]; exact o.ck.move hW hS⟩, hS.F ht⟩) hS.2.2 d o.lo
theorem g_vret (o : OK X cc own sd nL R l) {u : Unit} {σ' : Mem} (hr : RV X σ') (h : some ((), σ) = some (u, σ')) (d : decode cc pc = .ok (.return_, 1)) : G X σ pc lv [] := fun H locs ls hP hS hl => by
  have e2 : σ = σ' := congrArg (fun z => z.2) (Option.some.inj h)
  subst e2
  rw [hr.2]
  exact W.vret (Qc := QV (xE X) (xk X) σ) o.x o.b hr.1 (fun t ht hW => ⟨⟨(), rfl, trivial, by rw [ht]; exact hP, by rw [ht]; exact o.ck.move hW hS⟩, hS.F ht⟩) hS.2.2 d o.lo
theorem g_aret (o : OK X cc own sd nL R l) {r v : Nat} {σ' : Mem} (hr : RR X r σ') (h : some (v, σ) = some (r, σ')) (d : decode cc pc = .ok (.areturn, 1)) : G X σ pc lv [.ref (eA (xE X) v)] := fun H locs ls hP hS hl => by
  have e1 : v = r := congrArg (fun z => z.1) (Option.some.inj h)
  have e2 : σ = σ' := congrArg (fun z => z.2) (Option.some.inj h)
  subst e1
  subst e2
  obtain ⟨⟨C, hC⟩, hQ⟩ := hr
  rw [hQ]
  exact W.aret (Qc := QR (xE X) (xk X) v σ) o.x o.b hC (Or.inl ⟨_, rfl⟩) (Or.inr ⟨_, rfl⟩) (fun t ht hW => ⟨⟨(), _, rfl, trivial, rfl, by rw [ht]; exact hP, by rw [ht]; exact o.ck.move hW hS⟩, hS.F ht⟩) hS.2.2 d o.lo
theorem g_cvi (o : OK X cc own sd nL R l) {y : MethodName} {b : ByteArray} {maxL n index : Nat} {ty : FieldType} {rm : Room} {As : List Value} {kk : Nat} {Cw : vw_C} (hc : Cvi y b maxL (some ty) n) (hm : Cond.methodLink own index y ∈ wt) (hk : kd sd i kk) (h6 : kk < 6) (hC : vwCl[kk]? = some Cw) (hcl : Cw.1 = y.cls) (hn : As.length = n) {f : Option (Int32 × Mem)} {K : Int32 → Mem → Option ρ} (hM : ∀ (r : Int32) (τ : Mem), f = some (r, τ) → Met (xl X) y (Cond.code y b maxL (some ty) :: wt) rm (PW (xE X) (xk X) (.ref (eA (xE X) i) :: As) σ) (QI (xE X) (xk X) r τ) 0 0 (WA (xE X))) (d : decode cc pc = .ok (.invokevirtual index, 3)) (hq : pc + 3 = q) (hR : rm.cells = 0 ∧ rm.slots = 0 ∧ rm.frames + 1 ≤ R.frames ∧ 8 + (maxL + 11) + rm.locals ≤ R.locals) (hw : (rest.map fun v => v.category).sum ≤ 8) {st : List Value} (hst : st = As.reverse ++ .ref (eA (xE X) i) :: rest) (h : vC f K = some res) (k : ∀ r τ, K r τ = some res → G X τ q lv (.int r :: rest)) : G X σ pc lv st := fun H locs ls hP hS hl => by
  subst hq
  subst hst
  obtain ⟨r, τ, h1, h2⟩ := vC_some h
  have hM := hM r τ h1
  have cw : CallW (xR X) (xs X) (xa X) own y.cls index y b maxL (some ty) (Cond.code y b maxL (some ty) :: wt) rm 0 0 n := cwV n o.ts (gin_v hm hc) rfl hR.1 hR.2.1 ⟨rfl, hc.2.2.2.2⟩ (by rw [o.r]; exact hR.2.2)
  have hp : PreV (xs X) H y.cls (eA (xE X) i) (PW (xE X) (xk X) (.ref (eA (xE X) i) :: As) σ) As := ⟨WD.blind, by rw [← hcl]; exact ws_recv o.ck.1 hP hk h6 hC, fun U hU hW => ⟨rfl, by rw [hU]; exact hP, by rw [hU]; exact o.ck.move hW hS⟩⟩
  refine va_calli (va_runV (As := As) (rest := rest) ⟨o.x, o.b, o.ml, o.ow, o.ts⟩ hM cw hp rfl hn (by rw [← o.n]; exact hl.1) rfl (lv_room hw) d ⟨by rw [o.r]; exact o.hc, by rw [o.r]; exact o.hs⟩) hS (fun _ _ h => h) (fun _ h => h) ?_
  intro r' u t H1 locs1 ht hvm hw1 hB hz hk1 hS1
  subst hw1
  exact k r' τ h2 H1 locs1 ls (by rw [← ht]; exact hB.1) hS1 hl
theorem g_cvv (o : OK X cc own sd nL R l) {y : MethodName} {b : ByteArray} {maxL n index : Nat} {rm : Room} {As : List Value} {kk : Nat} {Cw : vw_C} (hc : Cvi y b maxL none n) (hm : Cond.methodLink own index y ∈ wt) (hk : kd sd i kk) (h6 : kk < 6) (hC : vwCl[kk]? = some Cw) (hcl : Cw.1 = y.cls) (hn : As.length = n) {f : Option (Unit × Mem)} {K : Unit → Mem → Option ρ} (hM : ∀ (r : Unit) (τ : Mem), f = some (r, τ) → Met (xl X) y (Cond.code y b maxL none :: wt) rm (PW (xE X) (xk X) (.ref (eA (xE X) i) :: As) σ) (QV (xE X) (xk X) τ) 0 0 (WA (xE X))) (d : decode cc pc = .ok (.invokevirtual index, 3)) (hq : pc + 3 = q) (hR : rm.cells = 0 ∧ rm.slots = 0 ∧ rm.frames + 1 ≤ R.frames ∧ 8 + (maxL + 11) + rm.locals ≤ R.locals) (hw : (rest.map fun v => v.category).sum ≤ 8) {st : List Value} (hst : st = As.reverse ++ .ref (eA (xE X) i) :: rest) (h : vC f K = some res) (k : ∀ r τ, K r τ = some res → G X τ q lv (rest)) : G X σ pc lv st := fun H locs ls hP hS hl => by
  subst hq
  subst hst
  obtain ⟨r, τ, h1, h2⟩ := vC_some h
  have hM := hM r τ h1
  have cw : CallW (xR X) (xs X) (xa X) own y.cls index y b maxL none (Cond.code y b maxL none :: wt) rm 0 0 n := cwV n o.ts (gin_v hm hc) rfl hR.1 hR.2.1 ⟨rfl, hc.2.2.2.2⟩ (by rw [o.r]; exact hR.2.2)
  have hp : PreV (xs X) H y.cls (eA (xE X) i) (PW (xE X) (xk X) (.ref (eA (xE X) i) :: As) σ) As := ⟨WD.blind, by rw [← hcl]; exact ws_recv o.ck.1 hP hk h6 hC, fun U hU hW => ⟨rfl, by rw [hU]; exact hP, by rw [hU]; exact o.ck.move hW hS⟩⟩
  refine va_callv (va_runV (As := As) (rest := rest) ⟨o.x, o.b, o.ml, o.ow, o.ts⟩ hM cw hp rfl hn (by rw [← o.n]; exact hl.1) rfl (lv_room hw) d ⟨by rw [o.r]; exact o.hc, by rw [o.r]; exact o.hs⟩) hS (fun _ _ h => h) (fun _ h => h) ?_
  intro u t H1 locs1 ht hvm hw1 hB hz hk1 hS1
  exact k r τ h2 H1 locs1 ls (by rw [← ht]; exact hB.1) hS1 hl
theorem g_cvr (o : OK X cc own sd nL R l) {y : MethodName} {b : ByteArray} {maxL n index : Nat} {ty : FieldType} {rm : Room} {As : List Value} {kk : Nat} {Cw : vw_C} (hc : Cvi y b maxL (some ty) n) (hm : Cond.methodLink own index y ∈ wt) (hk : kd sd i kk) (h6 : kk < 6) (hC : vwCl[kk]? = some Cw) (hcl : Cw.1 = y.cls) (hn : As.length = n) {f : Option (Nat × Mem)} {K : Nat → Mem → Option ρ} (hM : ∀ (r : Nat) (τ : Mem), f = some (r, τ) → Met (xl X) y (Cond.code y b maxL (some ty) :: wt) rm (PW (xE X) (xk X) (.ref (eA (xE X) i) :: As) σ) (QR (xE X) (xk X) r τ) 0 0 (WA (xE X))) (d : decode cc pc = .ok (.invokevirtual index, 3)) (hq : pc + 3 = q) (hR : rm.cells = 0 ∧ rm.slots = 0 ∧ rm.frames + 1 ≤ R.frames ∧ 8 + (maxL + 11) + rm.locals ≤ R.locals) (hw : (rest.map fun v => v.category).sum ≤ 8) {st : List Value} (hst : st = As.reverse ++ .ref (eA (xE X) i) :: rest) (h : vC f K = some res) (k : ∀ r τ, f = some (r, τ) → K r τ = some res → G X τ q lv (.ref (eA (xE X) r) :: rest)) : G X σ pc lv st := fun H locs ls hP hS hl => by
  subst hq
  subst hst
  obtain ⟨r, τ, h1, h2⟩ := vC_some h
  have hM := hM r τ h1
  have cw : CallW (xR X) (xs X) (xa X) own y.cls index y b maxL (some ty) (Cond.code y b maxL (some ty) :: wt) rm 0 0 n := cwV n o.ts (gin_v hm hc) rfl hR.1 hR.2.1 ⟨rfl, hc.2.2.2.2⟩ (by rw [o.r]; exact hR.2.2)
  have hp : PreV (xs X) H y.cls (eA (xE X) i) (PW (xE X) (xk X) (.ref (eA (xE X) i) :: As) σ) As := ⟨WD.blind, by rw [← hcl]; exact ws_recv o.ck.1 hP hk h6 hC, fun U hU hW => ⟨rfl, by rw [hU]; exact hP, by rw [hU]; exact o.ck.move hW hS⟩⟩
  refine va_callr (va_runV (As := As) (rest := rest) ⟨o.x, o.b, o.ml, o.ow, o.ts⟩ hM cw hp rfl hn (by rw [← o.n]; exact hl.1) rfl (lv_room hw) d ⟨by rw [o.r]; exact o.hc, by rw [o.r]; exact o.hs⟩) hS (fun _ _ h => h) (fun _ h => h) ?_
  intro u ra t H1 locs1 ht hvm hw1 hB hz hk1 hS1
  obtain ⟨hra, hB⟩ := hB
  subst hra
  exact k r τ h1 h2 H1 locs1 ls (by rw [← ht]; exact hB.1) hS1 hl
theorem g_cvl (o : OK X cc own sd nL R l) {y : MethodName} {b : ByteArray} {maxL n index : Nat} {ty : FieldType} {rm : Room} {As : List Value} {kk : Nat} {Cw : vw_C} (hc : Cvi y b maxL (some ty) n) (hm : Cond.methodLink own index y ∈ wt) (hk : kd sd i kk) (h6 : kk < 6) (hC : vwCl[kk]? = some Cw) (hcl : Cw.1 = y.cls) (hn : As.length = n) {f : Option (Int64 × Mem)} {K : Int64 → Mem → Option ρ} (hM : ∀ (r : Int64) (τ : Mem), f = some (r, τ) → Met (xl X) y (Cond.code y b maxL (some ty) :: wt) rm (PW (xE X) (xk X) (.ref (eA (xE X) i) :: As) σ) (QL (xE X) (xk X) r τ) 0 0 (WA (xE X))) (d : decode cc pc = .ok (.invokevirtual index, 3)) (hq : pc + 3 = q) (hR : rm.cells = 0 ∧ rm.slots = 0 ∧ rm.frames + 1 ≤ R.frames ∧ 8 + (maxL + 11) + rm.locals ≤ R.locals) (hw : (rest.map fun v => v.category).sum ≤ 8) {st : List Value} (hst : st = As.reverse ++ .ref (eA (xE X) i) :: rest) (h : vC f K = some res) (k : ∀ r τ, K r τ = some res → G X τ q lv (.long r :: rest)) : G X σ pc lv st := fun H locs ls hP hS hl => by
  subst hq
  subst hst
  obtain ⟨r, τ, h1, h2⟩ := vC_some h
  have hM := hM r τ h1
  have cw : CallW (xR X) (xs X) (xa X) own y.cls index y b maxL (some ty) (Cond.code y b maxL (some ty) :: wt) rm 0 0 n := cwV n o.ts (gin_v hm hc) rfl hR.1 hR.2.1 ⟨rfl, hc.2.2.2.2⟩ (by rw [o.r]; exact hR.2.2)
  have hp : PreV (xs X) H y.cls (eA (xE X) i) (PW (xE X) (xk X) (.ref (eA (xE X) i) :: As) σ) As := ⟨WD.blind, by rw [← hcl]; exact ws_recv o.ck.1 hP hk h6 hC, fun U hU hW => ⟨rfl, by rw [hU]; exact hP, by rw [hU]; exact o.ck.move hW hS⟩⟩
  refine va_calll (va_runV (As := As) (rest := rest) ⟨o.x, o.b, o.ml, o.ow, o.ts⟩ hM cw hp rfl hn (by rw [← o.n]; exact hl.1) rfl (lv_room hw) d ⟨by rw [o.r]; exact o.hc, by rw [o.r]; exact o.hs⟩) hS (fun _ _ h => h) (fun _ h => h) ?_
  intro r' u t H1 locs1 ht hvm hw1 hB hz hk1 hS1
  subst hw1
  exact k r' τ h2 H1 locs1 ls (by rw [← ht]; exact hB.1) hS1 hl
theorem g_csi (o : OK X cc own sd nL R l) {y : MethodName} {b : ByteArray} {maxL n index : Nat} {ty : FieldType} {rm : Room} {As : List Value} (hc : Cvs y b maxL (some ty) n) (hm : Cond.methodLink own index y ∈ wt) (hn : As.length = n) {f : Option (Int32 × Mem)} {K : Int32 → Mem → Option ρ} (hM : ∀ (r : Int32) (τ : Mem), f = some (r, τ) → Met (xl X) y (Cond.code y b maxL (some ty) :: wt) rm (PW (xE X) (xk X) As σ) (QI (xE X) (xk X) r τ) 0 0 (WA (xE X))) (d : decode cc pc = .ok (.invokestatic index, 3)) (hq : pc + 3 = q) (hR : rm.cells = 0 ∧ rm.slots = 0 ∧ rm.frames + 1 ≤ R.frames ∧ 8 + (maxL + 11) + rm.locals ≤ R.locals) (hw : (rest.map fun v => v.category).sum ≤ 8) {st : List Value} (hst : st = As.reverse ++ rest) (h : vC f K = some res) (k : ∀ r τ, K r τ = some res → G X τ q lv (.int r :: rest)) : G X σ pc lv st := fun H locs ls hP hS hl => by
  subst hq
  subst hst
  obtain ⟨r, τ, h1, h2⟩ := vC_some h
  have hM := hM r τ h1
  have cw : CallB (xR X) (xs X) (xa X) own index y b maxL (some ty) (Cond.code y b maxL (some ty) :: wt) rm 0 0 n ∧ (Cond.static y).before (xa X) (xs X) = true := ⟨callB_of n o.ts (gin_c hc.2.2.1) rfl hR.1 hR.2.1 (o.ts _ hc.2.1) (o.ts _ hm) hc.2.2.2 (by rw [o.r]; exact hR.2.2), o.ts _ hc.1⟩
  have hp : PreS (xs X) H (PW (xE X) (xk X) As σ) As := ⟨WD.blind, fun U hU hW => ⟨rfl, by rw [hU]; exact hP, by rw [hU]; exact o.ck.move hW hS⟩⟩
  refine va_calli (va_runS (As := As) (rest := rest) ⟨o.x, o.b, o.ml, o.ow, o.ts⟩ hM cw hp rfl hn (by rw [← o.n]; exact hl.1) rfl (lv_room hw) d ⟨by rw [o.r]; exact o.hc, by rw [o.r]; exact o.hs⟩) hS (fun _ _ h => h) (fun _ h => h) ?_
  intro r' u t H1 locs1 ht hvm hw1 hB hz hk1 hS1
  subst hw1
  exact k r' τ h2 H1 locs1 ls (by rw [← ht]; exact hB.1) hS1 hl
theorem g_csv (o : OK X cc own sd nL R l) {y : MethodName} {b : ByteArray} {maxL n index : Nat} {rm : Room} {As : List Value} (hc : Cvs y b maxL none n) (hm : Cond.methodLink own index y ∈ wt) (hn : As.length = n) {f : Option (Unit × Mem)} {K : Unit → Mem → Option ρ} (hM : ∀ (r : Unit) (τ : Mem), f = some (r, τ) → Met (xl X) y (Cond.code y b maxL none :: wt) rm (PW (xE X) (xk X) As σ) (QV (xE X) (xk X) τ) 0 0 (WA (xE X))) (d : decode cc pc = .ok (.invokestatic index, 3)) (hq : pc + 3 = q) (hR : rm.cells = 0 ∧ rm.slots = 0 ∧ rm.frames + 1 ≤ R.frames ∧ 8 + (maxL + 11) + rm.locals ≤ R.locals) (hw : (rest.map fun v => v.category).sum ≤ 8) {st : List Value} (hst : st = As.reverse ++ rest) (h : vC f K = some res) (k : ∀ r τ, K r τ = some res → G X τ q lv (rest)) : G X σ pc lv st := fun H locs ls hP hS hl => by
  subst hq
  subst hst
  obtain ⟨r, τ, h1, h2⟩ := vC_some h
  have hM := hM r τ h1
  have cw : CallB (xR X) (xs X) (xa X) own index y b maxL none (Cond.code y b maxL none :: wt) rm 0 0 n ∧ (Cond.static y).before (xa X) (xs X) = true := ⟨callB_of n o.ts (gin_c hc.2.2.1) rfl hR.1 hR.2.1 (o.ts _ hc.2.1) (o.ts _ hm) hc.2.2.2 (by rw [o.r]; exact hR.2.2), o.ts _ hc.1⟩
  have hp : PreS (xs X) H (PW (xE X) (xk X) As σ) As := ⟨WD.blind, fun U hU hW => ⟨rfl, by rw [hU]; exact hP, by rw [hU]; exact o.ck.move hW hS⟩⟩
  refine va_callv (va_runS (As := As) (rest := rest) ⟨o.x, o.b, o.ml, o.ow, o.ts⟩ hM cw hp rfl hn (by rw [← o.n]; exact hl.1) rfl (lv_room hw) d ⟨by rw [o.r]; exact o.hc, by rw [o.r]; exact o.hs⟩) hS (fun _ _ h => h) (fun _ h => h) ?_
  intro u t H1 locs1 ht hvm hw1 hB hz hk1 hS1
  exact k r τ h2 H1 locs1 ls (by rw [← ht]; exact hB.1) hS1 hl
end CROWS
theorem met_i {l : Launch} {y : MethodName} {b : ByteArray} {maxL : Nat} {rm : Room} {E : En} {mk : Mem → Mem} {sd : Nat → Prop} {σ σ' : Mem} {ty : FieldType} {r : Int32} (As : En → List Value) (hy : plainName y.cls = true) (hmk : MK mk sd) (hlen : (lg_sl (As E)).length ≤ maxL) (walk : ∀ X : Cx, OK X b y.cls sd maxL rm l → RI X ty r σ' → G X σ 0 (lv_args 0 (As (xE X))) []) :
    Met l y (Cond.code y b maxL (some ty) :: wt) rm (PW E mk (As E) σ) (QI E mk r σ') 0 0 (WA E) := by
  refine Met.ofW (cc := b) (maxL := maxL) (ret := (some ty)) hy rfl ?_
  intro p e s m args below meth c s₁ B hml hv
  obtain ⟨rfl, hP, hK⟩ := hv
  have hts := atoms_spec (ws := Cond.code y b maxL (some ty) :: wt) B.pre
  have hl := lv_entry (As E) (n := maxL) hlen
  rw [lg_entry_eq]
  exact walk (p, l, e, rm, s, m, (As E).toArray, below, meth, c, MQ below (QI E mk r σ') (As E).toArray s 0 0 (WA E), maxL, E, mk, 0, 0) ⟨B.exec, B.bytes, hml, rfl, findClass_of_methodNamed B.named, fun w h => hts w (List.mem_cons_of_mem _ h), hK, hmk, B.notSynchronized, rfl, rfl, Nat.zero_le _, Nat.zero_le _⟩ ⟨B.returns, rfl⟩ s.heap [] _ hP va_S.rf hl
theorem met_v {l : Launch} {y : MethodName} {b : ByteArray} {maxL : Nat} {rm : Room} {E : En} {mk : Mem → Mem} {sd : Nat → Prop} {σ σ' : Mem} (As : En → List Value) (hy : plainName y.cls = true) (hmk : MK mk sd) (hlen : (lg_sl (As E)).length ≤ maxL) (walk : ∀ X : Cx, OK X b y.cls sd maxL rm l → RV X σ' → G X σ 0 (lv_args 0 (As (xE X))) []) :
    Met l y (Cond.code y b maxL none :: wt) rm (PW E mk (As E) σ) (QV E mk σ') 0 0 (WA E) := by
  refine Met.ofW (cc := b) (maxL := maxL) (ret := none) hy rfl ?_
  intro p e s m args below meth c s₁ B hml hv
  obtain ⟨rfl, hP, hK⟩ := hv
  have hts := atoms_spec (ws := Cond.code y b maxL none :: wt) B.pre
  have hl := lv_entry (As E) (n := maxL) hlen
  rw [lg_entry_eq]
  exact walk (p, l, e, rm, s, m, (As E).toArray, below, meth, c, MQ below (QV E mk σ') (As E).toArray s 0 0 (WA E), maxL, E, mk, 0, 0) ⟨B.exec, B.bytes, hml, rfl, findClass_of_methodNamed B.named, fun w h => hts w (List.mem_cons_of_mem _ h), hK, hmk, B.notSynchronized, rfl, rfl, Nat.zero_le _, Nat.zero_le _⟩ ⟨B.returns, rfl⟩ s.heap [] _ hP va_S.rf hl
theorem met_l {l : Launch} {y : MethodName} {b : ByteArray} {maxL : Nat} {rm : Room} {E : En} {mk : Mem → Mem} {sd : Nat → Prop} {σ σ' : Mem} {r : Int64} (As : En → List Value) (hy : plainName y.cls = true) (hmk : MK mk sd) (hlen : (lg_sl (As E)).length ≤ maxL) (walk : ∀ X : Cx, OK X b y.cls sd maxL rm l → RJ X r σ' → G X σ 0 (lv_args 0 (As (xE X))) []) :
    Met l y (Cond.code y b maxL (some .long) :: wt) rm (PW E mk (As E) σ) (QL E mk r σ') 0 0 (WA E) := by
  refine Met.ofW (cc := b) (maxL := maxL) (ret := (some .long)) hy rfl ?_
  intro p e s m args below meth c s₁ B hml hv
  obtain ⟨rfl, hP, hK⟩ := hv
  have hts := atoms_spec (ws := Cond.code y b maxL (some .long) :: wt) B.pre
  have hl := lv_entry (As E) (n := maxL) hlen
  rw [lg_entry_eq]
  exact walk (p, l, e, rm, s, m, (As E).toArray, below, meth, c, MQ below (QL E mk r σ') (As E).toArray s 0 0 (WA E), maxL, E, mk, 0, 0) ⟨B.exec, B.bytes, hml, rfl, findClass_of_methodNamed B.named, fun w h => hts w (List.mem_cons_of_mem _ h), hK, hmk, B.notSynchronized, rfl, rfl, Nat.zero_le _, Nat.zero_le _⟩ ⟨B.returns, rfl⟩ s.heap [] _ hP va_S.rf hl
theorem met_r {l : Launch} {y : MethodName} {b : ByteArray} {maxL : Nat} {rm : Room} {E : En} {mk : Mem → Mem} {sd : Nat → Prop} {σ σ' : Mem} {r : Nat} {C : String} (As : En → List Value) (hy : plainName y.cls = true) (hmk : MK mk sd) (hlen : (lg_sl (As E)).length ≤ maxL) (walk : ∀ X : Cx, OK X b y.cls sd maxL rm l → RR X r σ' → G X σ 0 (lv_args 0 (As (xE X))) []) :
    Met l y (Cond.code y b maxL (some (.object C)) :: wt) rm (PW E mk (As E) σ) (QR E mk r σ') 0 0 (WA E) := by
  refine Met.ofW (cc := b) (maxL := maxL) (ret := (some (.object C))) hy rfl ?_
  intro p e s m args below meth c s₁ B hml hv
  obtain ⟨rfl, hP, hK⟩ := hv
  have hts := atoms_spec (ws := Cond.code y b maxL (some (.object C)) :: wt) B.pre
  have hl := lv_entry (As E) (n := maxL) hlen
  rw [lg_entry_eq]
  exact walk (p, l, e, rm, s, m, (As E).toArray, below, meth, c, MQ below (QR E mk r σ') (As E).toArray s 0 0 (WA E), maxL, E, mk, 0, 0) ⟨B.exec, B.bytes, hml, rfl, findClass_of_methodNamed B.named, fun w h => hts w (List.mem_cons_of_mem _ h), hK, hmk, B.notSynchronized, rfl, rfl, Nat.zero_le _, Nat.zero_le _⟩ ⟨⟨C, B.returns⟩, rfl⟩ s.heap [] _ hP va_S.rf hl
