/-! what is left of rows: a shorter list of locals, checks, String constants -/
section SROWS
variable {X : Cx} {cc : ByteArray} {own : String} {sd : Nat → Prop} {nL : Nat} {R : Room} {l : Launch} {σ : Mem} {pc q i : Nat} {lv : LV} {rest : List Value} {ρ : Type} {res : ρ}
theorem g_sub {lv lv' : LV} {st : List Value} (is : List Nat) (h : lv_pick lv is = lv') (k : G X σ pc lv' st) : G X σ pc lv st := fun H locs ls hP hS hl => k H locs ls hP hS (lv_sub hl is h)
theorem vN_some {β : Type} {y : Int32} {K : Option β} {r : β} (h : vN y K = some r) : ¬ y = 0 ∧ K = some r := by
  unfold vN at h
  split at h
  · cases h
  · rename_i c; exact ⟨c, h⟩
theorem vB_some {β : Type} {y : Int32} {K : Option β} {r : β} (h : vB y K = some r) : (y = 0 ∨ y = 1) ∧ K = some r := by
  unfold vB at h
  split at h
  · rename_i c; exact ⟨c, h⟩
  · cases h
theorem g_lkIn (o : OK X cc own sd nL R l) {dflt : Int} {ps : Array (Int × Int)} {len tgt : Nat} {off : Int} {x : Int32} (v : Int32) {A B : Option ρ} (d : decode cc pc = .ok (.lookupswitch dflt ps, len)) (hp : (ps.toList.zip (ps.toList.drop 1)).all (fun (a, next) => a.1 < next.1) = true) (ho : Op.lookupswitch.offset ps.toList dflt v.toInt = off) (ht : (pc : Int) + off = (tgt : Int)) (h : (if x = v then A else B) = some res) (kt : A = some res → G X σ tgt lv rest) (kf : ¬ x = v → B = some res → G X σ pc lv (.int x :: rest)) : G X σ pc lv (.int x :: rest) := by
  by_cases c : x = v
  · rw [if_pos c] at h
    subst c
    exact fun H locs ls hP hS hl => lv_lookup o.x o.b d hp ho ht (kt h H locs ls hP hS hl)
  · rw [if_neg c] at h
    exact kf c h
theorem lk_out2 {x a b : Int32} {dflt oa ob : Int} (ha : ¬ x = a) (hb : ¬ x = b) : Op.lookupswitch.offset [(a.toInt, oa), (b.toInt, ob)] dflt x.toInt = dflt := by
  have h1 : ¬ a.toInt = x.toInt := fun h => ha (Int32.toInt_inj.mp h.symm)
  have h2 : ¬ b.toInt = x.toInt := fun h => hb (Int32.toInt_inj.mp h.symm)
  show (if a.toInt = x.toInt then oa else if b.toInt = x.toInt then ob else dflt) = dflt
  rw [if_neg h1, if_neg h2]
theorem g_ldcS (o : OK X cc own sd nL R l) {t index : Nat} {tx : String} (ht : (own, index, tx, t) ∈ kRefs) (d : decode cc pc = .ok (.ldc index, 2)) (hq : pc + 2 = q) (k : G X σ q lv (.ref (eK (xE X) t) :: rest)) : G X σ pc lv rest := fun H locs ls hP hS hl => by
  subst hq
  exact va_ldcS o.x o.b o.ow (o.ck.2.2.2.2.2.1 _ ht) d (k H locs ls hP hS hl)
theorem g_str (o : OK X cc own sd nL R l) {t : Nat} (ht : t < 14) : va_O "java/lang/String" (eK (xE X) t) (WA (xE X)) (xs X) (xs X).heap ∧ va_OF "java/lang/String" "coder" "B" (.int 0) (eK (xE X) t) (WA (xE X)) (xs X) (xs X).heap ∧ va_OF "java/lang/String" "value" "[B" (.ref (eV (xE X) t)) (eK (xE X) t) (WA (xE X)) (xs X) (xs X).heap ∧ va_T .byte (eV (xE X) t) (kLen.getD t 0) (fun j => .int ((kByt.getD t []).getD j 0)) (WA (xE X)) (xs X) (xs X).heap := o.ck.2.2.2.2.1 t ht
theorem g_sval (o : OK X cc own sd nL R l) {t : Nat} (ht : t < 14) {index : Nat} (hf : Cond.fieldLink own index "java/lang/String" "value" "[B" ∈ wt) (d : decode cc pc = .ok (.getfield index, 3)) (hq : pc + 3 = q) (k : G X σ q lv (.ref (eV (xE X) t) :: rest)) : G X σ pc lv (.ref (eK (xE X) t) :: rest) := fun H locs ls hP hS hl => by
  subst hq
  exact vk_getf o.x o.b (g_str o ht).2.2.1 hS o.ow (o.ts _ hf) (fun _ h => h) d (k H locs ls hP hS hl)
theorem g_scod (o : OK X cc own sd nL R l) {t : Nat} (ht : t < 14) {index : Nat} (hf : Cond.fieldLink own index "java/lang/String" "coder" "B" ∈ wt) (d : decode cc pc = .ok (.getfield index, 3)) (hq : pc + 3 = q) (k : G X σ q lv (.int 0 :: rest)) : G X σ pc lv (.ref (eK (xE X) t) :: rest) := fun H locs ls hP hS hl => by
  subst hq
  exact vk_getf o.x o.b (g_str o ht).2.1 hS o.ow (o.ts _ hf) (fun _ h => h) d (k H locs ls hP hS hl)
theorem g_slen (o : OK X cc own sd nL R l) {t : Nat} (ht : t < 14) (d : decode cc pc = .ok (.arraylength, 1)) (hq : pc + 1 = q) (k : G X σ q lv (.int (Int32.ofNat (kLen.getD t 0)) :: rest)) : G X σ pc lv (.ref (eV (xE X) t) :: rest) := fun H locs ls hP hS hl => by
  subst hq
  exact va_tlen o.x o.b (g_str o ht).2.2.2 hS rfl d (k H locs ls hP hS hl)
theorem g_sbld (o : OK X cc own sd nL R l) {t : Nat} (ht : t < 14) {x : Int32} (hin : vp_in x (kLen.getD t 0)) (d : decode cc pc = .ok (.baload, 1)) (hq : pc + 1 = q) (k : G X σ q lv (.int ((kByt.getD t []).getD x.toNatClampNeg 0) :: rest)) : G X σ pc lv (.int x :: .ref (eV (xE X) t) :: rest) := fun H locs ls hP hS hl => by
  subst hq
  exact va_tb o.x o.b (g_str o ht).2.2.2 hS hin rfl d (k H locs ls hP hS hl)
theorem g_comp (o : OK X cc own sd nL R l) {index : Nat} (hf : Cond.fieldLink own index "java/lang/String" "COMPACT_STRINGS" "Z" ∈ wt) (d : decode cc pc = .ok (.getstatic index, 3)) (hq : pc + 3 = q) (k : G X σ q lv (.int 1 :: rest)) : G X σ pc lv rest := fun H locs ls hP hS hl => by
  subst hq
  exact va_gets o.x o.b o.ck.2.2.2.1 hS o.ow (o.ts _ hf) (fun _ h => h) d (k H locs ls hP hS hl)
theorem g_sioo (o : OK X cc own sd nL R l) {index : Nat} (hf : Cond.fieldLink own index "jdk/internal/util/Preconditions" "SIOOBE_FORMATTER" "Ljava/util/function/BiFunction;" ∈ wt) (d : decode cc pc = .ok (.getstatic index, 3)) (hq : pc + 3 = q) (k : ∀ v : Value, (v = .null ∨ ∃ t, v = .ref t) → G X σ q lv (v :: rest)) : G X σ pc lv rest := fun H locs ls hP hS hl => by
  subst hq
  rcases o.ck.2.2.2.2.2.2.2 with h | ⟨t, h⟩
  · exact va_gets o.x o.b h hS o.ow (o.ts _ hf) (fun _ h => h) d (k .null (Or.inl rfl) H locs ls hP hS hl)
  · exact va_gets o.x o.b h hS o.ow (o.ts _ hf) (fun _ h => h) d (k (.ref t) (Or.inr ⟨t, rfl⟩) H locs ls hP hS hl)
/-- a call of a method of a String constant -/
theorem g_cst (o : OK X cc own sd nL R l) {y : MethodName} {b : ByteArray} {maxL n index : Nat} {ty : FieldType} {rm : Room} {As : List Value} (hc : Cvi y b maxL (some ty) n) (hm : Cond.methodLink own index y ∈ wt) {t : Nat} (ht : t < 14) (hcl : "java/lang/String" = y.cls) (hn : As.length = n) {f : Option (Int32 × Mem)} {K : Int32 → Mem → Option ρ} (hM : ∀ (r : Int32) (τ : Mem), f = some (r, τ) → Met (xl X) y (Cond.code y b maxL (some ty) :: wt) rm (PW (xE X) (xk X) (.ref (eK (xE X) t) :: As) σ) (QI (xE X) (xk X) r τ) 0 0 (WA (xE X))) (d : decode cc pc = .ok (.invokevirtual index, 3)) (hq : pc + 3 = q) (hR : rm.cells = 0 ∧ rm.slots = 0 ∧ rm.frames + 1 ≤ R.frames ∧ 8 + (maxL + 11) + rm.locals ≤ R.locals) (hw : (rest.map fun v => v.category).sum ≤ 8) {st : List Value} (hst : st = As.reverse ++ .ref (eK (xE X) t) :: rest) (h : vC f K = some res) (k : ∀ r τ, K r τ = some res → G X τ q lv (.int r :: rest)) : G X σ pc lv st := fun H locs ls hP hS hl => by
  subst hq
  subst hst
  obtain ⟨r, τ, h1, h2⟩ := vC_some h
  have hM := hM r τ h1
  have cw : CallW (xR X) (xs X) (xa X) own y.cls index y b maxL (some ty) (Cond.code y b maxL (some ty) :: wt) rm 0 0 n := cwV n o.ts (gin_v hm hc) rfl hR.1 hR.2.1 ⟨rfl, hc.2.2.2.2⟩ (by rw [o.r]; exact hR.2.2)
  have hp : PreV (xs X) H y.cls (eK (xE X) t) (PW (xE X) (xk X) (.ref (eK (xE X) t) :: As) σ) As := ⟨WD.blind, by rw [← hcl]; exact kS.recv o.ck.2.2.2.2.1 ht hS, fun U hU hW => ⟨rfl, by rw [hU]; exact hP, by rw [hU]; exact o.ck.move hW hS⟩⟩
  refine va_calli (va_runV (As := As) (rest := rest) ⟨o.x, o.b, o.ml, o.ow, o.ts⟩ hM cw hp rfl hn (by rw [← o.n]; exact hl.1) rfl (lv_room hw) d ⟨by rw [o.r]; exact o.hc, by rw [o.r]; exact o.hs⟩) hS (fun _ _ h => h) (fun _ h => h) ?_
  intro r' u t H1 locs1 ht hvm hw1 hB hz hk1 hS1
  subst hw1
  exact k r' τ h2 H1 locs1 ls (by rw [← ht]; exact hB.1) hS1 hl
end SROWS
