/-! ldc_w of a String constant -/
theorem ldcw_string {p : Program} {l : Launch} {e : Env} {R : Room} {s : State} {m : MethodId} {args : Array Value} {below : List Frame} {meth : Method} {c : Code} {T : State} {locs : List Loc} {cells slots : Nat}
    (X : Stand p l e R s m args below meth c T locs cells slots) (hexec : p.tables.exec = Jvm.exec) {own text : String} {index : Nat} {a : Addr} (hown : s.vm.findClass own = some m.cls)
    (hconst : (Cond.stringRef own index text).before args s = true) (hev : (Term.string own index).eval args s none [] s = some (.ref a)) {g : JFrame} (hg : g.method = m) (hdg : decode c.code g.pc = .ok (.ldc_w index, 3)) :
    ∀ target, Steps p.tables e below (T.setTop { g with pc := g.pc + 3, stack := .ref a :: g.stack }) target → Steps p.tables e below (T.setTop g) target := by
  obtain ⟨k, cf, i, a', hk, hcf, hcp, -, hr, hev'⟩ := Cond.stringRef_spec hown hconst
  cases hev.symm.trans hev'
  obtain ⟨k', hk', he⟩ := X.warmed.alike.2.2 _ _ hk
  have hr' : k'.resolved[index]? = some (some (.string a)) := by
    rcases X.warmed.entry hk hk' index with h | ⟨h, -⟩
    · rw [h]; exact hr
    · rw [hr] at h; cases h
  intro target hrest
  subst hg
  jvm_step X.here [hexec, hdg, ldc_w.wp_string (e := e) (s := T) (f := g) X.here.top hk' (by rw [he]; exact hcf) hcp hr']
  exact hrest
section LDCW
variable {X : Cx} {cc : ByteArray} {own : String} {sd : Nat → Prop} {nL : Nat} {R : Room} {l : Launch} {σ : Mem} {pc q : Nat} {lv : LV} {rest : List Value}
theorem g_ldcwS (o : OK X cc own sd nL R l) {t index : Nat} {tx : String} (ht : (own, index, tx, t) ∈ kRefs) (d : decode cc pc = .ok (.ldc_w index, 3)) (hq : pc + 3 = q) (k : G X σ q lv (.ref (eK (xE X) t) :: rest)) : G X σ pc lv rest := fun H locs ls hP hS hl => by
  subst hq
  have hZ := o.ck.2.2.2.2.2.1 _ ht
  intro T hT Y
  obtain ⟨t1, a1, b1⟩ := k H locs ls hP hS hl T hT Y
  exact ⟨t1, ldcw_string Y o.x o.ow (text := tx) (a := eK (xE X) t) hZ.1 hZ.2 (g := F0 (xm X) pc ls rest) rfl (by rw [o.b]; exact d) t1 a1, b1⟩
end LDCW
