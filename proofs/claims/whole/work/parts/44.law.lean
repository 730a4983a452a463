/-! THE LAW's walk, over the claim that class and reference answer alike from like memories -/
def cmb (σ μ : Mem) : Mem := fun i => if i < 50 then σ i else μ i
theorem MKC (μ : Mem) : MK (fun σ => cmb σ μ) sdC := by
  refine ⟨fun σ i h => if_pos h, fun σ i r h => ?_⟩
  funext a
  simp only [cmb, setr]
  by_cases ha : a = i
  · subst ha
    rw [if_pos rfl, if_pos h, if_pos rfl]
  · rw [if_neg ha, if_neg ha]
theorem MKM (σ : Mem) : MK (fun μ => cmb σ μ) sdM := by
  refine ⟨fun μ i h => if_neg (Nat.not_lt.mpr h), fun μ i r h => ?_⟩
  funext a
  simp only [cmb, setr]
  by_cases ha : a = i
  · subst ha
    rw [if_pos rfl, if_neg (Nat.not_lt.mpr h), if_pos rfl]
  · rw [if_neg ha, if_neg ha]
theorem toC {X : Cx} (hid : xk X = fun ρ => ρ) {l : Launch} {y : MethodName} {ws : List Cond} {rm : Room} {E : En} {As : List Value} {σ σ' μ : Mem} {r : Int32} {A : Addr → Prop} (h : Met l y ws rm (PW E (fun σ => cmb σ μ) As σ) (QI E (fun σ => cmb σ μ) r σ') 0 0 A) : Met l y ws rm (PW E (xk X) As (cmb σ μ)) (QI E (xk X) r (cmb σ' μ)) 0 0 A := by
  rw [hid]; exact h
theorem toM {X : Cx} (hid : xk X = fun ρ => ρ) {l : Launch} {y : MethodName} {ws : List Cond} {rm : Room} {E : En} {As : List Value} {σ μ μ' : Mem} {r : Int32} {A : Addr → Prop} (h : Met l y ws rm (PW E (fun μ => cmb σ μ) As μ) (QI E (fun μ => cmb σ μ) r μ') 0 0 A) : Met l y ws rm (PW E (xk X) As (cmb σ μ)) (QI E (xk X) r (cmb σ μ')) 0 0 A := by
  rw [hid]; exact h
theorem toCl {X : Cx} (hid : xk X = fun ρ => ρ) {l : Launch} {y : MethodName} {ws : List Cond} {rm : Room} {E : En} {As : List Value} {σ σ' μ : Mem} {r : Int64} {A : Addr → Prop} (h : Met l y ws rm (PW E (fun σ => cmb σ μ) As σ) (QL E (fun σ => cmb σ μ) r σ') 0 0 A) : Met l y ws rm (PW E (xk X) As (cmb σ μ)) (QL E (xk X) r (cmb σ' μ)) 0 0 A := by
  rw [hid]; exact h
theorem toMl {X : Cx} (hid : xk X = fun ρ => ρ) {l : Launch} {y : MethodName} {ws : List Cond} {rm : Room} {E : En} {As : List Value} {σ μ μ' : Mem} {r : Int64} {A : Addr → Prop} (h : Met l y ws rm (PW E (fun μ => cmb σ μ) As μ) (QL E (fun μ => cmb σ μ) r μ') 0 0 A) : Met l y ws rm (PW E (xk X) As (cmb σ μ)) (QL E (xk X) r (cmb σ μ')) 0 0 A := by
  rw [hid]; exact h
abbrev sdA (_ : Nat) : Prop := True
theorem kL_0 : kd sdA 0 4 := ⟨trivial, by decide, by decide⟩
theorem kL_50 : kd sdA 50 5 := ⟨trivial, by decide, by decide⟩
section LROWS
variable {X : Cx} {cc : ByteArray} {own : String} {sd : Nat → Prop} {nL : Nat} {R : Room} {l : Launch} {σ : Mem} {pc q : Nat} {lv : LV} {rest : List Value} {b L : Nat} {sc : Nat → Int32}
theorem g_scld (o : OK X cc own sd nL R l) (hX : va_X b L sc (xs X) (xs X).heap) (hbl : b < (xs X).heap.size) (hbA : ¬ WA (xE X) b) {x : Int32} {j : Nat} (hx : x = nI j) (hj : j < L) (hL : L < 2 ^ 31) (d : decode cc pc = .ok (.iaload, 1)) (hq : pc + 1 = q) (k : G X σ q lv (.int (sc j) :: rest)) : G X σ pc lv (.int x :: .ref b :: rest) := fun H locs ls hP hS hl => by
  subst hq
  subst hx
  have h1 : vp_in (nI j) L := vp_in_nI hj hL
  have h2 := k H locs ls hP hS hl
  rw [show sc j = sc (nI j).toNatClampNeg by rw [nI_clamp (by omega)]] at h2
  exact va_sld o.x o.b hX hbl hbA hS h1 d h2
theorem g_sclen (o : OK X cc own sd nL R l) (hX : va_X b L sc (xs X) (xs X).heap) (hbl : b < (xs X).heap.size) (hbA : ¬ WA (xE X) b) (d : decode cc pc = .ok (.arraylength, 1)) (hq : pc + 1 = q) (k : G X σ q lv (.int (Int32.ofNat L) :: rest)) : G X σ pc lv (.ref b :: rest) := fun H locs ls hP hS hl => by
  subst hq
  exact va_slen o.x o.b hX hbl hbA hS d (k H locs ls hP hS hl)
theorem g_swC (o : OK X cc own sd nL R l) {dflt lo hi : Int} {offs : Array Int} {len tgt : Nat} {off : Int} {x : Int32} (v : Int32) (d : decode cc pc = .ok (.tableswitch dflt lo hi offs, len)) (h1 : ¬ v.toInt < lo) (h2 : ¬ hi < v.toInt) (ho : offs[(v.toInt - lo).toNat]? = some off) (ht : (pc : Int) + off = (tgt : Int)) (kt : G X σ tgt lv rest) (kf : ¬ x = v → G X σ pc lv (.int x :: rest)) : G X σ pc lv (.int x :: rest) := by
  by_cases c : x = v
  · subst c
    exact fun H locs ls hP hS hl => lv_tableIn o.x o.b d h1 h2 ho ht (kt H locs ls hP hS hl)
  · exact kf c
end LROWS
def Sim0 (Rl : Mem → Mem → Prop) : Prop := (∀ (σ μ : Mem) (x1 : Int32), Rl σ μ → ∃ (r : Int32) (σ' μ' : Mem), f_X4_fire x1 σ = some (r, σ') ∧ f_X5_fire x1 μ = some (r, μ') ∧ Rl σ' μ')
def Sim1 (Rl : Mem → Mem → Prop) : Prop := (∀ (σ μ : Mem) (x1 x2 : Int32), Rl σ μ → ∃ (r : Int32) (σ' μ' : Mem), f_X4_scene x1 x2 σ = some (r, σ') ∧ f_X5_scene x1 x2 μ = some (r, μ') ∧ Rl σ' μ')
def Sim2 (Rl : Mem → Mem → Prop) : Prop := (∀ (σ μ : Mem) (x1 : Int32), Rl σ μ → ∃ (r : Int32) (σ' μ' : Mem), f_X4_listed x1 σ = some (r, σ') ∧ f_X5_listed x1 μ = some (r, μ') ∧ Rl σ' μ')
def Sim3 (Rl : Mem → Mem → Prop) : Prop := (∀ (σ μ : Mem) (x1 x2 : Int32), Rl σ μ → ∃ (r : Int32) (σ' μ' : Mem), f_X4_curtain x1 x2 σ = some (r, σ') ∧ f_X5_curtain x1 x2 μ = some (r, μ') ∧ Rl σ' μ')
def Sim4 (Rl : Mem → Mem → Prop) : Prop := (∀ (σ μ : Mem) (x1 x2 : Int32), Rl σ μ → ∃ (r : Int32) (σ' μ' : Mem), f_X4_of x1 x2 σ = some (r, σ') ∧ f_X5_of x1 x2 μ = some (r, μ') ∧ Rl σ' μ')
def Sim5 (Rl : Mem → Mem → Prop) : Prop := (∀ (σ μ : Mem) (x1 x2 x3 : Int32), Rl σ μ → ∃ (r : Int32) (σ' μ' : Mem), f_X4_change x1 x2 x3 σ = some (r, σ') ∧ f_X5_change x1 x2 x3 μ = some (r, μ') ∧ Rl σ' μ')
def Sim6 (Rl : Mem → Mem → Prop) : Prop := (∀ (σ μ : Mem) (x1 x2 : Int32), Rl σ μ → ∃ (r : Int32) (σ' μ' : Mem), f_X4_pull x1 x2 σ = some (r, σ') ∧ f_X5_pull x1 x2 μ = some (r, μ') ∧ Rl σ' μ')
def Sim7 (Rl : Mem → Mem → Prop) : Prop := (∀ (σ μ : Mem) (x1 : Int32), Rl σ μ → ∃ (r : Int32) (σ' μ' : Mem), f_X4_go x1 σ = some (r, σ') ∧ f_X5_go x1 μ = some (r, μ') ∧ Rl σ' μ')
def Sim8 (Rl : Mem → Mem → Prop) : Prop := (∀ (σ μ : Mem) (x1 : Int32), Rl σ μ → ∃ (r : Int32) (σ' μ' : Mem), f_X4_now x1 σ = some (r, σ') ∧ f_X5_now x1 μ = some (r, μ') ∧ Rl σ' μ')
def Sim9 (Rl : Mem → Mem → Prop) : Prop := (∀ (σ μ : Mem) (x1 x2 x3 : Int32), Rl σ μ → ∃ (r : Int32) (σ' μ' : Mem), f_X4_ahead x1 x2 x3 σ = some (r, σ') ∧ f_X5_ahead x1 x2 x3 μ = some (r, μ') ∧ Rl σ' μ')
def Sim10 (Rl : Mem → Mem → Prop) : Prop := (∀ (σ μ : Mem) (x1 : Int32), Rl σ μ → ∃ (r : Int32) (σ' μ' : Mem), f_X4_cut x1 σ = some (r, σ') ∧ f_X5_cut x1 μ = some (r, μ') ∧ Rl σ' μ')
def Sim11 (Rl : Mem → Mem → Prop) : Prop := (∀ (σ μ : Mem) (x1 : Int32), Rl σ μ → ∃ (r : Int32) (σ' μ' : Mem), f_X4_down x1 σ = some (r, σ') ∧ f_X5_down x1 μ = some (r, μ') ∧ Rl σ' μ')
def Sim12 (Rl : Mem → Mem → Prop) : Prop := (∀ (σ μ : Mem) (x1 : Int32), Rl σ μ → ∃ (r : Int32) (σ' μ' : Mem), f_X4_up x1 σ = some (r, σ') ∧ f_X5_up x1 μ = some (r, μ') ∧ Rl σ' μ')
def Sim13 (Rl : Mem → Mem → Prop) : Prop := (∀ (σ μ : Mem) (x1 x2 : Int32), Rl σ μ → ∃ (r : Int32) (σ' μ' : Mem), f_X4_weary x1 x2 σ = some (r, σ') ∧ f_X5_weary x1 x2 μ = some (r, μ') ∧ Rl σ' μ')
def Sim14 (Rl : Mem → Mem → Prop) : Prop := (∀ (σ μ : Mem) (x1 : Int32), Rl σ μ → ∃ (r : Int32) (σ' μ' : Mem), f_X4_saved x1 σ = some (r, σ') ∧ f_X5_saved x1 μ = some (r, μ') ∧ Rl σ' μ')
def Sim15 (Rl : Mem → Mem → Prop) : Prop := (∀ (σ μ : Mem) (x1 x2 : Int32), Rl σ μ → ∃ (r : Int32) (σ' μ' : Mem), f_X4_sceneFor x1 x2 σ = some (r, σ') ∧ f_X5_sceneFor x1 x2 μ = some (r, μ') ∧ Rl σ' μ')
def Sim16 (Rl : Mem → Mem → Prop) : Prop := (∀ (σ μ : Mem) (x1 x2 : Int32), Rl σ μ → ∃ (r : Int32) (σ' μ' : Mem), f_X4_kindFor x1 x2 σ = some (r, σ') ∧ f_X5_kindFor x1 x2 μ = some (r, μ') ∧ Rl σ' μ')
def Sim17 (Rl : Mem → Mem → Prop) : Prop := (∀ (σ μ : Mem) (x1 x2 : Int32), Rl σ μ → ∃ (r : Int32) (σ' μ' : Mem), f_X4_moodFor x1 x2 σ = some (r, σ') ∧ f_X5_moodFor x1 x2 μ = some (r, μ') ∧ Rl σ' μ')
def Sim18 (Rl : Mem → Mem → Prop) : Prop := (∀ (σ μ : Mem) (x1 x2 : Int32), Rl σ μ → ∃ (r : Int32) (σ' μ' : Mem), f_X4_handsFor x1 x2 σ = some (r, σ') ∧ f_X5_handsFor x1 x2 μ = some (r, μ') ∧ Rl σ' μ')
def Sim19 (Rl : Mem → Mem → Prop) : Prop := (∀ (σ μ : Mem) (x1 : Int32), Rl σ μ → ∃ (r : Int32) (σ' μ' : Mem), f_X4_tie x1 σ = some (r, σ') ∧ f_X5_tie x1 μ = some (r, μ') ∧ Rl σ' μ')
def Sim20 (Rl : Mem → Mem → Prop) : Prop := (∀ (σ μ : Mem), Rl σ μ → ∃ (r : Int32) (σ' μ' : Mem), f_X4_please  σ = some (r, σ') ∧ f_X5_please  μ = some (r, μ') ∧ Rl σ' μ')
def Sim21 (Rl : Mem → Mem → Prop) : Prop := (∀ (σ μ : Mem) (x1 x2 : Int32), Rl σ μ → ∃ (r : Int32) (σ' μ' : Mem), f_X4_fits x1 x2 σ = some (r, σ') ∧ f_X5_fits x1 x2 μ = some (r, μ') ∧ Rl σ' μ')
def Sim22 (Rl : Mem → Mem → Prop) : Prop := (∀ (σ μ : Mem) (x1 x2 : Int32), Rl σ μ → ∃ (r : Int32) (σ' μ' : Mem), f_X4_kinds x1 x2 σ = some (r, σ') ∧ f_X5_kinds x1 x2 μ = some (r, μ') ∧ Rl σ' μ')
def Sim23 (Rl : Mem → Mem → Prop) : Prop := (∀ (σ μ : Mem) (x1 : Int32), Rl σ μ → ∃ (r : Int32) (σ' μ' : Mem), f_X4_evening x1 σ = some (r, σ') ∧ f_X5_evening x1 μ = some (r, μ') ∧ Rl σ' μ')
def Sim24 (Rl : Mem → Mem → Prop) : Prop := (∀ (σ μ : Mem) (x1 x2 x3 : Int32), Rl σ μ → ∃ (r : Int64) (σ' μ' : Mem), f_X4_odds x1 x2 x3 σ = some (r, σ') ∧ f_X5_odds x1 x2 x3 μ = some (r, μ') ∧ Rl σ' μ')
def Sim25 (Rl : Mem → Mem → Prop) : Prop := (∀ (σ μ : Mem) (x1 : Int32), Rl σ μ → ∃ (r : Int32) (σ' μ' : Mem), f_X4_seed x1 σ = some (r, σ') ∧ f_X5_seed x1 μ = some (r, μ') ∧ Rl σ' μ')
def Sim26 (Rl : Mem → Mem → Prop) : Prop := (∀ (σ μ : Mem) (x1 x2 : Int32), Rl σ μ → ∃ (r : Int32) (σ' μ' : Mem), f_X4_feed x1 x2 σ = some (r, σ') ∧ f_X5_feed x1 x2 μ = some (r, μ') ∧ Rl σ' μ')
def Sim27 (Rl : Mem → Mem → Prop) : Prop := (∀ (σ μ : Mem), Rl σ μ → ∃ (r : Int32) (σ' μ' : Mem), f_X4_wipe  σ = some (r, σ') ∧ f_X5_wipe  μ = some (r, μ') ∧ Rl σ' μ')
def Sim28 (Rl : Mem → Mem → Prop) : Prop := (∀ (σ μ : Mem), Rl σ μ → ∃ (r : Int32) (σ' μ' : Mem), f_X4_text  σ = some (r, σ') ∧ f_X5_text  μ = some (r, μ') ∧ Rl σ' μ')
def Sim29 (Rl : Mem → Mem → Prop) : Prop := (∀ (σ μ : Mem) (x1 x2 : Int32), Rl σ μ → ∃ (r : Int32) (σ' μ' : Mem), f_X4_hold x1 x2 σ = some (r, σ') ∧ f_X5_hold x1 x2 μ = some (r, μ') ∧ Rl σ' μ')
def Sim30 (Rl : Mem → Mem → Prop) : Prop := (∀ (σ μ : Mem) (x1 x2 : Int32), Rl σ μ → ∃ (r : Int32) (σ' μ' : Mem), f_X4_as x1 x2 σ = some (r, σ') ∧ f_X5_as x1 x2 μ = some (r, μ') ∧ Rl σ' μ')
def Sim31 (Rl : Mem → Mem → Prop) : Prop := (∀ (σ μ : Mem) (x1 x2 x3 : Int32), Rl σ μ → ∃ (r : Int32) (σ' μ' : Mem), f_X4_sheet x1 x2 x3 σ = some (r, σ') ∧ f_X5_sheet x1 x2 x3 μ = some (r, μ') ∧ Rl σ' μ')
def Sim32 (Rl : Mem → Mem → Prop) : Prop := (∀ (σ μ : Mem) (x1 x2 x3 : Int32), Rl σ μ → ∃ (r : Int32) (σ' μ' : Mem), f_X4_write x1 x2 x3 σ = some (r, σ') ∧ f_X5_write x1 x2 x3 μ = some (r, μ') ∧ Rl σ' μ')
def Sim33 (Rl : Mem → Mem → Prop) : Prop := (∀ (σ μ : Mem) (x1 x2 x3 x4 x5 : Int32), Rl σ μ → ∃ (r : Int32) (σ' μ' : Mem), f_X4_copy x1 x2 x3 x4 x5 σ = some (r, σ') ∧ f_X5_copy x1 x2 x3 x4 x5 μ = some (r, μ') ∧ Rl σ' μ')
def Sim34 (Rl : Mem → Mem → Prop) : Prop := (∀ (σ μ : Mem) (x1 : Int32), Rl σ μ → ∃ (r : Int32) (σ' μ' : Mem), f_X4_load x1 σ = some (r, σ') ∧ f_X5_load x1 μ = some (r, μ') ∧ Rl σ' μ')
def Sim35 (Rl : Mem → Mem → Prop) : Prop := (∀ (σ μ : Mem) (x1 : Int32), Rl σ μ → ∃ (r : Int32) (σ' μ' : Mem), f_X4_judge x1 σ = some (r, σ') ∧ f_X5_judge x1 μ = some (r, μ') ∧ Rl σ' μ')
def Sim36 (Rl : Mem → Mem → Prop) : Prop := (∀ (σ μ : Mem), Rl σ μ → ∃ (r : Int32) (σ' μ' : Mem), f_X4_image  σ = some (r, σ') ∧ f_X5_image  μ = some (r, μ') ∧ Rl σ' μ')
def Sim37 (Rl : Mem → Mem → Prop) : Prop := (∀ (σ μ : Mem), Rl σ μ → ∃ (r : Int32) (σ' μ' : Mem), f_X4_undo  σ = some (r, σ') ∧ f_X5_undo  μ = some (r, μ') ∧ Rl σ' μ')
def Sim38 (Rl : Mem → Mem → Prop) : Prop := (∀ (σ μ : Mem), Rl σ μ → ∃ (r : Int32) (σ' μ' : Mem), f_X4_tear  σ = some (r, σ') ∧ f_X5_tear  μ = some (r, μ') ∧ Rl σ' μ')
def Sim39 (Rl : Mem → Mem → Prop) : Prop := (∀ (σ μ : Mem) (x1 : Int32), Rl σ μ → ∃ (r : Int32) (σ' μ' : Mem), f_X4_count x1 σ = some (r, σ') ∧ f_X5_count x1 μ = some (r, μ') ∧ Rl σ' μ')
def Sim40 (Rl : Mem → Mem → Prop) : Prop := (∀ (σ μ : Mem) (x1 : Int32), Rl σ μ → ∃ (r : Int32) (σ' μ' : Mem), f_X4_status x1 σ = some (r, σ') ∧ f_X5_status x1 μ = some (r, μ') ∧ Rl σ' μ')
def Sims (Rl : Mem → Mem → Prop) : Prop := Sim0 Rl ∧ Sim1 Rl ∧ Sim2 Rl ∧ Sim3 Rl ∧ Sim4 Rl ∧ Sim5 Rl ∧ Sim6 Rl ∧ Sim7 Rl ∧ Sim8 Rl ∧ Sim9 Rl ∧ Sim10 Rl ∧ Sim11 Rl ∧ Sim12 Rl ∧ Sim13 Rl ∧ Sim14 Rl ∧ Sim15 Rl ∧ Sim16 Rl ∧ Sim17 Rl ∧ Sim18 Rl ∧ Sim19 Rl ∧ Sim20 Rl ∧ Sim21 Rl ∧ Sim22 Rl ∧ Sim23 Rl ∧ Sim24 Rl ∧ Sim25 Rl ∧ Sim26 Rl ∧ Sim27 Rl ∧ Sim28 Rl ∧ Sim29 Rl ∧ Sim30 Rl ∧ Sim31 Rl ∧ Sim32 Rl ∧ Sim33 Rl ∧ Sim34 Rl ∧ Sim35 Rl ∧ Sim36 Rl ∧ Sim37 Rl ∧ Sim38 Rl ∧ Sim39 Rl ∧ Sim40 Rl
theorem Sims.s0 {Rl : Mem → Mem → Prop} (h : Sims Rl) : Sim0 Rl := h.1
theorem Sims.s1 {Rl : Mem → Mem → Prop} (h : Sims Rl) : Sim1 Rl := h.2.1
theorem Sims.s2 {Rl : Mem → Mem → Prop} (h : Sims Rl) : Sim2 Rl := h.2.2.1
theorem Sims.s3 {Rl : Mem → Mem → Prop} (h : Sims Rl) : Sim3 Rl := h.2.2.2.1
theorem Sims.s4 {Rl : Mem → Mem → Prop} (h : Sims Rl) : Sim4 Rl := h.2.2.2.2.1
theorem Sims.s5 {Rl : Mem → Mem → Prop} (h : Sims Rl) : Sim5 Rl := h.2.2.2.2.2.1
theorem Sims.s6 {Rl : Mem → Mem → Prop} (h : Sims Rl) : Sim6 Rl := h.2.2.2.2.2.2.1
theorem Sims.s7 {Rl : Mem → Mem → Prop} (h : Sims Rl) : Sim7 Rl := h.2.2.2.2.2.2.2.1
theorem Sims.s8 {Rl : Mem → Mem → Prop} (h : Sims Rl) : Sim8 Rl := h.2.2.2.2.2.2.2.2.1
theorem Sims.s9 {Rl : Mem → Mem → Prop} (h : Sims Rl) : Sim9 Rl := h.2.2.2.2.2.2.2.2.2.1
theorem Sims.s10 {Rl : Mem → Mem → Prop} (h : Sims Rl) : Sim10 Rl := h.2.2.2.2.2.2.2.2.2.2.1
theorem Sims.s11 {Rl : Mem → Mem → Prop} (h : Sims Rl) : Sim11 Rl := h.2.2.2.2.2.2.2.2.2.2.2.1
theorem Sims.s12 {Rl : Mem → Mem → Prop} (h : Sims Rl) : Sim12 Rl := h.2.2.2.2.2.2.2.2.2.2.2.2.1
theorem Sims.s13 {Rl : Mem → Mem → Prop} (h : Sims Rl) : Sim13 Rl := h.2.2.2.2.2.2.2.2.2.2.2.2.2.1
theorem Sims.s14 {Rl : Mem → Mem → Prop} (h : Sims Rl) : Sim14 Rl := h.2.2.2.2.2.2.2.2.2.2.2.2.2.2.1
theorem Sims.s15 {Rl : Mem → Mem → Prop} (h : Sims Rl) : Sim15 Rl := h.2.2.2.2.2.2.2.2.2.2.2.2.2.2.2.1
theorem Sims.s16 {Rl : Mem → Mem → Prop} (h : Sims Rl) : Sim16 Rl := h.2.2.2.2.2.2.2.2.2.2.2.2.2.2.2.2.1
theorem Sims.s17 {Rl : Mem → Mem → Prop} (h : Sims Rl) : Sim17 Rl := h.2.2.2.2.2.2.2.2.2.2.2.2.2.2.2.2.2.1
theorem Sims.s18 {Rl : Mem → Mem → Prop} (h : Sims Rl) : Sim18 Rl := h.2.2.2.2.2.2.2.2.2.2.2.2.2.2.2.2.2.2.1
theorem Sims.s19 {Rl : Mem → Mem → Prop} (h : Sims Rl) : Sim19 Rl := h.2.2.2.2.2.2.2.2.2.2.2.2.2.2.2.2.2.2.2.1
theorem Sims.s20 {Rl : Mem → Mem → Prop} (h : Sims Rl) : Sim20 Rl := h.2.2.2.2.2.2.2.2.2.2.2.2.2.2.2.2.2.2.2.2.1
theorem Sims.s21 {Rl : Mem → Mem → Prop} (h : Sims Rl) : Sim21 Rl := h.2.2.2.2.2.2.2.2.2.2.2.2.2.2.2.2.2.2.2.2.2.1
theorem Sims.s22 {Rl : Mem → Mem → Prop} (h : Sims Rl) : Sim22 Rl := h.2.2.2.2.2.2.2.2.2.2.2.2.2.2.2.2.2.2.2.2.2.2.1
theorem Sims.s23 {Rl : Mem → Mem → Prop} (h : Sims Rl) : Sim23 Rl := h.2.2.2.2.2.2.2.2.2.2.2.2.2.2.2.2.2.2.2.2.2.2.2.1
theorem Sims.s24 {Rl : Mem → Mem → Prop} (h : Sims Rl) : Sim24 Rl := h.2.2.2.2.2.2.2.2.2.2.2.2.2.2.2.2.2.2.2.2.2.2.2.2.1
theorem Sims.s25 {Rl : Mem → Mem → Prop} (h : Sims Rl) : Sim25 Rl := h.2.2.2.2.2.2.2.2.2.2.2.2.2.2.2.2.2.2.2.2.2.2.2.2.2.1
theorem Sims.s26 {Rl : Mem → Mem → Prop} (h : Sims Rl) : Sim26 Rl := h.2.2.2.2.2.2.2.2.2.2.2.2.2.2.2.2.2.2.2.2.2.2.2.2.2.2.1
theorem Sims.s27 {Rl : Mem → Mem → Prop} (h : Sims Rl) : Sim27 Rl := h.2.2.2.2.2.2.2.2.2.2.2.2.2.2.2.2.2.2.2.2.2.2.2.2.2.2.2.1
theorem Sims.s28 {Rl : Mem → Mem → Prop} (h : Sims Rl) : Sim28 Rl := h.2.2.2.2.2.2.2.2.2.2.2.2.2.2.2.2.2.2.2.2.2.2.2.2.2.2.2.2.1
theorem Sims.s29 {Rl : Mem → Mem → Prop} (h : Sims Rl) : Sim29 Rl := h.2.2.2.2.2.2.2.2.2.2.2.2.2.2.2.2.2.2.2.2.2.2.2.2.2.2.2.2.2.1
theorem Sims.s30 {Rl : Mem → Mem → Prop} (h : Sims Rl) : Sim30 Rl := h.2.2.2.2.2.2.2.2.2.2.2.2.2.2.2.2.2.2.2.2.2.2.2.2.2.2.2.2.2.2.1
theorem Sims.s31 {Rl : Mem → Mem → Prop} (h : Sims Rl) : Sim31 Rl := h.2.2.2.2.2.2.2.2.2.2.2.2.2.2.2.2.2.2.2.2.2.2.2.2.2.2.2.2.2.2.2.1
theorem Sims.s32 {Rl : Mem → Mem → Prop} (h : Sims Rl) : Sim32 Rl := h.2.2.2.2.2.2.2.2.2.2.2.2.2.2.2.2.2.2.2.2.2.2.2.2.2.2.2.2.2.2.2.2.1
theorem Sims.s33 {Rl : Mem → Mem → Prop} (h : Sims Rl) : Sim33 Rl := h.2.2.2.2.2.2.2.2.2.2.2.2.2.2.2.2.2.2.2.2.2.2.2.2.2.2.2.2.2.2.2.2.2.1
theorem Sims.s34 {Rl : Mem → Mem → Prop} (h : Sims Rl) : Sim34 Rl := h.2.2.2.2.2.2.2.2.2.2.2.2.2.2.2.2.2.2.2.2.2.2.2.2.2.2.2.2.2.2.2.2.2.2.1
theorem Sims.s35 {Rl : Mem → Mem → Prop} (h : Sims Rl) : Sim35 Rl := h.2.2.2.2.2.2.2.2.2.2.2.2.2.2.2.2.2.2.2.2.2.2.2.2.2.2.2.2.2.2.2.2.2.2.2.1
theorem Sims.s36 {Rl : Mem → Mem → Prop} (h : Sims Rl) : Sim36 Rl := h.2.2.2.2.2.2.2.2.2.2.2.2.2.2.2.2.2.2.2.2.2.2.2.2.2.2.2.2.2.2.2.2.2.2.2.2.1
theorem Sims.s37 {Rl : Mem → Mem → Prop} (h : Sims Rl) : Sim37 Rl := h.2.2.2.2.2.2.2.2.2.2.2.2.2.2.2.2.2.2.2.2.2.2.2.2.2.2.2.2.2.2.2.2.2.2.2.2.2.1
theorem Sims.s38 {Rl : Mem → Mem → Prop} (h : Sims Rl) : Sim38 Rl := h.2.2.2.2.2.2.2.2.2.2.2.2.2.2.2.2.2.2.2.2.2.2.2.2.2.2.2.2.2.2.2.2.2.2.2.2.2.2.1
theorem Sims.s39 {Rl : Mem → Mem → Prop} (h : Sims Rl) : Sim39 Rl := h.2.2.2.2.2.2.2.2.2.2.2.2.2.2.2.2.2.2.2.2.2.2.2.2.2.2.2.2.2.2.2.2.2.2.2.2.2.2.2.1
theorem Sims.s40 {Rl : Mem → Mem → Prop} (h : Sims Rl) : Sim40 Rl := h.2.2.2.2.2.2.2.2.2.2.2.2.2.2.2.2.2.2.2.2.2.2.2.2.2.2.2.2.2.2.2.2.2.2.2.2.2.2.2.2
section LAW
variable {X : Cx} {l : Launch} {b L : Nat} {sc : Nat → Int32} {Rl : Mem → Mem → Prop}
abbrev lawLV (X : Cx) (b i : Nat) : LV := [(0, .ref b), (1, .ref (eA (xE X) 0)), (2, .ref (eA (xE X) 50)), (3, .int (nI i))]
/-- what the law's walk stands on -/
def LC (X : Cx) (l : Launch) (b L : Nat) (sc : Nat → Int32) : Prop := OK X cL_law RL sdA 4 room_1 l ∧ (xk X = fun ρ => ρ) ∧ va_X b L sc (xs X) (xs X).heap ∧ b < (xs X).heap.size ∧ ¬ WA (xE X) b ∧ L ≤ 3072
set_option maxHeartbeats 4000000 in
set_option maxRecDepth 100000 in
theorem law_c0 (hc : LC X l b L sc) (hs : Sims Rl) {σ μ : Mem} (hR : Rl σ μ) {i : Nat} (hi : i + 6 ≤ L) (hk : ∀ σ μ : Mem, Rl σ μ → G X (cmb σ μ) 1376 (lawLV X b i) []) : G X (cmb σ μ) 212 (lawLV X b i) [] := by
  obtain ⟨o, hid, hX, hbl, hbA, hL⟩ := hc
  obtain ⟨r, σ', μ', h1, h2, h3⟩ := hs.s0 σ μ (sc (i + 1)) hR
  refine g_aload_n o (q := 213) 1 rfl rfl dL_law_212 rfl ?_
  refine g_aload_n o (q := 214) 0 rfl rfl dL_law_213 rfl ?_
  refine g_iload_n o (q := 215) 3 rfl rfl dL_law_214 rfl ?_
  refine g_iconst o (v := 1) (q := 216) (by decide) dL_law_215 rfl ?_
  refine g_iadd o (q := 217) dL_law_216 rfl ?_
  refine g_scld o (q := 218) hX hbl hbA (j := i + 1) (nI_add i 1) (by omega) (by omega) dL_law_217 rfl ?_
  refine g_cvi o (q := 221) (As := [.int (sc (i + 1))]) (rest := []) (f := some (r, cmb σ' μ)) (K := fun r τ => some (r, τ)) (res := (r, cmb σ' μ)) kv_X4_fire lk_L_13 kL_0 (by decide) rfl rfl rfl (fun r1 τ e => by cases e; exact toC hid (c_X4_fire (MKC μ) _ h1)) dL_law_218 rfl ⟨rfl, rfl, (Nat.le_of_ble_eq_true rfl), (Nat.le_of_ble_eq_true rfl)⟩ (Nat.le_of_ble_eq_true rfl) rfl rfl (fun r1 τ e => ?_)
  cases e
  refine g_aload_n o (q := 222) 2 rfl rfl dL_law_221 rfl ?_
  refine g_aload_n o (q := 223) 0 rfl rfl dL_law_222 rfl ?_
  refine g_iload_n o (q := 224) 3 rfl rfl dL_law_223 rfl ?_
  refine g_iconst o (v := 1) (q := 225) (by decide) dL_law_224 rfl ?_
  refine g_iadd o (q := 226) dL_law_225 rfl ?_
  refine g_scld o (q := 227) hX hbl hbA (j := i + 1) (nI_add i 1) (by omega) (by omega) dL_law_226 rfl ?_
  refine g_cvi o (q := 230) (As := [.int (sc (i + 1))]) (rest := [.int r]) (f := some (r, cmb σ' μ')) (K := fun r τ => some (r, τ)) (res := (r, cmb σ' μ')) kv_X5_fire lk_L_17 kL_50 (by decide) rfl rfl rfl (fun r1 τ e => by cases e; exact toM hid (c_X5_fire (MKM σ') _ h2)) dL_law_227 rfl ⟨rfl, rfl, (Nat.le_of_ble_eq_true rfl), (Nat.le_of_ble_eq_true rfl)⟩ (Nat.le_of_ble_eq_true rfl) rfl rfl (fun r1 τ e => ?_)
  cases e
  refine g_icmp_eq o (tgt := 1376) (q := 233) (A := some ()) (B := none) (res := ()) dL_law_230 (by decide) rfl (if_pos rfl) (fun _ => ?_) (fun e => by cases e)
  exact hk σ' μ' h3
set_option maxHeartbeats 4000000 in
set_option maxRecDepth 100000 in
theorem law_c1 (hc : LC X l b L sc) (hs : Sims Rl) {σ μ : Mem} (hR : Rl σ μ) {i : Nat} (hi : i + 6 ≤ L) (hk : ∀ σ μ : Mem, Rl σ μ → G X (cmb σ μ) 1376 (lawLV X b i) []) : G X (cmb σ μ) 235 (lawLV X b i) [] := by
  obtain ⟨o, hid, hX, hbl, hbA, hL⟩ := hc
  obtain ⟨r, σ', μ', h1, h2, h3⟩ := hs.s1 σ μ (sc (i + 1)) (sc (i + 2)) hR
  refine g_aload_n o (q := 236) 1 rfl rfl dL_law_235 rfl ?_
  refine g_aload_n o (q := 237) 0 rfl rfl dL_law_236 rfl ?_
  refine g_iload_n o (q := 238) 3 rfl rfl dL_law_237 rfl ?_
  refine g_iconst o (v := 1) (q := 239) (by decide) dL_law_238 rfl ?_
  refine g_iadd o (q := 240) dL_law_239 rfl ?_
  refine g_scld o (q := 241) hX hbl hbA (j := i + 1) (nI_add i 1) (by omega) (by omega) dL_law_240 rfl ?_
  refine g_aload_n o (q := 242) 0 rfl rfl dL_law_241 rfl ?_
  refine g_iload_n o (q := 243) 3 rfl rfl dL_law_242 rfl ?_
  refine g_iconst o (v := 2) (q := 244) (by decide) dL_law_243 rfl ?_
  refine g_iadd o (q := 245) dL_law_244 rfl ?_
  refine g_scld o (q := 246) hX hbl hbA (j := i + 2) (nI_add i 2) (by omega) (by omega) dL_law_245 rfl ?_
  refine g_cvi o (q := 249) (As := [.int (sc (i + 1)), .int (sc (i + 2))]) (rest := []) (f := some (r, cmb σ' μ)) (K := fun r τ => some (r, τ)) (res := (r, cmb σ' μ)) kv_X4_scene lk_L_18 kL_0 (by decide) rfl rfl rfl (fun r1 τ e => by cases e; exact toC hid (c_X4_scene (MKC μ) _ _ h1)) dL_law_246 rfl ⟨rfl, rfl, (Nat.le_of_ble_eq_true rfl), (Nat.le_of_ble_eq_true rfl)⟩ (Nat.le_of_ble_eq_true rfl) rfl rfl (fun r1 τ e => ?_)
  cases e
  refine g_aload_n o (q := 250) 2 rfl rfl dL_law_249 rfl ?_
  refine g_aload_n o (q := 251) 0 rfl rfl dL_law_250 rfl ?_
  refine g_iload_n o (q := 252) 3 rfl rfl dL_law_251 rfl ?_
  refine g_iconst o (v := 1) (q := 253) (by decide) dL_law_252 rfl ?_
  refine g_iadd o (q := 254) dL_law_253 rfl ?_
  refine g_scld o (q := 255) hX hbl hbA (j := i + 1) (nI_add i 1) (by omega) (by omega) dL_law_254 rfl ?_
  refine g_aload_n o (q := 256) 0 rfl rfl dL_law_255 rfl ?_
  refine g_iload_n o (q := 257) 3 rfl rfl dL_law_256 rfl ?_
  refine g_iconst o (v := 2) (q := 258) (by decide) dL_law_257 rfl ?_
  refine g_iadd o (q := 259) dL_law_258 rfl ?_
  refine g_scld o (q := 260) hX hbl hbA (j := i + 2) (nI_add i 2) (by omega) (by omega) dL_law_259 rfl ?_
  refine g_cvi o (q := 263) (As := [.int (sc (i + 1)), .int (sc (i + 2))]) (rest := [.int r]) (f := some (r, cmb σ' μ')) (K := fun r τ => some (r, τ)) (res := (r, cmb σ' μ')) kv_X5_scene lk_L_22 kL_50 (by decide) rfl rfl rfl (fun r1 τ e => by cases e; exact toM hid (c_X5_scene (MKM σ') _ _ h2)) dL_law_260 rfl ⟨rfl, rfl, (Nat.le_of_ble_eq_true rfl), (Nat.le_of_ble_eq_true rfl)⟩ (Nat.le_of_ble_eq_true rfl) rfl rfl (fun r1 τ e => ?_)
  cases e
  refine g_icmp_eq o (tgt := 1376) (q := 266) (A := some ()) (B := none) (res := ()) dL_law_263 (by decide) rfl (if_pos rfl) (fun _ => ?_) (fun e => by cases e)
  exact hk σ' μ' h3
set_option maxHeartbeats 4000000 in
set_option maxRecDepth 100000 in
theorem law_c2 (hc : LC X l b L sc) (hs : Sims Rl) {σ μ : Mem} (hR : Rl σ μ) {i : Nat} (hi : i + 6 ≤ L) (hk : ∀ σ μ : Mem, Rl σ μ → G X (cmb σ μ) 1376 (lawLV X b i) []) : G X (cmb σ μ) 268 (lawLV X b i) [] := by
  obtain ⟨o, hid, hX, hbl, hbA, hL⟩ := hc
  obtain ⟨r, σ', μ', h1, h2, h3⟩ := hs.s2 σ μ (sc (i + 1)) hR
  refine g_aload_n o (q := 269) 1 rfl rfl dL_law_268 rfl ?_
  refine g_aload_n o (q := 270) 0 rfl rfl dL_law_269 rfl ?_
  refine g_iload_n o (q := 271) 3 rfl rfl dL_law_270 rfl ?_
  refine g_iconst o (v := 1) (q := 272) (by decide) dL_law_271 rfl ?_
  refine g_iadd o (q := 273) dL_law_272 rfl ?_
  refine g_scld o (q := 274) hX hbl hbA (j := i + 1) (nI_add i 1) (by omega) (by omega) dL_law_273 rfl ?_
  refine g_cvi o (q := 277) (As := [.int (sc (i + 1))]) (rest := []) (f := some (r, cmb σ' μ)) (K := fun r τ => some (r, τ)) (res := (r, cmb σ' μ)) kv_X4_listed lk_L_23 kL_0 (by decide) rfl rfl rfl (fun r1 τ e => by cases e; exact toC hid (c_X4_listed (MKC μ) _ h1)) dL_law_274 rfl ⟨rfl, rfl, (Nat.le_of_ble_eq_true rfl), (Nat.le_of_ble_eq_true rfl)⟩ (Nat.le_of_ble_eq_true rfl) rfl rfl (fun r1 τ e => ?_)
  cases e
  refine g_aload_n o (q := 278) 2 rfl rfl dL_law_277 rfl ?_
  refine g_aload_n o (q := 279) 0 rfl rfl dL_law_278 rfl ?_
  refine g_iload_n o (q := 280) 3 rfl rfl dL_law_279 rfl ?_
  refine g_iconst o (v := 1) (q := 281) (by decide) dL_law_280 rfl ?_
  refine g_iadd o (q := 282) dL_law_281 rfl ?_
  refine g_scld o (q := 283) hX hbl hbA (j := i + 1) (nI_add i 1) (by omega) (by omega) dL_law_282 rfl ?_
  refine g_cvi o (q := 286) (As := [.int (sc (i + 1))]) (rest := [.int r]) (f := some (r, cmb σ' μ')) (K := fun r τ => some (r, τ)) (res := (r, cmb σ' μ')) kv_X5_listed lk_L_26 kL_50 (by decide) rfl rfl rfl (fun r1 τ e => by cases e; exact toM hid (c_X5_listed (MKM σ') _ h2)) dL_law_283 rfl ⟨rfl, rfl, (Nat.le_of_ble_eq_true rfl), (Nat.le_of_ble_eq_true rfl)⟩ (Nat.le_of_ble_eq_true rfl) rfl rfl (fun r1 τ e => ?_)
  cases e
  refine g_icmp_eq o (tgt := 1376) (q := 289) (A := some ()) (B := none) (res := ()) dL_law_286 (by decide) rfl (if_pos rfl) (fun _ => ?_) (fun e => by cases e)
  exact hk σ' μ' h3
set_option maxHeartbeats 4000000 in
set_option maxRecDepth 100000 in
theorem law_c3 (hc : LC X l b L sc) (hs : Sims Rl) {σ μ : Mem} (hR : Rl σ μ) {i : Nat} (hi : i + 6 ≤ L) (hk : ∀ σ μ : Mem, Rl σ μ → G X (cmb σ μ) 1376 (lawLV X b i) []) : G X (cmb σ μ) 291 (lawLV X b i) [] := by
  obtain ⟨o, hid, hX, hbl, hbA, hL⟩ := hc
  obtain ⟨r, σ', μ', h1, h2, h3⟩ := hs.s3 σ μ (sc (i + 1)) (sc (i + 2)) hR
  refine g_aload_n o (q := 292) 1 rfl rfl dL_law_291 rfl ?_
  refine g_aload_n o (q := 293) 0 rfl rfl dL_law_292 rfl ?_
  refine g_iload_n o (q := 294) 3 rfl rfl dL_law_293 rfl ?_
  refine g_iconst o (v := 1) (q := 295) (by decide) dL_law_294 rfl ?_
  refine g_iadd o (q := 296) dL_law_295 rfl ?_
  refine g_scld o (q := 297) hX hbl hbA (j := i + 1) (nI_add i 1) (by omega) (by omega) dL_law_296 rfl ?_
  refine g_aload_n o (q := 298) 0 rfl rfl dL_law_297 rfl ?_
  refine g_iload_n o (q := 299) 3 rfl rfl dL_law_298 rfl ?_
  refine g_iconst o (v := 2) (q := 300) (by decide) dL_law_299 rfl ?_
  refine g_iadd o (q := 301) dL_law_300 rfl ?_
  refine g_scld o (q := 302) hX hbl hbA (j := i + 2) (nI_add i 2) (by omega) (by omega) dL_law_301 rfl ?_
  refine g_cvi o (q := 305) (As := [.int (sc (i + 1)), .int (sc (i + 2))]) (rest := []) (f := some (r, cmb σ' μ)) (K := fun r τ => some (r, τ)) (res := (r, cmb σ' μ)) kv_X4_curtain lk_L_27 kL_0 (by decide) rfl rfl rfl (fun r1 τ e => by cases e; exact toC hid (c_X4_curtain (MKC μ) _ _ h1)) dL_law_302 rfl ⟨rfl, rfl, (Nat.le_of_ble_eq_true rfl), (Nat.le_of_ble_eq_true rfl)⟩ (Nat.le_of_ble_eq_true rfl) rfl rfl (fun r1 τ e => ?_)
  cases e
  refine g_aload_n o (q := 306) 2 rfl rfl dL_law_305 rfl ?_
  refine g_aload_n o (q := 307) 0 rfl rfl dL_law_306 rfl ?_
  refine g_iload_n o (q := 308) 3 rfl rfl dL_law_307 rfl ?_
  refine g_iconst o (v := 1) (q := 309) (by decide) dL_law_308 rfl ?_
  refine g_iadd o (q := 310) dL_law_309 rfl ?_
  refine g_scld o (q := 311) hX hbl hbA (j := i + 1) (nI_add i 1) (by omega) (by omega) dL_law_310 rfl ?_
  refine g_aload_n o (q := 312) 0 rfl rfl dL_law_311 rfl ?_
  refine g_iload_n o (q := 313) 3 rfl rfl dL_law_312 rfl ?_
  refine g_iconst o (v := 2) (q := 314) (by decide) dL_law_313 rfl ?_
  refine g_iadd o (q := 315) dL_law_314 rfl ?_
  refine g_scld o (q := 316) hX hbl hbA (j := i + 2) (nI_add i 2) (by omega) (by omega) dL_law_315 rfl ?_
  refine g_cvi o (q := 319) (As := [.int (sc (i + 1)), .int (sc (i + 2))]) (rest := [.int r]) (f := some (r, cmb σ' μ')) (K := fun r τ => some (r, τ)) (res := (r, cmb σ' μ')) kv_X5_curtain lk_L_30 kL_50 (by decide) rfl rfl rfl (fun r1 τ e => by cases e; exact toM hid (c_X5_curtain (MKM σ') _ _ h2)) dL_law_316 rfl ⟨rfl, rfl, (Nat.le_of_ble_eq_true rfl), (Nat.le_of_ble_eq_true rfl)⟩ (Nat.le_of_ble_eq_true rfl) rfl rfl (fun r1 τ e => ?_)
  cases e
  refine g_icmp_eq o (tgt := 1376) (q := 322) (A := some ()) (B := none) (res := ()) dL_law_319 (by decide) rfl (if_pos rfl) (fun _ => ?_) (fun e => by cases e)
  exact hk σ' μ' h3
set_option maxHeartbeats 4000000 in
set_option maxRecDepth 100000 in
theorem law_c4 (hc : LC X l b L sc) (hs : Sims Rl) {σ μ : Mem} (hR : Rl σ μ) {i : Nat} (hi : i + 6 ≤ L) (hk : ∀ σ μ : Mem, Rl σ μ → G X (cmb σ μ) 1376 (lawLV X b i) []) : G X (cmb σ μ) 324 (lawLV X b i) [] := by
  obtain ⟨o, hid, hX, hbl, hbA, hL⟩ := hc
  obtain ⟨r, σ', μ', h1, h2, h3⟩ := hs.s4 σ μ (sc (i + 1)) (sc (i + 2)) hR
  refine g_aload_n o (q := 325) 1 rfl rfl dL_law_324 rfl ?_
  refine g_aload_n o (q := 326) 0 rfl rfl dL_law_325 rfl ?_
  refine g_iload_n o (q := 327) 3 rfl rfl dL_law_326 rfl ?_
  refine g_iconst o (v := 1) (q := 328) (by decide) dL_law_327 rfl ?_
  refine g_iadd o (q := 329) dL_law_328 rfl ?_
  refine g_scld o (q := 330) hX hbl hbA (j := i + 1) (nI_add i 1) (by omega) (by omega) dL_law_329 rfl ?_
  refine g_aload_n o (q := 331) 0 rfl rfl dL_law_330 rfl ?_
  refine g_iload_n o (q := 332) 3 rfl rfl dL_law_331 rfl ?_
  refine g_iconst o (v := 2) (q := 333) (by decide) dL_law_332 rfl ?_
  refine g_iadd o (q := 334) dL_law_333 rfl ?_
  refine g_scld o (q := 335) hX hbl hbA (j := i + 2) (nI_add i 2) (by omega) (by omega) dL_law_334 rfl ?_
  refine g_cvi o (q := 338) (As := [.int (sc (i + 1)), .int (sc (i + 2))]) (rest := []) (f := some (r, cmb σ' μ)) (K := fun r τ => some (r, τ)) (res := (r, cmb σ' μ)) kv_X4_of lk_L_31 kL_0 (by decide) rfl rfl rfl (fun r1 τ e => by cases e; exact toC hid (c_X4_of (MKC μ) _ _ h1)) dL_law_335 rfl ⟨rfl, rfl, (Nat.le_of_ble_eq_true rfl), (Nat.le_of_ble_eq_true rfl)⟩ (Nat.le_of_ble_eq_true rfl) rfl rfl (fun r1 τ e => ?_)
  cases e
  refine g_aload_n o (q := 339) 2 rfl rfl dL_law_338 rfl ?_
  refine g_aload_n o (q := 340) 0 rfl rfl dL_law_339 rfl ?_
  refine g_iload_n o (q := 341) 3 rfl rfl dL_law_340 rfl ?_
  refine g_iconst o (v := 1) (q := 342) (by decide) dL_law_341 rfl ?_
  refine g_iadd o (q := 343) dL_law_342 rfl ?_
  refine g_scld o (q := 344) hX hbl hbA (j := i + 1) (nI_add i 1) (by omega) (by omega) dL_law_343 rfl ?_
  refine g_aload_n o (q := 345) 0 rfl rfl dL_law_344 rfl ?_
  refine g_iload_n o (q := 346) 3 rfl rfl dL_law_345 rfl ?_
  refine g_iconst o (v := 2) (q := 347) (by decide) dL_law_346 rfl ?_
  refine g_iadd o (q := 348) dL_law_347 rfl ?_
  refine g_scld o (q := 349) hX hbl hbA (j := i + 2) (nI_add i 2) (by omega) (by omega) dL_law_348 rfl ?_
  refine g_cvi o (q := 352) (As := [.int (sc (i + 1)), .int (sc (i + 2))]) (rest := [.int r]) (f := some (r, cmb σ' μ')) (K := fun r τ => some (r, τ)) (res := (r, cmb σ' μ')) kv_X5_of lk_L_34 kL_50 (by decide) rfl rfl rfl (fun r1 τ e => by cases e; exact toM hid (c_X5_of (MKM σ') _ _ h2)) dL_law_349 rfl ⟨rfl, rfl, (Nat.le_of_ble_eq_true rfl), (Nat.le_of_ble_eq_true rfl)⟩ (Nat.le_of_ble_eq_true rfl) rfl rfl (fun r1 τ e => ?_)
  cases e
  refine g_icmp_eq o (tgt := 1376) (q := 355) (A := some ()) (B := none) (res := ()) dL_law_352 (by decide) rfl (if_pos rfl) (fun _ => ?_) (fun e => by cases e)
  exact hk σ' μ' h3
set_option maxHeartbeats 4000000 in
set_option maxRecDepth 100000 in
theorem law_c5 (hc : LC X l b L sc) (hs : Sims Rl) {σ μ : Mem} (hR : Rl σ μ) {i : Nat} (hi : i + 6 ≤ L) (hk : ∀ σ μ : Mem, Rl σ μ → G X (cmb σ μ) 1376 (lawLV X b i) []) : G X (cmb σ μ) 357 (lawLV X b i) [] := by
  obtain ⟨o, hid, hX, hbl, hbA, hL⟩ := hc
  obtain ⟨r, σ', μ', h1, h2, h3⟩ := hs.s5 σ μ (sc (i + 1)) (sc (i + 2)) (sc (i + 3)) hR
  refine g_aload_n o (q := 358) 1 rfl rfl dL_law_357 rfl ?_
  refine g_aload_n o (q := 359) 0 rfl rfl dL_law_358 rfl ?_
  refine g_iload_n o (q := 360) 3 rfl rfl dL_law_359 rfl ?_
  refine g_iconst o (v := 1) (q := 361) (by decide) dL_law_360 rfl ?_
  refine g_iadd o (q := 362) dL_law_361 rfl ?_
  refine g_scld o (q := 363) hX hbl hbA (j := i + 1) (nI_add i 1) (by omega) (by omega) dL_law_362 rfl ?_
  refine g_aload_n o (q := 364) 0 rfl rfl dL_law_363 rfl ?_
  refine g_iload_n o (q := 365) 3 rfl rfl dL_law_364 rfl ?_
  refine g_iconst o (v := 2) (q := 366) (by decide) dL_law_365 rfl ?_
  refine g_iadd o (q := 367) dL_law_366 rfl ?_
  refine g_scld o (q := 368) hX hbl hbA (j := i + 2) (nI_add i 2) (by omega) (by omega) dL_law_367 rfl ?_
  refine g_aload_n o (q := 369) 0 rfl rfl dL_law_368 rfl ?_
  refine g_iload_n o (q := 370) 3 rfl rfl dL_law_369 rfl ?_
  refine g_iconst o (v := 3) (q := 371) (by decide) dL_law_370 rfl ?_
  refine g_iadd o (q := 372) dL_law_371 rfl ?_
  refine g_scld o (q := 373) hX hbl hbA (j := i + 3) (nI_add i 3) (by omega) (by omega) dL_law_372 rfl ?_
  refine g_cvi o (q := 376) (As := [.int (sc (i + 1)), .int (sc (i + 2)), .int (sc (i + 3))]) (rest := []) (f := some (r, cmb σ' μ)) (K := fun r τ => some (r, τ)) (res := (r, cmb σ' μ)) kv_X4_change lk_L_35 kL_0 (by decide) rfl rfl rfl (fun r1 τ e => by cases e; exact toC hid (c_X4_change (MKC μ) _ _ _ h1)) dL_law_373 rfl ⟨rfl, rfl, (Nat.le_of_ble_eq_true rfl), (Nat.le_of_ble_eq_true rfl)⟩ (Nat.le_of_ble_eq_true rfl) rfl rfl (fun r1 τ e => ?_)
  cases e
  refine g_aload_n o (q := 377) 2 rfl rfl dL_law_376 rfl ?_
  refine g_aload_n o (q := 378) 0 rfl rfl dL_law_377 rfl ?_
  refine g_iload_n o (q := 379) 3 rfl rfl dL_law_378 rfl ?_
  refine g_iconst o (v := 1) (q := 380) (by decide) dL_law_379 rfl ?_
  refine g_iadd o (q := 381) dL_law_380 rfl ?_
  refine g_scld o (q := 382) hX hbl hbA (j := i + 1) (nI_add i 1) (by omega) (by omega) dL_law_381 rfl ?_
  refine g_aload_n o (q := 383) 0 rfl rfl dL_law_382 rfl ?_
  refine g_iload_n o (q := 384) 3 rfl rfl dL_law_383 rfl ?_
  refine g_iconst o (v := 2) (q := 385) (by decide) dL_law_384 rfl ?_
  refine g_iadd o (q := 386) dL_law_385 rfl ?_
  refine g_scld o (q := 387) hX hbl hbA (j := i + 2) (nI_add i 2) (by omega) (by omega) dL_law_386 rfl ?_
  refine g_aload_n o (q := 388) 0 rfl rfl dL_law_387 rfl ?_
  refine g_iload_n o (q := 389) 3 rfl rfl dL_law_388 rfl ?_
  refine g_iconst o (v := 3) (q := 390) (by decide) dL_law_389 rfl ?_
  refine g_iadd o (q := 391) dL_law_390 rfl ?_
  refine g_scld o (q := 392) hX hbl hbA (j := i + 3) (nI_add i 3) (by omega) (by omega) dL_law_391 rfl ?_
  refine g_cvi o (q := 395) (As := [.int (sc (i + 1)), .int (sc (i + 2)), .int (sc (i + 3))]) (rest := [.int r]) (f := some (r, cmb σ' μ')) (K := fun r τ => some (r, τ)) (res := (r, cmb σ' μ')) kv_X5_change lk_L_39 kL_50 (by decide) rfl rfl rfl (fun r1 τ e => by cases e; exact toM hid (c_X5_change (MKM σ') _ _ _ h2)) dL_law_392 rfl ⟨rfl, rfl, (Nat.le_of_ble_eq_true rfl), (Nat.le_of_ble_eq_true rfl)⟩ (Nat.le_of_ble_eq_true rfl) rfl rfl (fun r1 τ e => ?_)
  cases e
  refine g_icmp_eq o (tgt := 1376) (q := 398) (A := some ()) (B := none) (res := ()) dL_law_395 (by decide) rfl (if_pos rfl) (fun _ => ?_) (fun e => by cases e)
  exact hk σ' μ' h3
set_option maxHeartbeats 4000000 in
set_option maxRecDepth 100000 in
theorem law_c6 (hc : LC X l b L sc) (hs : Sims Rl) {σ μ : Mem} (hR : Rl σ μ) {i : Nat} (hi : i + 6 ≤ L) (hk : ∀ σ μ : Mem, Rl σ μ → G X (cmb σ μ) 1376 (lawLV X b i) []) : G X (cmb σ μ) 400 (lawLV X b i) [] := by
  obtain ⟨o, hid, hX, hbl, hbA, hL⟩ := hc
  obtain ⟨r, σ', μ', h1, h2, h3⟩ := hs.s6 σ μ (sc (i + 1)) (sc (i + 2)) hR
  refine g_aload_n o (q := 401) 1 rfl rfl dL_law_400 rfl ?_
  refine g_aload_n o (q := 402) 0 rfl rfl dL_law_401 rfl ?_
  refine g_iload_n o (q := 403) 3 rfl rfl dL_law_402 rfl ?_
  refine g_iconst o (v := 1) (q := 404) (by decide) dL_law_403 rfl ?_
  refine g_iadd o (q := 405) dL_law_404 rfl ?_
  refine g_scld o (q := 406) hX hbl hbA (j := i + 1) (nI_add i 1) (by omega) (by omega) dL_law_405 rfl ?_
  refine g_aload_n o (q := 407) 0 rfl rfl dL_law_406 rfl ?_
  refine g_iload_n o (q := 408) 3 rfl rfl dL_law_407 rfl ?_
  refine g_iconst o (v := 2) (q := 409) (by decide) dL_law_408 rfl ?_
  refine g_iadd o (q := 410) dL_law_409 rfl ?_
  refine g_scld o (q := 411) hX hbl hbA (j := i + 2) (nI_add i 2) (by omega) (by omega) dL_law_410 rfl ?_
  refine g_cvi o (q := 414) (As := [.int (sc (i + 1)), .int (sc (i + 2))]) (rest := []) (f := some (r, cmb σ' μ)) (K := fun r τ => some (r, τ)) (res := (r, cmb σ' μ)) kv_X4_pull lk_L_40 kL_0 (by decide) rfl rfl rfl (fun r1 τ e => by cases e; exact toC hid (c_X4_pull (MKC μ) _ _ h1)) dL_law_411 rfl ⟨rfl, rfl, (Nat.le_of_ble_eq_true rfl), (Nat.le_of_ble_eq_true rfl)⟩ (Nat.le_of_ble_eq_true rfl) rfl rfl (fun r1 τ e => ?_)
  cases e
  refine g_aload_n o (q := 415) 2 rfl rfl dL_law_414 rfl ?_
  refine g_aload_n o (q := 416) 0 rfl rfl dL_law_415 rfl ?_
  refine g_iload_n o (q := 417) 3 rfl rfl dL_law_416 rfl ?_
  refine g_iconst o (v := 1) (q := 418) (by decide) dL_law_417 rfl ?_
  refine g_iadd o (q := 419) dL_law_418 rfl ?_
  refine g_scld o (q := 420) hX hbl hbA (j := i + 1) (nI_add i 1) (by omega) (by omega) dL_law_419 rfl ?_
  refine g_aload_n o (q := 421) 0 rfl rfl dL_law_420 rfl ?_
  refine g_iload_n o (q := 422) 3 rfl rfl dL_law_421 rfl ?_
  refine g_iconst o (v := 2) (q := 423) (by decide) dL_law_422 rfl ?_
  refine g_iadd o (q := 424) dL_law_423 rfl ?_
  refine g_scld o (q := 425) hX hbl hbA (j := i + 2) (nI_add i 2) (by omega) (by omega) dL_law_424 rfl ?_
  refine g_cvi o (q := 428) (As := [.int (sc (i + 1)), .int (sc (i + 2))]) (rest := [.int r]) (f := some (r, cmb σ' μ')) (K := fun r τ => some (r, τ)) (res := (r, cmb σ' μ')) kv_X5_pull lk_L_43 kL_50 (by decide) rfl rfl rfl (fun r1 τ e => by cases e; exact toM hid (c_X5_pull (MKM σ') _ _ h2)) dL_law_425 rfl ⟨rfl, rfl, (Nat.le_of_ble_eq_true rfl), (Nat.le_of_ble_eq_true rfl)⟩ (Nat.le_of_ble_eq_true rfl) rfl rfl (fun r1 τ e => ?_)
  cases e
  refine g_icmp_eq o (tgt := 1376) (q := 431) (A := some ()) (B := none) (res := ()) dL_law_428 (by decide) rfl (if_pos rfl) (fun _ => ?_) (fun e => by cases e)
  exact hk σ' μ' h3
set_option maxHeartbeats 4000000 in
set_option maxRecDepth 100000 in
theorem law_c7 (hc : LC X l b L sc) (hs : Sims Rl) {σ μ : Mem} (hR : Rl σ μ) {i : Nat} (hi : i + 6 ≤ L) (hk : ∀ σ μ : Mem, Rl σ μ → G X (cmb σ μ) 1376 (lawLV X b i) []) : G X (cmb σ μ) 433 (lawLV X b i) [] := by
  obtain ⟨o, hid, hX, hbl, hbA, hL⟩ := hc
  obtain ⟨r, σ', μ', h1, h2, h3⟩ := hs.s7 σ μ (sc (i + 1)) hR
  refine g_aload_n o (q := 434) 1 rfl rfl dL_law_433 rfl ?_
  refine g_aload_n o (q := 435) 0 rfl rfl dL_law_434 rfl ?_
  refine g_iload_n o (q := 436) 3 rfl rfl dL_law_435 rfl ?_
  refine g_iconst o (v := 1) (q := 437) (by decide) dL_law_436 rfl ?_
  refine g_iadd o (q := 438) dL_law_437 rfl ?_
  refine g_scld o (q := 439) hX hbl hbA (j := i + 1) (nI_add i 1) (by omega) (by omega) dL_law_438 rfl ?_
  refine g_cvi o (q := 442) (As := [.int (sc (i + 1))]) (rest := []) (f := some (r, cmb σ' μ)) (K := fun r τ => some (r, τ)) (res := (r, cmb σ' μ)) kv_X4_go lk_L_44 kL_0 (by decide) rfl rfl rfl (fun r1 τ e => by cases e; exact toC hid (c_X4_go (MKC μ) _ h1)) dL_law_439 rfl ⟨rfl, rfl, (Nat.le_of_ble_eq_true rfl), (Nat.le_of_ble_eq_true rfl)⟩ (Nat.le_of_ble_eq_true rfl) rfl rfl (fun r1 τ e => ?_)
  cases e
  refine g_aload_n o (q := 443) 2 rfl rfl dL_law_442 rfl ?_
  refine g_aload_n o (q := 444) 0 rfl rfl dL_law_443 rfl ?_
  refine g_iload_n o (q := 445) 3 rfl rfl dL_law_444 rfl ?_
  refine g_iconst o (v := 1) (q := 446) (by decide) dL_law_445 rfl ?_
  refine g_iadd o (q := 447) dL_law_446 rfl ?_
  refine g_scld o (q := 448) hX hbl hbA (j := i + 1) (nI_add i 1) (by omega) (by omega) dL_law_447 rfl ?_
  refine g_cvi o (q := 451) (As := [.int (sc (i + 1))]) (rest := [.int r]) (f := some (r, cmb σ' μ')) (K := fun r τ => some (r, τ)) (res := (r, cmb σ' μ')) kv_X5_go lk_L_47 kL_50 (by decide) rfl rfl rfl (fun r1 τ e => by cases e; exact toM hid (c_X5_go (MKM σ') _ h2)) dL_law_448 rfl ⟨rfl, rfl, (Nat.le_of_ble_eq_true rfl), (Nat.le_of_ble_eq_true rfl)⟩ (Nat.le_of_ble_eq_true rfl) rfl rfl (fun r1 τ e => ?_)
  cases e
  refine g_icmp_eq o (tgt := 1376) (q := 454) (A := some ()) (B := none) (res := ()) dL_law_451 (by decide) rfl (if_pos rfl) (fun _ => ?_) (fun e => by cases e)
  exact hk σ' μ' h3
set_option maxHeartbeats 4000000 in
set_option maxRecDepth 100000 in
theorem law_c8 (hc : LC X l b L sc) (hs : Sims Rl) {σ μ : Mem} (hR : Rl σ μ) {i : Nat} (hi : i + 6 ≤ L) (hk : ∀ σ μ : Mem, Rl σ μ → G X (cmb σ μ) 1376 (lawLV X b i) []) : G X (cmb σ μ) 456 (lawLV X b i) [] := by
  obtain ⟨o, hid, hX, hbl, hbA, hL⟩ := hc
  obtain ⟨r, σ', μ', h1, h2, h3⟩ := hs.s8 σ μ (sc (i + 1)) hR
  refine g_aload_n o (q := 457) 1 rfl rfl dL_law_456 rfl ?_
  refine g_aload_n o (q := 458) 0 rfl rfl dL_law_457 rfl ?_
  refine g_iload_n o (q := 459) 3 rfl rfl dL_law_458 rfl ?_
  refine g_iconst o (v := 1) (q := 460) (by decide) dL_law_459 rfl ?_
  refine g_iadd o (q := 461) dL_law_460 rfl ?_
  refine g_scld o (q := 462) hX hbl hbA (j := i + 1) (nI_add i 1) (by omega) (by omega) dL_law_461 rfl ?_
  refine g_cvi o (q := 465) (As := [.int (sc (i + 1))]) (rest := []) (f := some (r, cmb σ' μ)) (K := fun r τ => some (r, τ)) (res := (r, cmb σ' μ)) kv_X4_now lk_L_48 kL_0 (by decide) rfl rfl rfl (fun r1 τ e => by cases e; exact toC hid (c_X4_now (MKC μ) _ h1)) dL_law_462 rfl ⟨rfl, rfl, (Nat.le_of_ble_eq_true rfl), (Nat.le_of_ble_eq_true rfl)⟩ (Nat.le_of_ble_eq_true rfl) rfl rfl (fun r1 τ e => ?_)
  cases e
  refine g_aload_n o (q := 466) 2 rfl rfl dL_law_465 rfl ?_
  refine g_aload_n o (q := 467) 0 rfl rfl dL_law_466 rfl ?_
  refine g_iload_n o (q := 468) 3 rfl rfl dL_law_467 rfl ?_
  refine g_iconst o (v := 1) (q := 469) (by decide) dL_law_468 rfl ?_
  refine g_iadd o (q := 470) dL_law_469 rfl ?_
  refine g_scld o (q := 471) hX hbl hbA (j := i + 1) (nI_add i 1) (by omega) (by omega) dL_law_470 rfl ?_
  refine g_cvi o (q := 474) (As := [.int (sc (i + 1))]) (rest := [.int r]) (f := some (r, cmb σ' μ')) (K := fun r τ => some (r, τ)) (res := (r, cmb σ' μ')) kv_X5_now lk_L_51 kL_50 (by decide) rfl rfl rfl (fun r1 τ e => by cases e; exact toM hid (c_X5_now (MKM σ') _ h2)) dL_law_471 rfl ⟨rfl, rfl, (Nat.le_of_ble_eq_true rfl), (Nat.le_of_ble_eq_true rfl)⟩ (Nat.le_of_ble_eq_true rfl) rfl rfl (fun r1 τ e => ?_)
  cases e
  refine g_icmp_eq o (tgt := 1376) (q := 477) (A := some ()) (B := none) (res := ()) dL_law_474 (by decide) rfl (if_pos rfl) (fun _ => ?_) (fun e => by cases e)
  exact hk σ' μ' h3
set_option maxHeartbeats 4000000 in
set_option maxRecDepth 100000 in
theorem law_c9 (hc : LC X l b L sc) (hs : Sims Rl) {σ μ : Mem} (hR : Rl σ μ) {i : Nat} (hi : i + 6 ≤ L) (hk : ∀ σ μ : Mem, Rl σ μ → G X (cmb σ μ) 1376 (lawLV X b i) []) : G X (cmb σ μ) 479 (lawLV X b i) [] := by
  obtain ⟨o, hid, hX, hbl, hbA, hL⟩ := hc
  obtain ⟨r, σ', μ', h1, h2, h3⟩ := hs.s9 σ μ (sc (i + 1)) (sc (i + 2)) (sc (i + 3)) hR
  refine g_aload_n o (q := 480) 1 rfl rfl dL_law_479 rfl ?_
  refine g_aload_n o (q := 481) 0 rfl rfl dL_law_480 rfl ?_
  refine g_iload_n o (q := 482) 3 rfl rfl dL_law_481 rfl ?_
  refine g_iconst o (v := 1) (q := 483) (by decide) dL_law_482 rfl ?_
  refine g_iadd o (q := 484) dL_law_483 rfl ?_
  refine g_scld o (q := 485) hX hbl hbA (j := i + 1) (nI_add i 1) (by omega) (by omega) dL_law_484 rfl ?_
  refine g_aload_n o (q := 486) 0 rfl rfl dL_law_485 rfl ?_
  refine g_iload_n o (q := 487) 3 rfl rfl dL_law_486 rfl ?_
  refine g_iconst o (v := 2) (q := 488) (by decide) dL_law_487 rfl ?_
  refine g_iadd o (q := 489) dL_law_488 rfl ?_
  refine g_scld o (q := 490) hX hbl hbA (j := i + 2) (nI_add i 2) (by omega) (by omega) dL_law_489 rfl ?_
  refine g_aload_n o (q := 491) 0 rfl rfl dL_law_490 rfl ?_
  refine g_iload_n o (q := 492) 3 rfl rfl dL_law_491 rfl ?_
  refine g_iconst o (v := 3) (q := 493) (by decide) dL_law_492 rfl ?_
  refine g_iadd o (q := 494) dL_law_493 rfl ?_
  refine g_scld o (q := 495) hX hbl hbA (j := i + 3) (nI_add i 3) (by omega) (by omega) dL_law_494 rfl ?_
  refine g_cvi o (q := 498) (As := [.int (sc (i + 1)), .int (sc (i + 2)), .int (sc (i + 3))]) (rest := []) (f := some (r, cmb σ' μ)) (K := fun r τ => some (r, τ)) (res := (r, cmb σ' μ)) kv_X4_ahead lk_L_52 kL_0 (by decide) rfl rfl rfl (fun r1 τ e => by cases e; exact toC hid (c_X4_ahead (MKC μ) _ _ _ h1)) dL_law_495 rfl ⟨rfl, rfl, (Nat.le_of_ble_eq_true rfl), (Nat.le_of_ble_eq_true rfl)⟩ (Nat.le_of_ble_eq_true rfl) rfl rfl (fun r1 τ e => ?_)
  cases e
  refine g_aload_n o (q := 499) 2 rfl rfl dL_law_498 rfl ?_
  refine g_aload_n o (q := 500) 0 rfl rfl dL_law_499 rfl ?_
  refine g_iload_n o (q := 501) 3 rfl rfl dL_law_500 rfl ?_
  refine g_iconst o (v := 1) (q := 502) (by decide) dL_law_501 rfl ?_
  refine g_iadd o (q := 503) dL_law_502 rfl ?_
  refine g_scld o (q := 504) hX hbl hbA (j := i + 1) (nI_add i 1) (by omega) (by omega) dL_law_503 rfl ?_
  refine g_aload_n o (q := 505) 0 rfl rfl dL_law_504 rfl ?_
  refine g_iload_n o (q := 506) 3 rfl rfl dL_law_505 rfl ?_
  refine g_iconst o (v := 2) (q := 507) (by decide) dL_law_506 rfl ?_
  refine g_iadd o (q := 508) dL_law_507 rfl ?_
  refine g_scld o (q := 509) hX hbl hbA (j := i + 2) (nI_add i 2) (by omega) (by omega) dL_law_508 rfl ?_
  refine g_aload_n o (q := 510) 0 rfl rfl dL_law_509 rfl ?_
  refine g_iload_n o (q := 511) 3 rfl rfl dL_law_510 rfl ?_
  refine g_iconst o (v := 3) (q := 512) (by decide) dL_law_511 rfl ?_
  refine g_iadd o (q := 513) dL_law_512 rfl ?_
  refine g_scld o (q := 514) hX hbl hbA (j := i + 3) (nI_add i 3) (by omega) (by omega) dL_law_513 rfl ?_
  refine g_cvi o (q := 517) (As := [.int (sc (i + 1)), .int (sc (i + 2)), .int (sc (i + 3))]) (rest := [.int r]) (f := some (r, cmb σ' μ')) (K := fun r τ => some (r, τ)) (res := (r, cmb σ' μ')) kv_X5_ahead lk_L_55 kL_50 (by decide) rfl rfl rfl (fun r1 τ e => by cases e; exact toM hid (c_X5_ahead (MKM σ') _ _ _ h2)) dL_law_514 rfl ⟨rfl, rfl, (Nat.le_of_ble_eq_true rfl), (Nat.le_of_ble_eq_true rfl)⟩ (Nat.le_of_ble_eq_true rfl) rfl rfl (fun r1 τ e => ?_)
  cases e
  refine g_icmp_eq o (tgt := 1376) (q := 520) (A := some ()) (B := none) (res := ()) dL_law_517 (by decide) rfl (if_pos rfl) (fun _ => ?_) (fun e => by cases e)
  exact hk σ' μ' h3
set_option maxHeartbeats 4000000 in
set_option maxRecDepth 100000 in
theorem law_c10 (hc : LC X l b L sc) (hs : Sims Rl) {σ μ : Mem} (hR : Rl σ μ) {i : Nat} (hi : i + 6 ≤ L) (hk : ∀ σ μ : Mem, Rl σ μ → G X (cmb σ μ) 1376 (lawLV X b i) []) : G X (cmb σ μ) 522 (lawLV X b i) [] := by
  obtain ⟨o, hid, hX, hbl, hbA, hL⟩ := hc
  obtain ⟨r, σ', μ', h1, h2, h3⟩ := hs.s10 σ μ (sc (i + 1)) hR
  refine g_aload_n o (q := 523) 1 rfl rfl dL_law_522 rfl ?_
  refine g_aload_n o (q := 524) 0 rfl rfl dL_law_523 rfl ?_
  refine g_iload_n o (q := 525) 3 rfl rfl dL_law_524 rfl ?_
  refine g_iconst o (v := 1) (q := 526) (by decide) dL_law_525 rfl ?_
  refine g_iadd o (q := 527) dL_law_526 rfl ?_
  refine g_scld o (q := 528) hX hbl hbA (j := i + 1) (nI_add i 1) (by omega) (by omega) dL_law_527 rfl ?_
  refine g_cvi o (q := 531) (As := [.int (sc (i + 1))]) (rest := []) (f := some (r, cmb σ' μ)) (K := fun r τ => some (r, τ)) (res := (r, cmb σ' μ)) kv_X4_cut lk_L_56 kL_0 (by decide) rfl rfl rfl (fun r1 τ e => by cases e; exact toC hid (c_X4_cut (MKC μ) _ h1)) dL_law_528 rfl ⟨rfl, rfl, (Nat.le_of_ble_eq_true rfl), (Nat.le_of_ble_eq_true rfl)⟩ (Nat.le_of_ble_eq_true rfl) rfl rfl (fun r1 τ e => ?_)
  cases e
  refine g_aload_n o (q := 532) 2 rfl rfl dL_law_531 rfl ?_
  refine g_aload_n o (q := 533) 0 rfl rfl dL_law_532 rfl ?_
  refine g_iload_n o (q := 534) 3 rfl rfl dL_law_533 rfl ?_
  refine g_iconst o (v := 1) (q := 535) (by decide) dL_law_534 rfl ?_
  refine g_iadd o (q := 536) dL_law_535 rfl ?_
  refine g_scld o (q := 537) hX hbl hbA (j := i + 1) (nI_add i 1) (by omega) (by omega) dL_law_536 rfl ?_
  refine g_cvi o (q := 540) (As := [.int (sc (i + 1))]) (rest := [.int r]) (f := some (r, cmb σ' μ')) (K := fun r τ => some (r, τ)) (res := (r, cmb σ' μ')) kv_X5_cut lk_L_59 kL_50 (by decide) rfl rfl rfl (fun r1 τ e => by cases e; exact toM hid (c_X5_cut (MKM σ') _ h2)) dL_law_537 rfl ⟨rfl, rfl, (Nat.le_of_ble_eq_true rfl), (Nat.le_of_ble_eq_true rfl)⟩ (Nat.le_of_ble_eq_true rfl) rfl rfl (fun r1 τ e => ?_)
  cases e
  refine g_icmp_eq o (tgt := 1376) (q := 543) (A := some ()) (B := none) (res := ()) dL_law_540 (by decide) rfl (if_pos rfl) (fun _ => ?_) (fun e => by cases e)
  exact hk σ' μ' h3
set_option maxHeartbeats 4000000 in
set_option maxRecDepth 100000 in
theorem law_c11 (hc : LC X l b L sc) (hs : Sims Rl) {σ μ : Mem} (hR : Rl σ μ) {i : Nat} (hi : i + 6 ≤ L) (hk : ∀ σ μ : Mem, Rl σ μ → G X (cmb σ μ) 1376 (lawLV X b i) []) : G X (cmb σ μ) 545 (lawLV X b i) [] := by
  obtain ⟨o, hid, hX, hbl, hbA, hL⟩ := hc
  obtain ⟨r, σ', μ', h1, h2, h3⟩ := hs.s11 σ μ (sc (i + 1)) hR
  refine g_aload_n o (q := 546) 1 rfl rfl dL_law_545 rfl ?_
  refine g_aload_n o (q := 547) 0 rfl rfl dL_law_546 rfl ?_
  refine g_iload_n o (q := 548) 3 rfl rfl dL_law_547 rfl ?_
  refine g_iconst o (v := 1) (q := 549) (by decide) dL_law_548 rfl ?_
  refine g_iadd o (q := 550) dL_law_549 rfl ?_
  refine g_scld o (q := 551) hX hbl hbA (j := i + 1) (nI_add i 1) (by omega) (by omega) dL_law_550 rfl ?_
  refine g_cvi o (q := 554) (As := [.int (sc (i + 1))]) (rest := []) (f := some (r, cmb σ' μ)) (K := fun r τ => some (r, τ)) (res := (r, cmb σ' μ)) kv_X4_down lk_L_60 kL_0 (by decide) rfl rfl rfl (fun r1 τ e => by cases e; exact toC hid (c_X4_down (MKC μ) _ h1)) dL_law_551 rfl ⟨rfl, rfl, (Nat.le_of_ble_eq_true rfl), (Nat.le_of_ble_eq_true rfl)⟩ (Nat.le_of_ble_eq_true rfl) rfl rfl (fun r1 τ e => ?_)
  cases e
  refine g_aload_n o (q := 555) 2 rfl rfl dL_law_554 rfl ?_
  refine g_aload_n o (q := 556) 0 rfl rfl dL_law_555 rfl ?_
  refine g_iload_n o (q := 557) 3 rfl rfl dL_law_556 rfl ?_
  refine g_iconst o (v := 1) (q := 558) (by decide) dL_law_557 rfl ?_
  refine g_iadd o (q := 559) dL_law_558 rfl ?_
  refine g_scld o (q := 560) hX hbl hbA (j := i + 1) (nI_add i 1) (by omega) (by omega) dL_law_559 rfl ?_
  refine g_cvi o (q := 563) (As := [.int (sc (i + 1))]) (rest := [.int r]) (f := some (r, cmb σ' μ')) (K := fun r τ => some (r, τ)) (res := (r, cmb σ' μ')) kv_X5_down lk_L_63 kL_50 (by decide) rfl rfl rfl (fun r1 τ e => by cases e; exact toM hid (c_X5_down (MKM σ') _ h2)) dL_law_560 rfl ⟨rfl, rfl, (Nat.le_of_ble_eq_true rfl), (Nat.le_of_ble_eq_true rfl)⟩ (Nat.le_of_ble_eq_true rfl) rfl rfl (fun r1 τ e => ?_)
  cases e
  refine g_icmp_eq o (tgt := 1376) (q := 566) (A := some ()) (B := none) (res := ()) dL_law_563 (by decide) rfl (if_pos rfl) (fun _ => ?_) (fun e => by cases e)
  exact hk σ' μ' h3
set_option maxHeartbeats 4000000 in
set_option maxRecDepth 100000 in
theorem law_c12 (hc : LC X l b L sc) (hs : Sims Rl) {σ μ : Mem} (hR : Rl σ μ) {i : Nat} (hi : i + 6 ≤ L) (hk : ∀ σ μ : Mem, Rl σ μ → G X (cmb σ μ) 1376 (lawLV X b i) []) : G X (cmb σ μ) 568 (lawLV X b i) [] := by
  obtain ⟨o, hid, hX, hbl, hbA, hL⟩ := hc
  obtain ⟨r, σ', μ', h1, h2, h3⟩ := hs.s12 σ μ (sc (i + 1)) hR
  refine g_aload_n o (q := 569) 1 rfl rfl dL_law_568 rfl ?_
  refine g_aload_n o (q := 570) 0 rfl rfl dL_law_569 rfl ?_
  refine g_iload_n o (q := 571) 3 rfl rfl dL_law_570 rfl ?_
  refine g_iconst o (v := 1) (q := 572) (by decide) dL_law_571 rfl ?_
  refine g_iadd o (q := 573) dL_law_572 rfl ?_
  refine g_scld o (q := 574) hX hbl hbA (j := i + 1) (nI_add i 1) (by omega) (by omega) dL_law_573 rfl ?_
  refine g_cvi o (q := 577) (As := [.int (sc (i + 1))]) (rest := []) (f := some (r, cmb σ' μ)) (K := fun r τ => some (r, τ)) (res := (r, cmb σ' μ)) kv_X4_up lk_L_64 kL_0 (by decide) rfl rfl rfl (fun r1 τ e => by cases e; exact toC hid (c_X4_up (MKC μ) _ h1)) dL_law_574 rfl ⟨rfl, rfl, (Nat.le_of_ble_eq_true rfl), (Nat.le_of_ble_eq_true rfl)⟩ (Nat.le_of_ble_eq_true rfl) rfl rfl (fun r1 τ e => ?_)
  cases e
  refine g_aload_n o (q := 578) 2 rfl rfl dL_law_577 rfl ?_
  refine g_aload_n o (q := 579) 0 rfl rfl dL_law_578 rfl ?_
  refine g_iload_n o (q := 580) 3 rfl rfl dL_law_579 rfl ?_
  refine g_iconst o (v := 1) (q := 581) (by decide) dL_law_580 rfl ?_
  refine g_iadd o (q := 582) dL_law_581 rfl ?_
  refine g_scld o (q := 583) hX hbl hbA (j := i + 1) (nI_add i 1) (by omega) (by omega) dL_law_582 rfl ?_
  refine g_cvi o (q := 586) (As := [.int (sc (i + 1))]) (rest := [.int r]) (f := some (r, cmb σ' μ')) (K := fun r τ => some (r, τ)) (res := (r, cmb σ' μ')) kv_X5_up lk_L_67 kL_50 (by decide) rfl rfl rfl (fun r1 τ e => by cases e; exact toM hid (c_X5_up (MKM σ') _ h2)) dL_law_583 rfl ⟨rfl, rfl, (Nat.le_of_ble_eq_true rfl), (Nat.le_of_ble_eq_true rfl)⟩ (Nat.le_of_ble_eq_true rfl) rfl rfl (fun r1 τ e => ?_)
  cases e
  refine g_icmp_eq o (tgt := 1376) (q := 589) (A := some ()) (B := none) (res := ()) dL_law_586 (by decide) rfl (if_pos rfl) (fun _ => ?_) (fun e => by cases e)
  exact hk σ' μ' h3
set_option maxHeartbeats 4000000 in
set_option maxRecDepth 100000 in
theorem law_c13 (hc : LC X l b L sc) (hs : Sims Rl) {σ μ : Mem} (hR : Rl σ μ) {i : Nat} (hi : i + 6 ≤ L) (hk : ∀ σ μ : Mem, Rl σ μ → G X (cmb σ μ) 1376 (lawLV X b i) []) : G X (cmb σ μ) 591 (lawLV X b i) [] := by
  obtain ⟨o, hid, hX, hbl, hbA, hL⟩ := hc
  obtain ⟨r, σ', μ', h1, h2, h3⟩ := hs.s13 σ μ (sc (i + 1)) (sc (i + 2)) hR
  refine g_aload_n o (q := 592) 1 rfl rfl dL_law_591 rfl ?_
  refine g_aload_n o (q := 593) 0 rfl rfl dL_law_592 rfl ?_
  refine g_iload_n o (q := 594) 3 rfl rfl dL_law_593 rfl ?_
  refine g_iconst o (v := 1) (q := 595) (by decide) dL_law_594 rfl ?_
  refine g_iadd o (q := 596) dL_law_595 rfl ?_
  refine g_scld o (q := 597) hX hbl hbA (j := i + 1) (nI_add i 1) (by omega) (by omega) dL_law_596 rfl ?_
  refine g_aload_n o (q := 598) 0 rfl rfl dL_law_597 rfl ?_
  refine g_iload_n o (q := 599) 3 rfl rfl dL_law_598 rfl ?_
  refine g_iconst o (v := 2) (q := 600) (by decide) dL_law_599 rfl ?_
  refine g_iadd o (q := 601) dL_law_600 rfl ?_
  refine g_scld o (q := 602) hX hbl hbA (j := i + 2) (nI_add i 2) (by omega) (by omega) dL_law_601 rfl ?_
  refine g_cvi o (q := 605) (As := [.int (sc (i + 1)), .int (sc (i + 2))]) (rest := []) (f := some (r, cmb σ' μ)) (K := fun r τ => some (r, τ)) (res := (r, cmb σ' μ)) kv_X4_weary lk_L_68 kL_0 (by decide) rfl rfl rfl (fun r1 τ e => by cases e; exact toC hid (c_X4_weary (MKC μ) _ _ h1)) dL_law_602 rfl ⟨rfl, rfl, (Nat.le_of_ble_eq_true rfl), (Nat.le_of_ble_eq_true rfl)⟩ (Nat.le_of_ble_eq_true rfl) rfl rfl (fun r1 τ e => ?_)
  cases e
  refine g_aload_n o (q := 606) 2 rfl rfl dL_law_605 rfl ?_
  refine g_aload_n o (q := 607) 0 rfl rfl dL_law_606 rfl ?_
  refine g_iload_n o (q := 608) 3 rfl rfl dL_law_607 rfl ?_
  refine g_iconst o (v := 1) (q := 609) (by decide) dL_law_608 rfl ?_
  refine g_iadd o (q := 610) dL_law_609 rfl ?_
  refine g_scld o (q := 611) hX hbl hbA (j := i + 1) (nI_add i 1) (by omega) (by omega) dL_law_610 rfl ?_
  refine g_aload_n o (q := 612) 0 rfl rfl dL_law_611 rfl ?_
  refine g_iload_n o (q := 613) 3 rfl rfl dL_law_612 rfl ?_
  refine g_iconst o (v := 2) (q := 614) (by decide) dL_law_613 rfl ?_
  refine g_iadd o (q := 615) dL_law_614 rfl ?_
  refine g_scld o (q := 616) hX hbl hbA (j := i + 2) (nI_add i 2) (by omega) (by omega) dL_law_615 rfl ?_
  refine g_cvi o (q := 619) (As := [.int (sc (i + 1)), .int (sc (i + 2))]) (rest := [.int r]) (f := some (r, cmb σ' μ')) (K := fun r τ => some (r, τ)) (res := (r, cmb σ' μ')) kv_X5_weary lk_L_71 kL_50 (by decide) rfl rfl rfl (fun r1 τ e => by cases e; exact toM hid (c_X5_weary (MKM σ') _ _ h2)) dL_law_616 rfl ⟨rfl, rfl, (Nat.le_of_ble_eq_true rfl), (Nat.le_of_ble_eq_true rfl)⟩ (Nat.le_of_ble_eq_true rfl) rfl rfl (fun r1 τ e => ?_)
  cases e
  refine g_icmp_eq o (tgt := 1376) (q := 622) (A := some ()) (B := none) (res := ()) dL_law_619 (by decide) rfl (if_pos rfl) (fun _ => ?_) (fun e => by cases e)
  exact hk σ' μ' h3
set_option maxHeartbeats 4000000 in
set_option maxRecDepth 100000 in
theorem law_c14 (hc : LC X l b L sc) (hs : Sims Rl) {σ μ : Mem} (hR : Rl σ μ) {i : Nat} (hi : i + 6 ≤ L) (hk : ∀ σ μ : Mem, Rl σ μ → G X (cmb σ μ) 1376 (lawLV X b i) []) : G X (cmb σ μ) 624 (lawLV X b i) [] := by
  obtain ⟨o, hid, hX, hbl, hbA, hL⟩ := hc
  obtain ⟨r, σ', μ', h1, h2, h3⟩ := hs.s14 σ μ (sc (i + 1)) hR
  refine g_aload_n o (q := 625) 1 rfl rfl dL_law_624 rfl ?_
  refine g_aload_n o (q := 626) 0 rfl rfl dL_law_625 rfl ?_
  refine g_iload_n o (q := 627) 3 rfl rfl dL_law_626 rfl ?_
  refine g_iconst o (v := 1) (q := 628) (by decide) dL_law_627 rfl ?_
  refine g_iadd o (q := 629) dL_law_628 rfl ?_
  refine g_scld o (q := 630) hX hbl hbA (j := i + 1) (nI_add i 1) (by omega) (by omega) dL_law_629 rfl ?_
  refine g_cvi o (q := 633) (As := [.int (sc (i + 1))]) (rest := []) (f := some (r, cmb σ' μ)) (K := fun r τ => some (r, τ)) (res := (r, cmb σ' μ)) kv_X4_saved lk_L_72 kL_0 (by decide) rfl rfl rfl (fun r1 τ e => by cases e; exact toC hid (c_X4_saved (MKC μ) _ h1)) dL_law_630 rfl ⟨rfl, rfl, (Nat.le_of_ble_eq_true rfl), (Nat.le_of_ble_eq_true rfl)⟩ (Nat.le_of_ble_eq_true rfl) rfl rfl (fun r1 τ e => ?_)
  cases e
  refine g_aload_n o (q := 634) 2 rfl rfl dL_law_633 rfl ?_
  refine g_aload_n o (q := 635) 0 rfl rfl dL_law_634 rfl ?_
  refine g_iload_n o (q := 636) 3 rfl rfl dL_law_635 rfl ?_
  refine g_iconst o (v := 1) (q := 637) (by decide) dL_law_636 rfl ?_
  refine g_iadd o (q := 638) dL_law_637 rfl ?_
  refine g_scld o (q := 639) hX hbl hbA (j := i + 1) (nI_add i 1) (by omega) (by omega) dL_law_638 rfl ?_
  refine g_cvi o (q := 642) (As := [.int (sc (i + 1))]) (rest := [.int r]) (f := some (r, cmb σ' μ')) (K := fun r τ => some (r, τ)) (res := (r, cmb σ' μ')) kv_X5_saved lk_L_75 kL_50 (by decide) rfl rfl rfl (fun r1 τ e => by cases e; exact toM hid (c_X5_saved (MKM σ') _ h2)) dL_law_639 rfl ⟨rfl, rfl, (Nat.le_of_ble_eq_true rfl), (Nat.le_of_ble_eq_true rfl)⟩ (Nat.le_of_ble_eq_true rfl) rfl rfl (fun r1 τ e => ?_)
  cases e
  refine g_icmp_eq o (tgt := 1376) (q := 645) (A := some ()) (B := none) (res := ()) dL_law_642 (by decide) rfl (if_pos rfl) (fun _ => ?_) (fun e => by cases e)
  exact hk σ' μ' h3
set_option maxHeartbeats 4000000 in
set_option maxRecDepth 100000 in
theorem law_c15 (hc : LC X l b L sc) (hs : Sims Rl) {σ μ : Mem} (hR : Rl σ μ) {i : Nat} (hi : i + 6 ≤ L) (hk : ∀ σ μ : Mem, Rl σ μ → G X (cmb σ μ) 1376 (lawLV X b i) []) : G X (cmb σ μ) 647 (lawLV X b i) [] := by
  obtain ⟨o, hid, hX, hbl, hbA, hL⟩ := hc
  obtain ⟨r, σ', μ', h1, h2, h3⟩ := hs.s15 σ μ (sc (i + 1)) (sc (i + 2)) hR
  refine g_aload_n o (q := 648) 1 rfl rfl dL_law_647 rfl ?_
  refine g_aload_n o (q := 649) 0 rfl rfl dL_law_648 rfl ?_
  refine g_iload_n o (q := 650) 3 rfl rfl dL_law_649 rfl ?_
  refine g_iconst o (v := 1) (q := 651) (by decide) dL_law_650 rfl ?_
  refine g_iadd o (q := 652) dL_law_651 rfl ?_
  refine g_scld o (q := 653) hX hbl hbA (j := i + 1) (nI_add i 1) (by omega) (by omega) dL_law_652 rfl ?_
  refine g_aload_n o (q := 654) 0 rfl rfl dL_law_653 rfl ?_
  refine g_iload_n o (q := 655) 3 rfl rfl dL_law_654 rfl ?_
  refine g_iconst o (v := 2) (q := 656) (by decide) dL_law_655 rfl ?_
  refine g_iadd o (q := 657) dL_law_656 rfl ?_
  refine g_scld o (q := 658) hX hbl hbA (j := i + 2) (nI_add i 2) (by omega) (by omega) dL_law_657 rfl ?_
  refine g_cvi o (q := 661) (As := [.int (sc (i + 1)), .int (sc (i + 2))]) (rest := []) (f := some (r, cmb σ' μ)) (K := fun r τ => some (r, τ)) (res := (r, cmb σ' μ)) kv_X4_sceneFor lk_L_76 kL_0 (by decide) rfl rfl rfl (fun r1 τ e => by cases e; exact toC hid (c_X4_sceneFor (MKC μ) _ _ h1)) dL_law_658 rfl ⟨rfl, rfl, (Nat.le_of_ble_eq_true rfl), (Nat.le_of_ble_eq_true rfl)⟩ (Nat.le_of_ble_eq_true rfl) rfl rfl (fun r1 τ e => ?_)
  cases e
  refine g_aload_n o (q := 662) 2 rfl rfl dL_law_661 rfl ?_
  refine g_aload_n o (q := 663) 0 rfl rfl dL_law_662 rfl ?_
  refine g_iload_n o (q := 664) 3 rfl rfl dL_law_663 rfl ?_
  refine g_iconst o (v := 1) (q := 665) (by decide) dL_law_664 rfl ?_
  refine g_iadd o (q := 666) dL_law_665 rfl ?_
  refine g_scld o (q := 667) hX hbl hbA (j := i + 1) (nI_add i 1) (by omega) (by omega) dL_law_666 rfl ?_
  refine g_aload_n o (q := 668) 0 rfl rfl dL_law_667 rfl ?_
  refine g_iload_n o (q := 669) 3 rfl rfl dL_law_668 rfl ?_
  refine g_iconst o (v := 2) (q := 670) (by decide) dL_law_669 rfl ?_
  refine g_iadd o (q := 671) dL_law_670 rfl ?_
  refine g_scld o (q := 672) hX hbl hbA (j := i + 2) (nI_add i 2) (by omega) (by omega) dL_law_671 rfl ?_
  refine g_cvi o (q := 675) (As := [.int (sc (i + 1)), .int (sc (i + 2))]) (rest := [.int r]) (f := some (r, cmb σ' μ')) (K := fun r τ => some (r, τ)) (res := (r, cmb σ' μ')) kv_X5_sceneFor lk_L_79 kL_50 (by decide) rfl rfl rfl (fun r1 τ e => by cases e; exact toM hid (c_X5_sceneFor (MKM σ') _ _ h2)) dL_law_672 rfl ⟨rfl, rfl, (Nat.le_of_ble_eq_true rfl), (Nat.le_of_ble_eq_true rfl)⟩ (Nat.le_of_ble_eq_true rfl) rfl rfl (fun r1 τ e => ?_)
  cases e
  refine g_icmp_eq o (tgt := 1376) (q := 678) (A := some ()) (B := none) (res := ()) dL_law_675 (by decide) rfl (if_pos rfl) (fun _ => ?_) (fun e => by cases e)
  exact hk σ' μ' h3
set_option maxHeartbeats 4000000 in
set_option maxRecDepth 100000 in
theorem law_c16 (hc : LC X l b L sc) (hs : Sims Rl) {σ μ : Mem} (hR : Rl σ μ) {i : Nat} (hi : i + 6 ≤ L) (hk : ∀ σ μ : Mem, Rl σ μ → G X (cmb σ μ) 1376 (lawLV X b i) []) : G X (cmb σ μ) 680 (lawLV X b i) [] := by
  obtain ⟨o, hid, hX, hbl, hbA, hL⟩ := hc
  obtain ⟨r, σ', μ', h1, h2, h3⟩ := hs.s16 σ μ (sc (i + 1)) (sc (i + 2)) hR
  refine g_aload_n o (q := 681) 1 rfl rfl dL_law_680 rfl ?_
  refine g_aload_n o (q := 682) 0 rfl rfl dL_law_681 rfl ?_
  refine g_iload_n o (q := 683) 3 rfl rfl dL_law_682 rfl ?_
  refine g_iconst o (v := 1) (q := 684) (by decide) dL_law_683 rfl ?_
  refine g_iadd o (q := 685) dL_law_684 rfl ?_
  refine g_scld o (q := 686) hX hbl hbA (j := i + 1) (nI_add i 1) (by omega) (by omega) dL_law_685 rfl ?_
  refine g_aload_n o (q := 687) 0 rfl rfl dL_law_686 rfl ?_
  refine g_iload_n o (q := 688) 3 rfl rfl dL_law_687 rfl ?_
  refine g_iconst o (v := 2) (q := 689) (by decide) dL_law_688 rfl ?_
  refine g_iadd o (q := 690) dL_law_689 rfl ?_
  refine g_scld o (q := 691) hX hbl hbA (j := i + 2) (nI_add i 2) (by omega) (by omega) dL_law_690 rfl ?_
  refine g_cvi o (q := 694) (As := [.int (sc (i + 1)), .int (sc (i + 2))]) (rest := []) (f := some (r, cmb σ' μ)) (K := fun r τ => some (r, τ)) (res := (r, cmb σ' μ)) kv_X4_kindFor lk_L_80 kL_0 (by decide) rfl rfl rfl (fun r1 τ e => by cases e; exact toC hid (c_X4_kindFor (MKC μ) _ _ h1)) dL_law_691 rfl ⟨rfl, rfl, (Nat.le_of_ble_eq_true rfl), (Nat.le_of_ble_eq_true rfl)⟩ (Nat.le_of_ble_eq_true rfl) rfl rfl (fun r1 τ e => ?_)
  cases e
  refine g_aload_n o (q := 695) 2 rfl rfl dL_law_694 rfl ?_
  refine g_aload_n o (q := 696) 0 rfl rfl dL_law_695 rfl ?_
  refine g_iload_n o (q := 697) 3 rfl rfl dL_law_696 rfl ?_
  refine g_iconst o (v := 1) (q := 698) (by decide) dL_law_697 rfl ?_
  refine g_iadd o (q := 699) dL_law_698 rfl ?_
  refine g_scld o (q := 700) hX hbl hbA (j := i + 1) (nI_add i 1) (by omega) (by omega) dL_law_699 rfl ?_
  refine g_aload_n o (q := 701) 0 rfl rfl dL_law_700 rfl ?_
  refine g_iload_n o (q := 702) 3 rfl rfl dL_law_701 rfl ?_
  refine g_iconst o (v := 2) (q := 703) (by decide) dL_law_702 rfl ?_
  refine g_iadd o (q := 704) dL_law_703 rfl ?_
  refine g_scld o (q := 705) hX hbl hbA (j := i + 2) (nI_add i 2) (by omega) (by omega) dL_law_704 rfl ?_
  refine g_cvi o (q := 708) (As := [.int (sc (i + 1)), .int (sc (i + 2))]) (rest := [.int r]) (f := some (r, cmb σ' μ')) (K := fun r τ => some (r, τ)) (res := (r, cmb σ' μ')) kv_X5_kindFor lk_L_83 kL_50 (by decide) rfl rfl rfl (fun r1 τ e => by cases e; exact toM hid (c_X5_kindFor (MKM σ') _ _ h2)) dL_law_705 rfl ⟨rfl, rfl, (Nat.le_of_ble_eq_true rfl), (Nat.le_of_ble_eq_true rfl)⟩ (Nat.le_of_ble_eq_true rfl) rfl rfl (fun r1 τ e => ?_)
  cases e
  refine g_icmp_eq o (tgt := 1376) (q := 711) (A := some ()) (B := none) (res := ()) dL_law_708 (by decide) rfl (if_pos rfl) (fun _ => ?_) (fun e => by cases e)
  exact hk σ' μ' h3
set_option maxHeartbeats 4000000 in
set_option maxRecDepth 100000 in
theorem law_c17 (hc : LC X l b L sc) (hs : Sims Rl) {σ μ : Mem} (hR : Rl σ μ) {i : Nat} (hi : i + 6 ≤ L) (hk : ∀ σ μ : Mem, Rl σ μ → G X (cmb σ μ) 1376 (lawLV X b i) []) : G X (cmb σ μ) 713 (lawLV X b i) [] := by
  obtain ⟨o, hid, hX, hbl, hbA, hL⟩ := hc
  obtain ⟨r, σ', μ', h1, h2, h3⟩ := hs.s17 σ μ (sc (i + 1)) (sc (i + 2)) hR
  refine g_aload_n o (q := 714) 1 rfl rfl dL_law_713 rfl ?_
  refine g_aload_n o (q := 715) 0 rfl rfl dL_law_714 rfl ?_
  refine g_iload_n o (q := 716) 3 rfl rfl dL_law_715 rfl ?_
  refine g_iconst o (v := 1) (q := 717) (by decide) dL_law_716 rfl ?_
  refine g_iadd o (q := 718) dL_law_717 rfl ?_
  refine g_scld o (q := 719) hX hbl hbA (j := i + 1) (nI_add i 1) (by omega) (by omega) dL_law_718 rfl ?_
  refine g_aload_n o (q := 720) 0 rfl rfl dL_law_719 rfl ?_
  refine g_iload_n o (q := 721) 3 rfl rfl dL_law_720 rfl ?_
  refine g_iconst o (v := 2) (q := 722) (by decide) dL_law_721 rfl ?_
  refine g_iadd o (q := 723) dL_law_722 rfl ?_
  refine g_scld o (q := 724) hX hbl hbA (j := i + 2) (nI_add i 2) (by omega) (by omega) dL_law_723 rfl ?_
  refine g_cvi o (q := 727) (As := [.int (sc (i + 1)), .int (sc (i + 2))]) (rest := []) (f := some (r, cmb σ' μ)) (K := fun r τ => some (r, τ)) (res := (r, cmb σ' μ)) kv_X4_moodFor lk_L_84 kL_0 (by decide) rfl rfl rfl (fun r1 τ e => by cases e; exact toC hid (c_X4_moodFor (MKC μ) _ _ h1)) dL_law_724 rfl ⟨rfl, rfl, (Nat.le_of_ble_eq_true rfl), (Nat.le_of_ble_eq_true rfl)⟩ (Nat.le_of_ble_eq_true rfl) rfl rfl (fun r1 τ e => ?_)
  cases e
  refine g_aload_n o (q := 728) 2 rfl rfl dL_law_727 rfl ?_
  refine g_aload_n o (q := 729) 0 rfl rfl dL_law_728 rfl ?_
  refine g_iload_n o (q := 730) 3 rfl rfl dL_law_729 rfl ?_
  refine g_iconst o (v := 1) (q := 731) (by decide) dL_law_730 rfl ?_
  refine g_iadd o (q := 732) dL_law_731 rfl ?_
  refine g_scld o (q := 733) hX hbl hbA (j := i + 1) (nI_add i 1) (by omega) (by omega) dL_law_732 rfl ?_
  refine g_aload_n o (q := 734) 0 rfl rfl dL_law_733 rfl ?_
  refine g_iload_n o (q := 735) 3 rfl rfl dL_law_734 rfl ?_
  refine g_iconst o (v := 2) (q := 736) (by decide) dL_law_735 rfl ?_
  refine g_iadd o (q := 737) dL_law_736 rfl ?_
  refine g_scld o (q := 738) hX hbl hbA (j := i + 2) (nI_add i 2) (by omega) (by omega) dL_law_737 rfl ?_
  refine g_cvi o (q := 741) (As := [.int (sc (i + 1)), .int (sc (i + 2))]) (rest := [.int r]) (f := some (r, cmb σ' μ')) (K := fun r τ => some (r, τ)) (res := (r, cmb σ' μ')) kv_X5_moodFor lk_L_87 kL_50 (by decide) rfl rfl rfl (fun r1 τ e => by cases e; exact toM hid (c_X5_moodFor (MKM σ') _ _ h2)) dL_law_738 rfl ⟨rfl, rfl, (Nat.le_of_ble_eq_true rfl), (Nat.le_of_ble_eq_true rfl)⟩ (Nat.le_of_ble_eq_true rfl) rfl rfl (fun r1 τ e => ?_)
  cases e
  refine g_icmp_eq o (tgt := 1376) (q := 744) (A := some ()) (B := none) (res := ()) dL_law_741 (by decide) rfl (if_pos rfl) (fun _ => ?_) (fun e => by cases e)
  exact hk σ' μ' h3
set_option maxHeartbeats 4000000 in
set_option maxRecDepth 100000 in
theorem law_c18 (hc : LC X l b L sc) (hs : Sims Rl) {σ μ : Mem} (hR : Rl σ μ) {i : Nat} (hi : i + 6 ≤ L) (hk : ∀ σ μ : Mem, Rl σ μ → G X (cmb σ μ) 1376 (lawLV X b i) []) : G X (cmb σ μ) 746 (lawLV X b i) [] := by
  obtain ⟨o, hid, hX, hbl, hbA, hL⟩ := hc
  obtain ⟨r, σ', μ', h1, h2, h3⟩ := hs.s18 σ μ (sc (i + 1)) (sc (i + 2)) hR
  refine g_aload_n o (q := 747) 1 rfl rfl dL_law_746 rfl ?_
  refine g_aload_n o (q := 748) 0 rfl rfl dL_law_747 rfl ?_
  refine g_iload_n o (q := 749) 3 rfl rfl dL_law_748 rfl ?_
  refine g_iconst o (v := 1) (q := 750) (by decide) dL_law_749 rfl ?_
  refine g_iadd o (q := 751) dL_law_750 rfl ?_
  refine g_scld o (q := 752) hX hbl hbA (j := i + 1) (nI_add i 1) (by omega) (by omega) dL_law_751 rfl ?_
  refine g_aload_n o (q := 753) 0 rfl rfl dL_law_752 rfl ?_
  refine g_iload_n o (q := 754) 3 rfl rfl dL_law_753 rfl ?_
  refine g_iconst o (v := 2) (q := 755) (by decide) dL_law_754 rfl ?_
  refine g_iadd o (q := 756) dL_law_755 rfl ?_
  refine g_scld o (q := 757) hX hbl hbA (j := i + 2) (nI_add i 2) (by omega) (by omega) dL_law_756 rfl ?_
  refine g_cvi o (q := 760) (As := [.int (sc (i + 1)), .int (sc (i + 2))]) (rest := []) (f := some (r, cmb σ' μ)) (K := fun r τ => some (r, τ)) (res := (r, cmb σ' μ)) kv_X4_handsFor lk_L_88 kL_0 (by decide) rfl rfl rfl (fun r1 τ e => by cases e; exact toC hid (c_X4_handsFor (MKC μ) _ _ h1)) dL_law_757 rfl ⟨rfl, rfl, (Nat.le_of_ble_eq_true rfl), (Nat.le_of_ble_eq_true rfl)⟩ (Nat.le_of_ble_eq_true rfl) rfl rfl (fun r1 τ e => ?_)
  cases e
  refine g_aload_n o (q := 761) 2 rfl rfl dL_law_760 rfl ?_
  refine g_aload_n o (q := 762) 0 rfl rfl dL_law_761 rfl ?_
  refine g_iload_n o (q := 763) 3 rfl rfl dL_law_762 rfl ?_
  refine g_iconst o (v := 1) (q := 764) (by decide) dL_law_763 rfl ?_
  refine g_iadd o (q := 765) dL_law_764 rfl ?_
  refine g_scld o (q := 766) hX hbl hbA (j := i + 1) (nI_add i 1) (by omega) (by omega) dL_law_765 rfl ?_
  refine g_aload_n o (q := 767) 0 rfl rfl dL_law_766 rfl ?_
  refine g_iload_n o (q := 768) 3 rfl rfl dL_law_767 rfl ?_
  refine g_iconst o (v := 2) (q := 769) (by decide) dL_law_768 rfl ?_
  refine g_iadd o (q := 770) dL_law_769 rfl ?_
  refine g_scld o (q := 771) hX hbl hbA (j := i + 2) (nI_add i 2) (by omega) (by omega) dL_law_770 rfl ?_
  refine g_cvi o (q := 774) (As := [.int (sc (i + 1)), .int (sc (i + 2))]) (rest := [.int r]) (f := some (r, cmb σ' μ')) (K := fun r τ => some (r, τ)) (res := (r, cmb σ' μ')) kv_X5_handsFor lk_L_91 kL_50 (by decide) rfl rfl rfl (fun r1 τ e => by cases e; exact toM hid (c_X5_handsFor (MKM σ') _ _ h2)) dL_law_771 rfl ⟨rfl, rfl, (Nat.le_of_ble_eq_true rfl), (Nat.le_of_ble_eq_true rfl)⟩ (Nat.le_of_ble_eq_true rfl) rfl rfl (fun r1 τ e => ?_)
  cases e
  refine g_icmp_eq o (tgt := 1376) (q := 777) (A := some ()) (B := none) (res := ()) dL_law_774 (by decide) rfl (if_pos rfl) (fun _ => ?_) (fun e => by cases e)
  exact hk σ' μ' h3
set_option maxHeartbeats 4000000 in
set_option maxRecDepth 100000 in
theorem law_c19 (hc : LC X l b L sc) (hs : Sims Rl) {σ μ : Mem} (hR : Rl σ μ) {i : Nat} (hi : i + 6 ≤ L) (hk : ∀ σ μ : Mem, Rl σ μ → G X (cmb σ μ) 1376 (lawLV X b i) []) : G X (cmb σ μ) 779 (lawLV X b i) [] := by
  obtain ⟨o, hid, hX, hbl, hbA, hL⟩ := hc
  obtain ⟨r, σ', μ', h1, h2, h3⟩ := hs.s19 σ μ (sc (i + 1)) hR
  refine g_aload_n o (q := 780) 1 rfl rfl dL_law_779 rfl ?_
  refine g_aload_n o (q := 781) 0 rfl rfl dL_law_780 rfl ?_
  refine g_iload_n o (q := 782) 3 rfl rfl dL_law_781 rfl ?_
  refine g_iconst o (v := 1) (q := 783) (by decide) dL_law_782 rfl ?_
  refine g_iadd o (q := 784) dL_law_783 rfl ?_
  refine g_scld o (q := 785) hX hbl hbA (j := i + 1) (nI_add i 1) (by omega) (by omega) dL_law_784 rfl ?_
  refine g_cvi o (q := 788) (As := [.int (sc (i + 1))]) (rest := []) (f := some (r, cmb σ' μ)) (K := fun r τ => some (r, τ)) (res := (r, cmb σ' μ)) kv_X4_tie lk_L_92 kL_0 (by decide) rfl rfl rfl (fun r1 τ e => by cases e; exact toC hid (c_X4_tie (MKC μ) _ h1)) dL_law_785 rfl ⟨rfl, rfl, (Nat.le_of_ble_eq_true rfl), (Nat.le_of_ble_eq_true rfl)⟩ (Nat.le_of_ble_eq_true rfl) rfl rfl (fun r1 τ e => ?_)
  cases e
  refine g_aload_n o (q := 789) 2 rfl rfl dL_law_788 rfl ?_
  refine g_aload_n o (q := 790) 0 rfl rfl dL_law_789 rfl ?_
  refine g_iload_n o (q := 791) 3 rfl rfl dL_law_790 rfl ?_
  refine g_iconst o (v := 1) (q := 792) (by decide) dL_law_791 rfl ?_
  refine g_iadd o (q := 793) dL_law_792 rfl ?_
  refine g_scld o (q := 794) hX hbl hbA (j := i + 1) (nI_add i 1) (by omega) (by omega) dL_law_793 rfl ?_
  refine g_cvi o (q := 797) (As := [.int (sc (i + 1))]) (rest := [.int r]) (f := some (r, cmb σ' μ')) (K := fun r τ => some (r, τ)) (res := (r, cmb σ' μ')) kv_X5_tie lk_L_95 kL_50 (by decide) rfl rfl rfl (fun r1 τ e => by cases e; exact toM hid (c_X5_tie (MKM σ') _ h2)) dL_law_794 rfl ⟨rfl, rfl, (Nat.le_of_ble_eq_true rfl), (Nat.le_of_ble_eq_true rfl)⟩ (Nat.le_of_ble_eq_true rfl) rfl rfl (fun r1 τ e => ?_)
  cases e
  refine g_icmp_eq o (tgt := 1376) (q := 800) (A := some ()) (B := none) (res := ()) dL_law_797 (by decide) rfl (if_pos rfl) (fun _ => ?_) (fun e => by cases e)
  exact hk σ' μ' h3
set_option maxHeartbeats 4000000 in
set_option maxRecDepth 100000 in
theorem law_c20 (hc : LC X l b L sc) (hs : Sims Rl) {σ μ : Mem} (hR : Rl σ μ) {i : Nat} (hi : i + 6 ≤ L) (hk : ∀ σ μ : Mem, Rl σ μ → G X (cmb σ μ) 1376 (lawLV X b i) []) : G X (cmb σ μ) 802 (lawLV X b i) [] := by
  obtain ⟨o, hid, hX, hbl, hbA, hL⟩ := hc
  obtain ⟨r, σ', μ', h1, h2, h3⟩ := hs.s20 σ μ  hR
  refine g_aload_n o (q := 803) 1 rfl rfl dL_law_802 rfl ?_
  refine g_cvi o (q := 806) (As := []) (rest := []) (f := some (r, cmb σ' μ)) (K := fun r τ => some (r, τ)) (res := (r, cmb σ' μ)) kv_X4_please lk_L_96 kL_0 (by decide) rfl rfl rfl (fun r1 τ e => by cases e; exact toC hid (c_X4_please (MKC μ)  h1)) dL_law_803 rfl ⟨rfl, rfl, (Nat.le_of_ble_eq_true rfl), (Nat.le_of_ble_eq_true rfl)⟩ (Nat.le_of_ble_eq_true rfl) rfl rfl (fun r1 τ e => ?_)
  cases e
  refine g_aload_n o (q := 807) 2 rfl rfl dL_law_806 rfl ?_
  refine g_cvi o (q := 810) (As := []) (rest := [.int r]) (f := some (r, cmb σ' μ')) (K := fun r τ => some (r, τ)) (res := (r, cmb σ' μ')) kv_X5_please lk_L_100 kL_50 (by decide) rfl rfl rfl (fun r1 τ e => by cases e; exact toM hid (c_X5_please (MKM σ')  h2)) dL_law_807 rfl ⟨rfl, rfl, (Nat.le_of_ble_eq_true rfl), (Nat.le_of_ble_eq_true rfl)⟩ (Nat.le_of_ble_eq_true rfl) rfl rfl (fun r1 τ e => ?_)
  cases e
  refine g_icmp_eq o (tgt := 1376) (q := 813) (A := some ()) (B := none) (res := ()) dL_law_810 (by decide) rfl (if_pos rfl) (fun _ => ?_) (fun e => by cases e)
  exact hk σ' μ' h3
set_option maxHeartbeats 4000000 in
set_option maxRecDepth 100000 in
theorem law_c21 (hc : LC X l b L sc) (hs : Sims Rl) {σ μ : Mem} (hR : Rl σ μ) {i : Nat} (hi : i + 6 ≤ L) (hk : ∀ σ μ : Mem, Rl σ μ → G X (cmb σ μ) 1376 (lawLV X b i) []) : G X (cmb σ μ) 815 (lawLV X b i) [] := by
  obtain ⟨o, hid, hX, hbl, hbA, hL⟩ := hc
  obtain ⟨r, σ', μ', h1, h2, h3⟩ := hs.s21 σ μ (sc (i + 1)) (sc (i + 2)) hR
  refine g_aload_n o (q := 816) 1 rfl rfl dL_law_815 rfl ?_
  refine g_aload_n o (q := 817) 0 rfl rfl dL_law_816 rfl ?_
  refine g_iload_n o (q := 818) 3 rfl rfl dL_law_817 rfl ?_
  refine g_iconst o (v := 1) (q := 819) (by decide) dL_law_818 rfl ?_
  refine g_iadd o (q := 820) dL_law_819 rfl ?_
  refine g_scld o (q := 821) hX hbl hbA (j := i + 1) (nI_add i 1) (by omega) (by omega) dL_law_820 rfl ?_
  refine g_aload_n o (q := 822) 0 rfl rfl dL_law_821 rfl ?_
  refine g_iload_n o (q := 823) 3 rfl rfl dL_law_822 rfl ?_
  refine g_iconst o (v := 2) (q := 824) (by decide) dL_law_823 rfl ?_
  refine g_iadd o (q := 825) dL_law_824 rfl ?_
  refine g_scld o (q := 826) hX hbl hbA (j := i + 2) (nI_add i 2) (by omega) (by omega) dL_law_825 rfl ?_
  refine g_cvi o (q := 829) (As := [.int (sc (i + 1)), .int (sc (i + 2))]) (rest := []) (f := some (r, cmb σ' μ)) (K := fun r τ => some (r, τ)) (res := (r, cmb σ' μ)) kv_X4_fits lk_L_101 kL_0 (by decide) rfl rfl rfl (fun r1 τ e => by cases e; exact toC hid (c_X4_fits (MKC μ) _ _ h1)) dL_law_826 rfl ⟨rfl, rfl, (Nat.le_of_ble_eq_true rfl), (Nat.le_of_ble_eq_true rfl)⟩ (Nat.le_of_ble_eq_true rfl) rfl rfl (fun r1 τ e => ?_)
  cases e
  refine g_aload_n o (q := 830) 2 rfl rfl dL_law_829 rfl ?_
  refine g_aload_n o (q := 831) 0 rfl rfl dL_law_830 rfl ?_
  refine g_iload_n o (q := 832) 3 rfl rfl dL_law_831 rfl ?_
  refine g_iconst o (v := 1) (q := 833) (by decide) dL_law_832 rfl ?_
  refine g_iadd o (q := 834) dL_law_833 rfl ?_
  refine g_scld o (q := 835) hX hbl hbA (j := i + 1) (nI_add i 1) (by omega) (by omega) dL_law_834 rfl ?_
  refine g_aload_n o (q := 836) 0 rfl rfl dL_law_835 rfl ?_
  refine g_iload_n o (q := 837) 3 rfl rfl dL_law_836 rfl ?_
  refine g_iconst o (v := 2) (q := 838) (by decide) dL_law_837 rfl ?_
  refine g_iadd o (q := 839) dL_law_838 rfl ?_
  refine g_scld o (q := 840) hX hbl hbA (j := i + 2) (nI_add i 2) (by omega) (by omega) dL_law_839 rfl ?_
  refine g_cvi o (q := 843) (As := [.int (sc (i + 1)), .int (sc (i + 2))]) (rest := [.int r]) (f := some (r, cmb σ' μ')) (K := fun r τ => some (r, τ)) (res := (r, cmb σ' μ')) kv_X5_fits lk_L_104 kL_50 (by decide) rfl rfl rfl (fun r1 τ e => by cases e; exact toM hid (c_X5_fits (MKM σ') _ _ h2)) dL_law_840 rfl ⟨rfl, rfl, (Nat.le_of_ble_eq_true rfl), (Nat.le_of_ble_eq_true rfl)⟩ (Nat.le_of_ble_eq_true rfl) rfl rfl (fun r1 τ e => ?_)
  cases e
  refine g_icmp_eq o (tgt := 1376) (q := 846) (A := some ()) (B := none) (res := ()) dL_law_843 (by decide) rfl (if_pos rfl) (fun _ => ?_) (fun e => by cases e)
  exact hk σ' μ' h3
set_option maxHeartbeats 4000000 in
set_option maxRecDepth 100000 in
theorem law_c22 (hc : LC X l b L sc) (hs : Sims Rl) {σ μ : Mem} (hR : Rl σ μ) {i : Nat} (hi : i + 6 ≤ L) (hk : ∀ σ μ : Mem, Rl σ μ → G X (cmb σ μ) 1376 (lawLV X b i) []) : G X (cmb σ μ) 848 (lawLV X b i) [] := by
  obtain ⟨o, hid, hX, hbl, hbA, hL⟩ := hc
  obtain ⟨r, σ', μ', h1, h2, h3⟩ := hs.s22 σ μ (sc (i + 1)) (sc (i + 2)) hR
  refine g_aload_n o (q := 849) 1 rfl rfl dL_law_848 rfl ?_
  refine g_aload_n o (q := 850) 0 rfl rfl dL_law_849 rfl ?_
  refine g_iload_n o (q := 851) 3 rfl rfl dL_law_850 rfl ?_
  refine g_iconst o (v := 1) (q := 852) (by decide) dL_law_851 rfl ?_
  refine g_iadd o (q := 853) dL_law_852 rfl ?_
  refine g_scld o (q := 854) hX hbl hbA (j := i + 1) (nI_add i 1) (by omega) (by omega) dL_law_853 rfl ?_
  refine g_aload_n o (q := 855) 0 rfl rfl dL_law_854 rfl ?_
  refine g_iload_n o (q := 856) 3 rfl rfl dL_law_855 rfl ?_
  refine g_iconst o (v := 2) (q := 857) (by decide) dL_law_856 rfl ?_
  refine g_iadd o (q := 858) dL_law_857 rfl ?_
  refine g_scld o (q := 859) hX hbl hbA (j := i + 2) (nI_add i 2) (by omega) (by omega) dL_law_858 rfl ?_
  refine g_cvi o (q := 862) (As := [.int (sc (i + 1)), .int (sc (i + 2))]) (rest := []) (f := some (r, cmb σ' μ)) (K := fun r τ => some (r, τ)) (res := (r, cmb σ' μ)) kv_X4_kinds lk_L_105 kL_0 (by decide) rfl rfl rfl (fun r1 τ e => by cases e; exact toC hid (c_X4_kinds (MKC μ) _ _ h1)) dL_law_859 rfl ⟨rfl, rfl, (Nat.le_of_ble_eq_true rfl), (Nat.le_of_ble_eq_true rfl)⟩ (Nat.le_of_ble_eq_true rfl) rfl rfl (fun r1 τ e => ?_)
  cases e
  refine g_aload_n o (q := 863) 2 rfl rfl dL_law_862 rfl ?_
  refine g_aload_n o (q := 864) 0 rfl rfl dL_law_863 rfl ?_
  refine g_iload_n o (q := 865) 3 rfl rfl dL_law_864 rfl ?_
  refine g_iconst o (v := 1) (q := 866) (by decide) dL_law_865 rfl ?_
  refine g_iadd o (q := 867) dL_law_866 rfl ?_
  refine g_scld o (q := 868) hX hbl hbA (j := i + 1) (nI_add i 1) (by omega) (by omega) dL_law_867 rfl ?_
  refine g_aload_n o (q := 869) 0 rfl rfl dL_law_868 rfl ?_
  refine g_iload_n o (q := 870) 3 rfl rfl dL_law_869 rfl ?_
  refine g_iconst o (v := 2) (q := 871) (by decide) dL_law_870 rfl ?_
  refine g_iadd o (q := 872) dL_law_871 rfl ?_
  refine g_scld o (q := 873) hX hbl hbA (j := i + 2) (nI_add i 2) (by omega) (by omega) dL_law_872 rfl ?_
  refine g_cvi o (q := 876) (As := [.int (sc (i + 1)), .int (sc (i + 2))]) (rest := [.int r]) (f := some (r, cmb σ' μ')) (K := fun r τ => some (r, τ)) (res := (r, cmb σ' μ')) kv_X5_kinds lk_L_108 kL_50 (by decide) rfl rfl rfl (fun r1 τ e => by cases e; exact toM hid (c_X5_kinds (MKM σ') _ _ h2)) dL_law_873 rfl ⟨rfl, rfl, (Nat.le_of_ble_eq_true rfl), (Nat.le_of_ble_eq_true rfl)⟩ (Nat.le_of_ble_eq_true rfl) rfl rfl (fun r1 τ e => ?_)
  cases e
  refine g_icmp_eq o (tgt := 1376) (q := 879) (A := some ()) (B := none) (res := ()) dL_law_876 (by decide) rfl (if_pos rfl) (fun _ => ?_) (fun e => by cases e)
  exact hk σ' μ' h3
set_option maxHeartbeats 4000000 in
set_option maxRecDepth 100000 in
theorem law_c23 (hc : LC X l b L sc) (hs : Sims Rl) {σ μ : Mem} (hR : Rl σ μ) {i : Nat} (hi : i + 6 ≤ L) (hk : ∀ σ μ : Mem, Rl σ μ → G X (cmb σ μ) 1376 (lawLV X b i) []) : G X (cmb σ μ) 881 (lawLV X b i) [] := by
  obtain ⟨o, hid, hX, hbl, hbA, hL⟩ := hc
  obtain ⟨r, σ', μ', h1, h2, h3⟩ := hs.s23 σ μ (sc (i + 1)) hR
  refine g_aload_n o (q := 882) 1 rfl rfl dL_law_881 rfl ?_
  refine g_aload_n o (q := 883) 0 rfl rfl dL_law_882 rfl ?_
  refine g_iload_n o (q := 884) 3 rfl rfl dL_law_883 rfl ?_
  refine g_iconst o (v := 1) (q := 885) (by decide) dL_law_884 rfl ?_
  refine g_iadd o (q := 886) dL_law_885 rfl ?_
  refine g_scld o (q := 887) hX hbl hbA (j := i + 1) (nI_add i 1) (by omega) (by omega) dL_law_886 rfl ?_
  refine g_cvi o (q := 890) (As := [.int (sc (i + 1))]) (rest := []) (f := some (r, cmb σ' μ)) (K := fun r τ => some (r, τ)) (res := (r, cmb σ' μ)) kv_X4_evening lk_L_109 kL_0 (by decide) rfl rfl rfl (fun r1 τ e => by cases e; exact toC hid (c_X4_evening (MKC μ) _ h1)) dL_law_887 rfl ⟨rfl, rfl, (Nat.le_of_ble_eq_true rfl), (Nat.le_of_ble_eq_true rfl)⟩ (Nat.le_of_ble_eq_true rfl) rfl rfl (fun r1 τ e => ?_)
  cases e
  refine g_aload_n o (q := 891) 2 rfl rfl dL_law_890 rfl ?_
  refine g_aload_n o (q := 892) 0 rfl rfl dL_law_891 rfl ?_
  refine g_iload_n o (q := 893) 3 rfl rfl dL_law_892 rfl ?_
  refine g_iconst o (v := 1) (q := 894) (by decide) dL_law_893 rfl ?_
  refine g_iadd o (q := 895) dL_law_894 rfl ?_
  refine g_scld o (q := 896) hX hbl hbA (j := i + 1) (nI_add i 1) (by omega) (by omega) dL_law_895 rfl ?_
  refine g_cvi o (q := 899) (As := [.int (sc (i + 1))]) (rest := [.int r]) (f := some (r, cmb σ' μ')) (K := fun r τ => some (r, τ)) (res := (r, cmb σ' μ')) kv_X5_evening lk_L_112 kL_50 (by decide) rfl rfl rfl (fun r1 τ e => by cases e; exact toM hid (c_X5_evening (MKM σ') _ h2)) dL_law_896 rfl ⟨rfl, rfl, (Nat.le_of_ble_eq_true rfl), (Nat.le_of_ble_eq_true rfl)⟩ (Nat.le_of_ble_eq_true rfl) rfl rfl (fun r1 τ e => ?_)
  cases e
  refine g_icmp_eq o (tgt := 1376) (q := 902) (A := some ()) (B := none) (res := ()) dL_law_899 (by decide) rfl (if_pos rfl) (fun _ => ?_) (fun e => by cases e)
  exact hk σ' μ' h3
set_option maxHeartbeats 4000000 in
set_option maxRecDepth 100000 in
theorem law_c24 (hc : LC X l b L sc) (hs : Sims Rl) {σ μ : Mem} (hR : Rl σ μ) {i : Nat} (hi : i + 6 ≤ L) (hk : ∀ σ μ : Mem, Rl σ μ → G X (cmb σ μ) 1376 (lawLV X b i) []) : G X (cmb σ μ) 904 (lawLV X b i) [] := by
  obtain ⟨o, hid, hX, hbl, hbA, hL⟩ := hc
  obtain ⟨r, σ', μ', h1, h2, h3⟩ := hs.s24 σ μ (sc (i + 1)) (sc (i + 2)) (sc (i + 3)) hR
  refine g_aload_n o (q := 905) 1 rfl rfl dL_law_904 rfl ?_
  refine g_aload_n o (q := 906) 0 rfl rfl dL_law_905 rfl ?_
  refine g_iload_n o (q := 907) 3 rfl rfl dL_law_906 rfl ?_
  refine g_iconst o (v := 1) (q := 908) (by decide) dL_law_907 rfl ?_
  refine g_iadd o (q := 909) dL_law_908 rfl ?_
  refine g_scld o (q := 910) hX hbl hbA (j := i + 1) (nI_add i 1) (by omega) (by omega) dL_law_909 rfl ?_
  refine g_aload_n o (q := 911) 0 rfl rfl dL_law_910 rfl ?_
  refine g_iload_n o (q := 912) 3 rfl rfl dL_law_911 rfl ?_
  refine g_iconst o (v := 2) (q := 913) (by decide) dL_law_912 rfl ?_
  refine g_iadd o (q := 914) dL_law_913 rfl ?_
  refine g_scld o (q := 915) hX hbl hbA (j := i + 2) (nI_add i 2) (by omega) (by omega) dL_law_914 rfl ?_
  refine g_aload_n o (q := 916) 0 rfl rfl dL_law_915 rfl ?_
  refine g_iload_n o (q := 917) 3 rfl rfl dL_law_916 rfl ?_
  refine g_iconst o (v := 3) (q := 918) (by decide) dL_law_917 rfl ?_
  refine g_iadd o (q := 919) dL_law_918 rfl ?_
  refine g_scld o (q := 920) hX hbl hbA (j := i + 3) (nI_add i 3) (by omega) (by omega) dL_law_919 rfl ?_
  refine g_cvl o (q := 923) (As := [.int (sc (i + 1)), .int (sc (i + 2)), .int (sc (i + 3))]) (rest := []) (f := some (r, cmb σ' μ)) (K := fun r τ => some (r, τ)) (res := (r, cmb σ' μ)) kv_X4_odds lk_L_113 kL_0 (by decide) rfl rfl rfl (fun r1 τ e => by cases e; exact toCl hid (c_X4_odds (MKC μ) _ _ _ h1)) dL_law_920 rfl ⟨rfl, rfl, (Nat.le_of_ble_eq_true rfl), (Nat.le_of_ble_eq_true rfl)⟩ (Nat.le_of_ble_eq_true rfl) rfl rfl (fun r1 τ e => ?_)
  cases e
  refine g_aload_n o (q := 924) 2 rfl rfl dL_law_923 rfl ?_
  refine g_aload_n o (q := 925) 0 rfl rfl dL_law_924 rfl ?_
  refine g_iload_n o (q := 926) 3 rfl rfl dL_law_925 rfl ?_
  refine g_iconst o (v := 1) (q := 927) (by decide) dL_law_926 rfl ?_
  refine g_iadd o (q := 928) dL_law_927 rfl ?_
  refine g_scld o (q := 929) hX hbl hbA (j := i + 1) (nI_add i 1) (by omega) (by omega) dL_law_928 rfl ?_
  refine g_aload_n o (q := 930) 0 rfl rfl dL_law_929 rfl ?_
  refine g_iload_n o (q := 931) 3 rfl rfl dL_law_930 rfl ?_
  refine g_iconst o (v := 2) (q := 932) (by decide) dL_law_931 rfl ?_
  refine g_iadd o (q := 933) dL_law_932 rfl ?_
  refine g_scld o (q := 934) hX hbl hbA (j := i + 2) (nI_add i 2) (by omega) (by omega) dL_law_933 rfl ?_
  refine g_aload_n o (q := 935) 0 rfl rfl dL_law_934 rfl ?_
  refine g_iload_n o (q := 936) 3 rfl rfl dL_law_935 rfl ?_
  refine g_iconst o (v := 3) (q := 937) (by decide) dL_law_936 rfl ?_
  refine g_iadd o (q := 938) dL_law_937 rfl ?_
  refine g_scld o (q := 939) hX hbl hbA (j := i + 3) (nI_add i 3) (by omega) (by omega) dL_law_938 rfl ?_
  refine g_cvl o (q := 942) (As := [.int (sc (i + 1)), .int (sc (i + 2)), .int (sc (i + 3))]) (rest := [.long r]) (f := some (r, cmb σ' μ')) (K := fun r τ => some (r, τ)) (res := (r, cmb σ' μ')) kv_X5_odds lk_L_117 kL_50 (by decide) rfl rfl rfl (fun r1 τ e => by cases e; exact toMl hid (c_X5_odds (MKM σ') _ _ _ h2)) dL_law_939 rfl ⟨rfl, rfl, (Nat.le_of_ble_eq_true rfl), (Nat.le_of_ble_eq_true rfl)⟩ (Nat.le_of_ble_eq_true rfl) rfl rfl (fun r1 τ e => ?_)
  cases e
  refine g_lcmp o (q := 943) dL_law_942 rfl ?_
  refine g_if_eq o (tgt := 1376) (q := 946) (A := some ()) (B := none) (res := ()) dL_law_943 (by decide) rfl (if_pos (by simp [lg_cmp])) (fun _ => ?_) (fun e => by cases e)
  exact hk σ' μ' h3
set_option maxHeartbeats 4000000 in
set_option maxRecDepth 100000 in
theorem law_c25 (hc : LC X l b L sc) (hs : Sims Rl) {σ μ : Mem} (hR : Rl σ μ) {i : Nat} (hi : i + 6 ≤ L) (hk : ∀ σ μ : Mem, Rl σ μ → G X (cmb σ μ) 1376 (lawLV X b i) []) : G X (cmb σ μ) 948 (lawLV X b i) [] := by
  obtain ⟨o, hid, hX, hbl, hbA, hL⟩ := hc
  obtain ⟨r, σ', μ', h1, h2, h3⟩ := hs.s25 σ μ (sc (i + 1)) hR
  refine g_aload_n o (q := 949) 1 rfl rfl dL_law_948 rfl ?_
  refine g_aload_n o (q := 950) 0 rfl rfl dL_law_949 rfl ?_
  refine g_iload_n o (q := 951) 3 rfl rfl dL_law_950 rfl ?_
  refine g_iconst o (v := 1) (q := 952) (by decide) dL_law_951 rfl ?_
  refine g_iadd o (q := 953) dL_law_952 rfl ?_
  refine g_scld o (q := 954) hX hbl hbA (j := i + 1) (nI_add i 1) (by omega) (by omega) dL_law_953 rfl ?_
  refine g_cvi o (q := 957) (As := [.int (sc (i + 1))]) (rest := []) (f := some (r, cmb σ' μ)) (K := fun r τ => some (r, τ)) (res := (r, cmb σ' μ)) kv_X4_seed lk_L_118 kL_0 (by decide) rfl rfl rfl (fun r1 τ e => by cases e; exact toC hid (c_X4_seed (MKC μ) _ h1)) dL_law_954 rfl ⟨rfl, rfl, (Nat.le_of_ble_eq_true rfl), (Nat.le_of_ble_eq_true rfl)⟩ (Nat.le_of_ble_eq_true rfl) rfl rfl (fun r1 τ e => ?_)
  cases e
  refine g_aload_n o (q := 958) 2 rfl rfl dL_law_957 rfl ?_
  refine g_aload_n o (q := 959) 0 rfl rfl dL_law_958 rfl ?_
  refine g_iload_n o (q := 960) 3 rfl rfl dL_law_959 rfl ?_
  refine g_iconst o (v := 1) (q := 961) (by decide) dL_law_960 rfl ?_
  refine g_iadd o (q := 962) dL_law_961 rfl ?_
  refine g_scld o (q := 963) hX hbl hbA (j := i + 1) (nI_add i 1) (by omega) (by omega) dL_law_962 rfl ?_
  refine g_cvi o (q := 966) (As := [.int (sc (i + 1))]) (rest := [.int r]) (f := some (r, cmb σ' μ')) (K := fun r τ => some (r, τ)) (res := (r, cmb σ' μ')) kv_X5_seed lk_L_121 kL_50 (by decide) rfl rfl rfl (fun r1 τ e => by cases e; exact toM hid (c_X5_seed (MKM σ') _ h2)) dL_law_963 rfl ⟨rfl, rfl, (Nat.le_of_ble_eq_true rfl), (Nat.le_of_ble_eq_true rfl)⟩ (Nat.le_of_ble_eq_true rfl) rfl rfl (fun r1 τ e => ?_)
  cases e
  refine g_icmp_eq o (tgt := 1376) (q := 969) (A := some ()) (B := none) (res := ()) dL_law_966 (by decide) rfl (if_pos rfl) (fun _ => ?_) (fun e => by cases e)
  exact hk σ' μ' h3
set_option maxHeartbeats 4000000 in
set_option maxRecDepth 100000 in
theorem law_c26 (hc : LC X l b L sc) (hs : Sims Rl) {σ μ : Mem} (hR : Rl σ μ) {i : Nat} (hi : i + 6 ≤ L) (hk : ∀ σ μ : Mem, Rl σ μ → G X (cmb σ μ) 1376 (lawLV X b i) []) : G X (cmb σ μ) 971 (lawLV X b i) [] := by
  obtain ⟨o, hid, hX, hbl, hbA, hL⟩ := hc
  obtain ⟨r, σ', μ', h1, h2, h3⟩ := hs.s26 σ μ (sc (i + 1)) (sc (i + 2)) hR
  refine g_aload_n o (q := 972) 1 rfl rfl dL_law_971 rfl ?_
  refine g_aload_n o (q := 973) 0 rfl rfl dL_law_972 rfl ?_
  refine g_iload_n o (q := 974) 3 rfl rfl dL_law_973 rfl ?_
  refine g_iconst o (v := 1) (q := 975) (by decide) dL_law_974 rfl ?_
  refine g_iadd o (q := 976) dL_law_975 rfl ?_
  refine g_scld o (q := 977) hX hbl hbA (j := i + 1) (nI_add i 1) (by omega) (by omega) dL_law_976 rfl ?_
  refine g_aload_n o (q := 978) 0 rfl rfl dL_law_977 rfl ?_
  refine g_iload_n o (q := 979) 3 rfl rfl dL_law_978 rfl ?_
  refine g_iconst o (v := 2) (q := 980) (by decide) dL_law_979 rfl ?_
  refine g_iadd o (q := 981) dL_law_980 rfl ?_
  refine g_scld o (q := 982) hX hbl hbA (j := i + 2) (nI_add i 2) (by omega) (by omega) dL_law_981 rfl ?_
  refine g_cvi o (q := 985) (As := [.int (sc (i + 1)), .int (sc (i + 2))]) (rest := []) (f := some (r, cmb σ' μ)) (K := fun r τ => some (r, τ)) (res := (r, cmb σ' μ)) kv_X4_feed lk_L_122 kL_0 (by decide) rfl rfl rfl (fun r1 τ e => by cases e; exact toC hid (c_X4_feed (MKC μ) _ _ h1)) dL_law_982 rfl ⟨rfl, rfl, (Nat.le_of_ble_eq_true rfl), (Nat.le_of_ble_eq_true rfl)⟩ (Nat.le_of_ble_eq_true rfl) rfl rfl (fun r1 τ e => ?_)
  cases e
  refine g_aload_n o (q := 986) 2 rfl rfl dL_law_985 rfl ?_
  refine g_aload_n o (q := 987) 0 rfl rfl dL_law_986 rfl ?_
  refine g_iload_n o (q := 988) 3 rfl rfl dL_law_987 rfl ?_
  refine g_iconst o (v := 1) (q := 989) (by decide) dL_law_988 rfl ?_
  refine g_iadd o (q := 990) dL_law_989 rfl ?_
  refine g_scld o (q := 991) hX hbl hbA (j := i + 1) (nI_add i 1) (by omega) (by omega) dL_law_990 rfl ?_
  refine g_aload_n o (q := 992) 0 rfl rfl dL_law_991 rfl ?_
  refine g_iload_n o (q := 993) 3 rfl rfl dL_law_992 rfl ?_
  refine g_iconst o (v := 2) (q := 994) (by decide) dL_law_993 rfl ?_
  refine g_iadd o (q := 995) dL_law_994 rfl ?_
  refine g_scld o (q := 996) hX hbl hbA (j := i + 2) (nI_add i 2) (by omega) (by omega) dL_law_995 rfl ?_
  refine g_cvi o (q := 999) (As := [.int (sc (i + 1)), .int (sc (i + 2))]) (rest := [.int r]) (f := some (r, cmb σ' μ')) (K := fun r τ => some (r, τ)) (res := (r, cmb σ' μ')) kv_X5_feed lk_L_125 kL_50 (by decide) rfl rfl rfl (fun r1 τ e => by cases e; exact toM hid (c_X5_feed (MKM σ') _ _ h2)) dL_law_996 rfl ⟨rfl, rfl, (Nat.le_of_ble_eq_true rfl), (Nat.le_of_ble_eq_true rfl)⟩ (Nat.le_of_ble_eq_true rfl) rfl rfl (fun r1 τ e => ?_)
  cases e
  refine g_icmp_eq o (tgt := 1376) (q := 1002) (A := some ()) (B := none) (res := ()) dL_law_999 (by decide) rfl (if_pos rfl) (fun _ => ?_) (fun e => by cases e)
  exact hk σ' μ' h3
set_option maxHeartbeats 4000000 in
set_option maxRecDepth 100000 in
theorem law_c27 (hc : LC X l b L sc) (hs : Sims Rl) {σ μ : Mem} (hR : Rl σ μ) {i : Nat} (hi : i + 6 ≤ L) (hk : ∀ σ μ : Mem, Rl σ μ → G X (cmb σ μ) 1376 (lawLV X b i) []) : G X (cmb σ μ) 1004 (lawLV X b i) [] := by
  obtain ⟨o, hid, hX, hbl, hbA, hL⟩ := hc
  obtain ⟨r, σ', μ', h1, h2, h3⟩ := hs.s27 σ μ  hR
  refine g_aload_n o (q := 1005) 1 rfl rfl dL_law_1004 rfl ?_
  refine g_cvi o (q := 1008) (As := []) (rest := []) (f := some (r, cmb σ' μ)) (K := fun r τ => some (r, τ)) (res := (r, cmb σ' μ)) kv_X4_wipe lk_L_126 kL_0 (by decide) rfl rfl rfl (fun r1 τ e => by cases e; exact toC hid (c_X4_wipe (MKC μ)  h1)) dL_law_1005 rfl ⟨rfl, rfl, (Nat.le_of_ble_eq_true rfl), (Nat.le_of_ble_eq_true rfl)⟩ (Nat.le_of_ble_eq_true rfl) rfl rfl (fun r1 τ e => ?_)
  cases e
  refine g_aload_n o (q := 1009) 2 rfl rfl dL_law_1008 rfl ?_
  refine g_cvi o (q := 1012) (As := []) (rest := [.int r]) (f := some (r, cmb σ' μ')) (K := fun r τ => some (r, τ)) (res := (r, cmb σ' μ')) kv_X5_wipe lk_L_129 kL_50 (by decide) rfl rfl rfl (fun r1 τ e => by cases e; exact toM hid (c_X5_wipe (MKM σ')  h2)) dL_law_1009 rfl ⟨rfl, rfl, (Nat.le_of_ble_eq_true rfl), (Nat.le_of_ble_eq_true rfl)⟩ (Nat.le_of_ble_eq_true rfl) rfl rfl (fun r1 τ e => ?_)
  cases e
  refine g_icmp_eq o (tgt := 1376) (q := 1015) (A := some ()) (B := none) (res := ()) dL_law_1012 (by decide) rfl (if_pos rfl) (fun _ => ?_) (fun e => by cases e)
  exact hk σ' μ' h3
set_option maxHeartbeats 4000000 in
set_option maxRecDepth 100000 in
theorem law_c28 (hc : LC X l b L sc) (hs : Sims Rl) {σ μ : Mem} (hR : Rl σ μ) {i : Nat} (hi : i + 6 ≤ L) (hk : ∀ σ μ : Mem, Rl σ μ → G X (cmb σ μ) 1376 (lawLV X b i) []) : G X (cmb σ μ) 1017 (lawLV X b i) [] := by
  obtain ⟨o, hid, hX, hbl, hbA, hL⟩ := hc
  obtain ⟨r, σ', μ', h1, h2, h3⟩ := hs.s28 σ μ  hR
  refine g_aload_n o (q := 1018) 1 rfl rfl dL_law_1017 rfl ?_
  refine g_cvi o (q := 1021) (As := []) (rest := []) (f := some (r, cmb σ' μ)) (K := fun r τ => some (r, τ)) (res := (r, cmb σ' μ)) kv_X4_text lk_L_130 kL_0 (by decide) rfl rfl rfl (fun r1 τ e => by cases e; exact toC hid (c_X4_text (MKC μ)  h1)) dL_law_1018 rfl ⟨rfl, rfl, (Nat.le_of_ble_eq_true rfl), (Nat.le_of_ble_eq_true rfl)⟩ (Nat.le_of_ble_eq_true rfl) rfl rfl (fun r1 τ e => ?_)
  cases e
  refine g_aload_n o (q := 1022) 2 rfl rfl dL_law_1021 rfl ?_
  refine g_cvi o (q := 1025) (As := []) (rest := [.int r]) (f := some (r, cmb σ' μ')) (K := fun r τ => some (r, τ)) (res := (r, cmb σ' μ')) kv_X5_text lk_L_133 kL_50 (by decide) rfl rfl rfl (fun r1 τ e => by cases e; exact toM hid (c_X5_text (MKM σ')  h2)) dL_law_1022 rfl ⟨rfl, rfl, (Nat.le_of_ble_eq_true rfl), (Nat.le_of_ble_eq_true rfl)⟩ (Nat.le_of_ble_eq_true rfl) rfl rfl (fun r1 τ e => ?_)
  cases e
  refine g_icmp_eq o (tgt := 1376) (q := 1028) (A := some ()) (B := none) (res := ()) dL_law_1025 (by decide) rfl (if_pos rfl) (fun _ => ?_) (fun e => by cases e)
  exact hk σ' μ' h3
set_option maxHeartbeats 4000000 in
set_option maxRecDepth 100000 in
theorem law_c29 (hc : LC X l b L sc) (hs : Sims Rl) {σ μ : Mem} (hR : Rl σ μ) {i : Nat} (hi : i + 6 ≤ L) (hk : ∀ σ μ : Mem, Rl σ μ → G X (cmb σ μ) 1376 (lawLV X b i) []) : G X (cmb σ μ) 1030 (lawLV X b i) [] := by
  obtain ⟨o, hid, hX, hbl, hbA, hL⟩ := hc
  obtain ⟨r, σ', μ', h1, h2, h3⟩ := hs.s29 σ μ (sc (i + 1)) (sc (i + 2)) hR
  refine g_aload_n o (q := 1031) 1 rfl rfl dL_law_1030 rfl ?_
  refine g_aload_n o (q := 1032) 0 rfl rfl dL_law_1031 rfl ?_
  refine g_iload_n o (q := 1033) 3 rfl rfl dL_law_1032 rfl ?_
  refine g_iconst o (v := 1) (q := 1034) (by decide) dL_law_1033 rfl ?_
  refine g_iadd o (q := 1035) dL_law_1034 rfl ?_
  refine g_scld o (q := 1036) hX hbl hbA (j := i + 1) (nI_add i 1) (by omega) (by omega) dL_law_1035 rfl ?_
  refine g_aload_n o (q := 1037) 0 rfl rfl dL_law_1036 rfl ?_
  refine g_iload_n o (q := 1038) 3 rfl rfl dL_law_1037 rfl ?_
  refine g_iconst o (v := 2) (q := 1039) (by decide) dL_law_1038 rfl ?_
  refine g_iadd o (q := 1040) dL_law_1039 rfl ?_
  refine g_scld o (q := 1041) hX hbl hbA (j := i + 2) (nI_add i 2) (by omega) (by omega) dL_law_1040 rfl ?_
  refine g_cvi o (q := 1044) (As := [.int (sc (i + 1)), .int (sc (i + 2))]) (rest := []) (f := some (r, cmb σ' μ)) (K := fun r τ => some (r, τ)) (res := (r, cmb σ' μ)) kv_X4_hold lk_L_134 kL_0 (by decide) rfl rfl rfl (fun r1 τ e => by cases e; exact toC hid (c_X4_hold (MKC μ) _ _ h1)) dL_law_1041 rfl ⟨rfl, rfl, (Nat.le_of_ble_eq_true rfl), (Nat.le_of_ble_eq_true rfl)⟩ (Nat.le_of_ble_eq_true rfl) rfl rfl (fun r1 τ e => ?_)
  cases e
  refine g_aload_n o (q := 1045) 2 rfl rfl dL_law_1044 rfl ?_
  refine g_aload_n o (q := 1046) 0 rfl rfl dL_law_1045 rfl ?_
  refine g_iload_n o (q := 1047) 3 rfl rfl dL_law_1046 rfl ?_
  refine g_iconst o (v := 1) (q := 1048) (by decide) dL_law_1047 rfl ?_
  refine g_iadd o (q := 1049) dL_law_1048 rfl ?_
  refine g_scld o (q := 1050) hX hbl hbA (j := i + 1) (nI_add i 1) (by omega) (by omega) dL_law_1049 rfl ?_
  refine g_aload_n o (q := 1051) 0 rfl rfl dL_law_1050 rfl ?_
  refine g_iload_n o (q := 1052) 3 rfl rfl dL_law_1051 rfl ?_
  refine g_iconst o (v := 2) (q := 1053) (by decide) dL_law_1052 rfl ?_
  refine g_iadd o (q := 1054) dL_law_1053 rfl ?_
  refine g_scld o (q := 1055) hX hbl hbA (j := i + 2) (nI_add i 2) (by omega) (by omega) dL_law_1054 rfl ?_
  refine g_cvi o (q := 1058) (As := [.int (sc (i + 1)), .int (sc (i + 2))]) (rest := [.int r]) (f := some (r, cmb σ' μ')) (K := fun r τ => some (r, τ)) (res := (r, cmb σ' μ')) kv_X5_hold lk_L_137 kL_50 (by decide) rfl rfl rfl (fun r1 τ e => by cases e; exact toM hid (c_X5_hold (MKM σ') _ _ h2)) dL_law_1055 rfl ⟨rfl, rfl, (Nat.le_of_ble_eq_true rfl), (Nat.le_of_ble_eq_true rfl)⟩ (Nat.le_of_ble_eq_true rfl) rfl rfl (fun r1 τ e => ?_)
  cases e
  refine g_icmp_eq o (tgt := 1376) (q := 1061) (A := some ()) (B := none) (res := ()) dL_law_1058 (by decide) rfl (if_pos rfl) (fun _ => ?_) (fun e => by cases e)
  exact hk σ' μ' h3
set_option maxHeartbeats 4000000 in
set_option maxRecDepth 100000 in
theorem law_c30 (hc : LC X l b L sc) (hs : Sims Rl) {σ μ : Mem} (hR : Rl σ μ) {i : Nat} (hi : i + 6 ≤ L) (hk : ∀ σ μ : Mem, Rl σ μ → G X (cmb σ μ) 1376 (lawLV X b i) []) : G X (cmb σ μ) 1063 (lawLV X b i) [] := by
  obtain ⟨o, hid, hX, hbl, hbA, hL⟩ := hc
  obtain ⟨r, σ', μ', h1, h2, h3⟩ := hs.s30 σ μ (sc (i + 1)) (sc (i + 2)) hR
  refine g_aload_n o (q := 1064) 1 rfl rfl dL_law_1063 rfl ?_
  refine g_aload_n o (q := 1065) 0 rfl rfl dL_law_1064 rfl ?_
  refine g_iload_n o (q := 1066) 3 rfl rfl dL_law_1065 rfl ?_
  refine g_iconst o (v := 1) (q := 1067) (by decide) dL_law_1066 rfl ?_
  refine g_iadd o (q := 1068) dL_law_1067 rfl ?_
  refine g_scld o (q := 1069) hX hbl hbA (j := i + 1) (nI_add i 1) (by omega) (by omega) dL_law_1068 rfl ?_
  refine g_aload_n o (q := 1070) 0 rfl rfl dL_law_1069 rfl ?_
  refine g_iload_n o (q := 1071) 3 rfl rfl dL_law_1070 rfl ?_
  refine g_iconst o (v := 2) (q := 1072) (by decide) dL_law_1071 rfl ?_
  refine g_iadd o (q := 1073) dL_law_1072 rfl ?_
  refine g_scld o (q := 1074) hX hbl hbA (j := i + 2) (nI_add i 2) (by omega) (by omega) dL_law_1073 rfl ?_
  refine g_cvi o (q := 1077) (As := [.int (sc (i + 1)), .int (sc (i + 2))]) (rest := []) (f := some (r, cmb σ' μ)) (K := fun r τ => some (r, τ)) (res := (r, cmb σ' μ)) kv_X4_as lk_L_138 kL_0 (by decide) rfl rfl rfl (fun r1 τ e => by cases e; exact toC hid (c_X4_as (MKC μ) _ _ h1)) dL_law_1074 rfl ⟨rfl, rfl, (Nat.le_of_ble_eq_true rfl), (Nat.le_of_ble_eq_true rfl)⟩ (Nat.le_of_ble_eq_true rfl) rfl rfl (fun r1 τ e => ?_)
  cases e
  refine g_aload_n o (q := 1078) 2 rfl rfl dL_law_1077 rfl ?_
  refine g_aload_n o (q := 1079) 0 rfl rfl dL_law_1078 rfl ?_
  refine g_iload_n o (q := 1080) 3 rfl rfl dL_law_1079 rfl ?_
  refine g_iconst o (v := 1) (q := 1081) (by decide) dL_law_1080 rfl ?_
  refine g_iadd o (q := 1082) dL_law_1081 rfl ?_
  refine g_scld o (q := 1083) hX hbl hbA (j := i + 1) (nI_add i 1) (by omega) (by omega) dL_law_1082 rfl ?_
  refine g_aload_n o (q := 1084) 0 rfl rfl dL_law_1083 rfl ?_
  refine g_iload_n o (q := 1085) 3 rfl rfl dL_law_1084 rfl ?_
  refine g_iconst o (v := 2) (q := 1086) (by decide) dL_law_1085 rfl ?_
  refine g_iadd o (q := 1087) dL_law_1086 rfl ?_
  refine g_scld o (q := 1088) hX hbl hbA (j := i + 2) (nI_add i 2) (by omega) (by omega) dL_law_1087 rfl ?_
  refine g_cvi o (q := 1091) (As := [.int (sc (i + 1)), .int (sc (i + 2))]) (rest := [.int r]) (f := some (r, cmb σ' μ')) (K := fun r τ => some (r, τ)) (res := (r, cmb σ' μ')) kv_X5_as lk_L_141 kL_50 (by decide) rfl rfl rfl (fun r1 τ e => by cases e; exact toM hid (c_X5_as (MKM σ') _ _ h2)) dL_law_1088 rfl ⟨rfl, rfl, (Nat.le_of_ble_eq_true rfl), (Nat.le_of_ble_eq_true rfl)⟩ (Nat.le_of_ble_eq_true rfl) rfl rfl (fun r1 τ e => ?_)
  cases e
  refine g_icmp_eq o (tgt := 1376) (q := 1094) (A := some ()) (B := none) (res := ()) dL_law_1091 (by decide) rfl (if_pos rfl) (fun _ => ?_) (fun e => by cases e)
  exact hk σ' μ' h3
set_option maxHeartbeats 4000000 in
set_option maxRecDepth 100000 in
theorem law_c31 (hc : LC X l b L sc) (hs : Sims Rl) {σ μ : Mem} (hR : Rl σ μ) {i : Nat} (hi : i + 6 ≤ L) (hk : ∀ σ μ : Mem, Rl σ μ → G X (cmb σ μ) 1376 (lawLV X b i) []) : G X (cmb σ μ) 1096 (lawLV X b i) [] := by
  obtain ⟨o, hid, hX, hbl, hbA, hL⟩ := hc
  obtain ⟨r, σ', μ', h1, h2, h3⟩ := hs.s31 σ μ (sc (i + 1)) (sc (i + 2)) (sc (i + 3)) hR
  refine g_aload_n o (q := 1097) 1 rfl rfl dL_law_1096 rfl ?_
  refine g_aload_n o (q := 1098) 0 rfl rfl dL_law_1097 rfl ?_
  refine g_iload_n o (q := 1099) 3 rfl rfl dL_law_1098 rfl ?_
  refine g_iconst o (v := 1) (q := 1100) (by decide) dL_law_1099 rfl ?_
  refine g_iadd o (q := 1101) dL_law_1100 rfl ?_
  refine g_scld o (q := 1102) hX hbl hbA (j := i + 1) (nI_add i 1) (by omega) (by omega) dL_law_1101 rfl ?_
  refine g_aload_n o (q := 1103) 0 rfl rfl dL_law_1102 rfl ?_
  refine g_iload_n o (q := 1104) 3 rfl rfl dL_law_1103 rfl ?_
  refine g_iconst o (v := 2) (q := 1105) (by decide) dL_law_1104 rfl ?_
  refine g_iadd o (q := 1106) dL_law_1105 rfl ?_
  refine g_scld o (q := 1107) hX hbl hbA (j := i + 2) (nI_add i 2) (by omega) (by omega) dL_law_1106 rfl ?_
  refine g_aload_n o (q := 1108) 0 rfl rfl dL_law_1107 rfl ?_
  refine g_iload_n o (q := 1109) 3 rfl rfl dL_law_1108 rfl ?_
  refine g_iconst o (v := 3) (q := 1110) (by decide) dL_law_1109 rfl ?_
  refine g_iadd o (q := 1111) dL_law_1110 rfl ?_
  refine g_scld o (q := 1112) hX hbl hbA (j := i + 3) (nI_add i 3) (by omega) (by omega) dL_law_1111 rfl ?_
  refine g_cvi o (q := 1115) (As := [.int (sc (i + 1)), .int (sc (i + 2)), .int (sc (i + 3))]) (rest := []) (f := some (r, cmb σ' μ)) (K := fun r τ => some (r, τ)) (res := (r, cmb σ' μ)) kv_X4_sheet lk_L_142 kL_0 (by decide) rfl rfl rfl (fun r1 τ e => by cases e; exact toC hid (c_X4_sheet (MKC μ) _ _ _ h1)) dL_law_1112 rfl ⟨rfl, rfl, (Nat.le_of_ble_eq_true rfl), (Nat.le_of_ble_eq_true rfl)⟩ (Nat.le_of_ble_eq_true rfl) rfl rfl (fun r1 τ e => ?_)
  cases e
  refine g_aload_n o (q := 1116) 2 rfl rfl dL_law_1115 rfl ?_
  refine g_aload_n o (q := 1117) 0 rfl rfl dL_law_1116 rfl ?_
  refine g_iload_n o (q := 1118) 3 rfl rfl dL_law_1117 rfl ?_
  refine g_iconst o (v := 1) (q := 1119) (by decide) dL_law_1118 rfl ?_
  refine g_iadd o (q := 1120) dL_law_1119 rfl ?_
  refine g_scld o (q := 1121) hX hbl hbA (j := i + 1) (nI_add i 1) (by omega) (by omega) dL_law_1120 rfl ?_
  refine g_aload_n o (q := 1122) 0 rfl rfl dL_law_1121 rfl ?_
  refine g_iload_n o (q := 1123) 3 rfl rfl dL_law_1122 rfl ?_
  refine g_iconst o (v := 2) (q := 1124) (by decide) dL_law_1123 rfl ?_
  refine g_iadd o (q := 1125) dL_law_1124 rfl ?_
  refine g_scld o (q := 1126) hX hbl hbA (j := i + 2) (nI_add i 2) (by omega) (by omega) dL_law_1125 rfl ?_
  refine g_aload_n o (q := 1127) 0 rfl rfl dL_law_1126 rfl ?_
  refine g_iload_n o (q := 1128) 3 rfl rfl dL_law_1127 rfl ?_
  refine g_iconst o (v := 3) (q := 1129) (by decide) dL_law_1128 rfl ?_
  refine g_iadd o (q := 1130) dL_law_1129 rfl ?_
  refine g_scld o (q := 1131) hX hbl hbA (j := i + 3) (nI_add i 3) (by omega) (by omega) dL_law_1130 rfl ?_
  refine g_cvi o (q := 1134) (As := [.int (sc (i + 1)), .int (sc (i + 2)), .int (sc (i + 3))]) (rest := [.int r]) (f := some (r, cmb σ' μ')) (K := fun r τ => some (r, τ)) (res := (r, cmb σ' μ')) kv_X5_sheet lk_L_145 kL_50 (by decide) rfl rfl rfl (fun r1 τ e => by cases e; exact toM hid (c_X5_sheet (MKM σ') _ _ _ h2)) dL_law_1131 rfl ⟨rfl, rfl, (Nat.le_of_ble_eq_true rfl), (Nat.le_of_ble_eq_true rfl)⟩ (Nat.le_of_ble_eq_true rfl) rfl rfl (fun r1 τ e => ?_)
  cases e
  refine g_icmp_eq o (tgt := 1376) (q := 1137) (A := some ()) (B := none) (res := ()) dL_law_1134 (by decide) rfl (if_pos rfl) (fun _ => ?_) (fun e => by cases e)
  exact hk σ' μ' h3
set_option maxHeartbeats 4000000 in
set_option maxRecDepth 100000 in
theorem law_c32 (hc : LC X l b L sc) (hs : Sims Rl) {σ μ : Mem} (hR : Rl σ μ) {i : Nat} (hi : i + 6 ≤ L) (hk : ∀ σ μ : Mem, Rl σ μ → G X (cmb σ μ) 1376 (lawLV X b i) []) : G X (cmb σ μ) 1139 (lawLV X b i) [] := by
  obtain ⟨o, hid, hX, hbl, hbA, hL⟩ := hc
  obtain ⟨r, σ', μ', h1, h2, h3⟩ := hs.s32 σ μ (sc (i + 1)) (sc (i + 2)) (sc (i + 3)) hR
  refine g_aload_n o (q := 1140) 1 rfl rfl dL_law_1139 rfl ?_
  refine g_aload_n o (q := 1141) 0 rfl rfl dL_law_1140 rfl ?_
  refine g_iload_n o (q := 1142) 3 rfl rfl dL_law_1141 rfl ?_
  refine g_iconst o (v := 1) (q := 1143) (by decide) dL_law_1142 rfl ?_
  refine g_iadd o (q := 1144) dL_law_1143 rfl ?_
  refine g_scld o (q := 1145) hX hbl hbA (j := i + 1) (nI_add i 1) (by omega) (by omega) dL_law_1144 rfl ?_
  refine g_aload_n o (q := 1146) 0 rfl rfl dL_law_1145 rfl ?_
  refine g_iload_n o (q := 1147) 3 rfl rfl dL_law_1146 rfl ?_
  refine g_iconst o (v := 2) (q := 1148) (by decide) dL_law_1147 rfl ?_
  refine g_iadd o (q := 1149) dL_law_1148 rfl ?_
  refine g_scld o (q := 1150) hX hbl hbA (j := i + 2) (nI_add i 2) (by omega) (by omega) dL_law_1149 rfl ?_
  refine g_aload_n o (q := 1151) 0 rfl rfl dL_law_1150 rfl ?_
  refine g_iload_n o (q := 1152) 3 rfl rfl dL_law_1151 rfl ?_
  refine g_iconst o (v := 3) (q := 1153) (by decide) dL_law_1152 rfl ?_
  refine g_iadd o (q := 1154) dL_law_1153 rfl ?_
  refine g_scld o (q := 1155) hX hbl hbA (j := i + 3) (nI_add i 3) (by omega) (by omega) dL_law_1154 rfl ?_
  refine g_cvi o (q := 1158) (As := [.int (sc (i + 1)), .int (sc (i + 2)), .int (sc (i + 3))]) (rest := []) (f := some (r, cmb σ' μ)) (K := fun r τ => some (r, τ)) (res := (r, cmb σ' μ)) kv_X4_write lk_L_146 kL_0 (by decide) rfl rfl rfl (fun r1 τ e => by cases e; exact toC hid (c_X4_write (MKC μ) _ _ _ h1)) dL_law_1155 rfl ⟨rfl, rfl, (Nat.le_of_ble_eq_true rfl), (Nat.le_of_ble_eq_true rfl)⟩ (Nat.le_of_ble_eq_true rfl) rfl rfl (fun r1 τ e => ?_)
  cases e
  refine g_aload_n o (q := 1159) 2 rfl rfl dL_law_1158 rfl ?_
  refine g_aload_n o (q := 1160) 0 rfl rfl dL_law_1159 rfl ?_
  refine g_iload_n o (q := 1161) 3 rfl rfl dL_law_1160 rfl ?_
  refine g_iconst o (v := 1) (q := 1162) (by decide) dL_law_1161 rfl ?_
  refine g_iadd o (q := 1163) dL_law_1162 rfl ?_
  refine g_scld o (q := 1164) hX hbl hbA (j := i + 1) (nI_add i 1) (by omega) (by omega) dL_law_1163 rfl ?_
  refine g_aload_n o (q := 1165) 0 rfl rfl dL_law_1164 rfl ?_
  refine g_iload_n o (q := 1166) 3 rfl rfl dL_law_1165 rfl ?_
  refine g_iconst o (v := 2) (q := 1167) (by decide) dL_law_1166 rfl ?_
  refine g_iadd o (q := 1168) dL_law_1167 rfl ?_
  refine g_scld o (q := 1169) hX hbl hbA (j := i + 2) (nI_add i 2) (by omega) (by omega) dL_law_1168 rfl ?_
  refine g_aload_n o (q := 1170) 0 rfl rfl dL_law_1169 rfl ?_
  refine g_iload_n o (q := 1171) 3 rfl rfl dL_law_1170 rfl ?_
  refine g_iconst o (v := 3) (q := 1172) (by decide) dL_law_1171 rfl ?_
  refine g_iadd o (q := 1173) dL_law_1172 rfl ?_
  refine g_scld o (q := 1174) hX hbl hbA (j := i + 3) (nI_add i 3) (by omega) (by omega) dL_law_1173 rfl ?_
  refine g_cvi o (q := 1177) (As := [.int (sc (i + 1)), .int (sc (i + 2)), .int (sc (i + 3))]) (rest := [.int r]) (f := some (r, cmb σ' μ')) (K := fun r τ => some (r, τ)) (res := (r, cmb σ' μ')) kv_X5_write lk_L_149 kL_50 (by decide) rfl rfl rfl (fun r1 τ e => by cases e; exact toM hid (c_X5_write (MKM σ') _ _ _ h2)) dL_law_1174 rfl ⟨rfl, rfl, (Nat.le_of_ble_eq_true rfl), (Nat.le_of_ble_eq_true rfl)⟩ (Nat.le_of_ble_eq_true rfl) rfl rfl (fun r1 τ e => ?_)
  cases e
  refine g_icmp_eq o (tgt := 1376) (q := 1180) (A := some ()) (B := none) (res := ()) dL_law_1177 (by decide) rfl (if_pos rfl) (fun _ => ?_) (fun e => by cases e)
  exact hk σ' μ' h3
set_option maxHeartbeats 4000000 in
set_option maxRecDepth 100000 in
theorem law_c33 (hc : LC X l b L sc) (hs : Sims Rl) {σ μ : Mem} (hR : Rl σ μ) {i : Nat} (hi : i + 6 ≤ L) (hk : ∀ σ μ : Mem, Rl σ μ → G X (cmb σ μ) 1376 (lawLV X b i) []) : G X (cmb σ μ) 1182 (lawLV X b i) [] := by
  obtain ⟨o, hid, hX, hbl, hbA, hL⟩ := hc
  obtain ⟨r, σ', μ', h1, h2, h3⟩ := hs.s33 σ μ (sc (i + 1)) (sc (i + 2)) (sc (i + 3)) (sc (i + 4)) (sc (i + 5)) hR
  refine g_aload_n o (q := 1183) 1 rfl rfl dL_law_1182 rfl ?_
  refine g_aload_n o (q := 1184) 0 rfl rfl dL_law_1183 rfl ?_
  refine g_iload_n o (q := 1185) 3 rfl rfl dL_law_1184 rfl ?_
  refine g_iconst o (v := 1) (q := 1186) (by decide) dL_law_1185 rfl ?_
  refine g_iadd o (q := 1187) dL_law_1186 rfl ?_
  refine g_scld o (q := 1188) hX hbl hbA (j := i + 1) (nI_add i 1) (by omega) (by omega) dL_law_1187 rfl ?_
  refine g_aload_n o (q := 1189) 0 rfl rfl dL_law_1188 rfl ?_
  refine g_iload_n o (q := 1190) 3 rfl rfl dL_law_1189 rfl ?_
  refine g_iconst o (v := 2) (q := 1191) (by decide) dL_law_1190 rfl ?_
  refine g_iadd o (q := 1192) dL_law_1191 rfl ?_
  refine g_scld o (q := 1193) hX hbl hbA (j := i + 2) (nI_add i 2) (by omega) (by omega) dL_law_1192 rfl ?_
  refine g_aload_n o (q := 1194) 0 rfl rfl dL_law_1193 rfl ?_
  refine g_iload_n o (q := 1195) 3 rfl rfl dL_law_1194 rfl ?_
  refine g_iconst o (v := 3) (q := 1196) (by decide) dL_law_1195 rfl ?_
  refine g_iadd o (q := 1197) dL_law_1196 rfl ?_
  refine g_scld o (q := 1198) hX hbl hbA (j := i + 3) (nI_add i 3) (by omega) (by omega) dL_law_1197 rfl ?_
  refine g_aload_n o (q := 1199) 0 rfl rfl dL_law_1198 rfl ?_
  refine g_iload_n o (q := 1200) 3 rfl rfl dL_law_1199 rfl ?_
  refine g_iconst o (v := 4) (q := 1201) (by decide) dL_law_1200 rfl ?_
  refine g_iadd o (q := 1202) dL_law_1201 rfl ?_
  refine g_scld o (q := 1203) hX hbl hbA (j := i + 4) (nI_add i 4) (by omega) (by omega) dL_law_1202 rfl ?_
  refine g_aload_n o (q := 1204) 0 rfl rfl dL_law_1203 rfl ?_
  refine g_iload_n o (q := 1205) 3 rfl rfl dL_law_1204 rfl ?_
  refine g_iconst o (v := 5) (q := 1206) (by decide) dL_law_1205 rfl ?_
  refine g_iadd o (q := 1207) dL_law_1206 rfl ?_
  refine g_scld o (q := 1208) hX hbl hbA (j := i + 5) (nI_add i 5) (by omega) (by omega) dL_law_1207 rfl ?_
  refine g_cvi o (q := 1211) (As := [.int (sc (i + 1)), .int (sc (i + 2)), .int (sc (i + 3)), .int (sc (i + 4)), .int (sc (i + 5))]) (rest := []) (f := some (r, cmb σ' μ)) (K := fun r τ => some (r, τ)) (res := (r, cmb σ' μ)) kv_X4_copy lk_L_150 kL_0 (by decide) rfl rfl rfl (fun r1 τ e => by cases e; exact toC hid (c_X4_copy (MKC μ) _ _ _ _ _ h1)) dL_law_1208 rfl ⟨rfl, rfl, (Nat.le_of_ble_eq_true rfl), (Nat.le_of_ble_eq_true rfl)⟩ (Nat.le_of_ble_eq_true rfl) rfl rfl (fun r1 τ e => ?_)
  cases e
  refine g_aload_n o (q := 1212) 2 rfl rfl dL_law_1211 rfl ?_
  refine g_aload_n o (q := 1213) 0 rfl rfl dL_law_1212 rfl ?_
  refine g_iload_n o (q := 1214) 3 rfl rfl dL_law_1213 rfl ?_
  refine g_iconst o (v := 1) (q := 1215) (by decide) dL_law_1214 rfl ?_
  refine g_iadd o (q := 1216) dL_law_1215 rfl ?_
  refine g_scld o (q := 1217) hX hbl hbA (j := i + 1) (nI_add i 1) (by omega) (by omega) dL_law_1216 rfl ?_
  refine g_aload_n o (q := 1218) 0 rfl rfl dL_law_1217 rfl ?_
  refine g_iload_n o (q := 1219) 3 rfl rfl dL_law_1218 rfl ?_
  refine g_iconst o (v := 2) (q := 1220) (by decide) dL_law_1219 rfl ?_
  refine g_iadd o (q := 1221) dL_law_1220 rfl ?_
  refine g_scld o (q := 1222) hX hbl hbA (j := i + 2) (nI_add i 2) (by omega) (by omega) dL_law_1221 rfl ?_
  refine g_aload_n o (q := 1223) 0 rfl rfl dL_law_1222 rfl ?_
  refine g_iload_n o (q := 1224) 3 rfl rfl dL_law_1223 rfl ?_
  refine g_iconst o (v := 3) (q := 1225) (by decide) dL_law_1224 rfl ?_
  refine g_iadd o (q := 1226) dL_law_1225 rfl ?_
  refine g_scld o (q := 1227) hX hbl hbA (j := i + 3) (nI_add i 3) (by omega) (by omega) dL_law_1226 rfl ?_
  refine g_aload_n o (q := 1228) 0 rfl rfl dL_law_1227 rfl ?_
  refine g_iload_n o (q := 1229) 3 rfl rfl dL_law_1228 rfl ?_
  refine g_iconst o (v := 4) (q := 1230) (by decide) dL_law_1229 rfl ?_
  refine g_iadd o (q := 1231) dL_law_1230 rfl ?_
  refine g_scld o (q := 1232) hX hbl hbA (j := i + 4) (nI_add i 4) (by omega) (by omega) dL_law_1231 rfl ?_
  refine g_aload_n o (q := 1233) 0 rfl rfl dL_law_1232 rfl ?_
  refine g_iload_n o (q := 1234) 3 rfl rfl dL_law_1233 rfl ?_
  refine g_iconst o (v := 5) (q := 1235) (by decide) dL_law_1234 rfl ?_
  refine g_iadd o (q := 1236) dL_law_1235 rfl ?_
  refine g_scld o (q := 1237) hX hbl hbA (j := i + 5) (nI_add i 5) (by omega) (by omega) dL_law_1236 rfl ?_
  refine g_cvi o (q := 1240) (As := [.int (sc (i + 1)), .int (sc (i + 2)), .int (sc (i + 3)), .int (sc (i + 4)), .int (sc (i + 5))]) (rest := [.int r]) (f := some (r, cmb σ' μ')) (K := fun r τ => some (r, τ)) (res := (r, cmb σ' μ')) kv_X5_copy lk_L_154 kL_50 (by decide) rfl rfl rfl (fun r1 τ e => by cases e; exact toM hid (c_X5_copy (MKM σ') _ _ _ _ _ h2)) dL_law_1237 rfl ⟨rfl, rfl, (Nat.le_of_ble_eq_true rfl), (Nat.le_of_ble_eq_true rfl)⟩ (Nat.le_of_ble_eq_true rfl) rfl rfl (fun r1 τ e => ?_)
  cases e
  refine g_icmp_eq o (tgt := 1376) (q := 1243) (A := some ()) (B := none) (res := ()) dL_law_1240 (by decide) rfl (if_pos rfl) (fun _ => ?_) (fun e => by cases e)
  exact hk σ' μ' h3
set_option maxHeartbeats 4000000 in
set_option maxRecDepth 100000 in
theorem law_c34 (hc : LC X l b L sc) (hs : Sims Rl) {σ μ : Mem} (hR : Rl σ μ) {i : Nat} (hi : i + 6 ≤ L) (hk : ∀ σ μ : Mem, Rl σ μ → G X (cmb σ μ) 1376 (lawLV X b i) []) : G X (cmb σ μ) 1245 (lawLV X b i) [] := by
  obtain ⟨o, hid, hX, hbl, hbA, hL⟩ := hc
  obtain ⟨r, σ', μ', h1, h2, h3⟩ := hs.s34 σ μ (sc (i + 1)) hR
  refine g_aload_n o (q := 1246) 1 rfl rfl dL_law_1245 rfl ?_
  refine g_aload_n o (q := 1247) 0 rfl rfl dL_law_1246 rfl ?_
  refine g_iload_n o (q := 1248) 3 rfl rfl dL_law_1247 rfl ?_
  refine g_iconst o (v := 1) (q := 1249) (by decide) dL_law_1248 rfl ?_
  refine g_iadd o (q := 1250) dL_law_1249 rfl ?_
  refine g_scld o (q := 1251) hX hbl hbA (j := i + 1) (nI_add i 1) (by omega) (by omega) dL_law_1250 rfl ?_
  refine g_cvi o (q := 1254) (As := [.int (sc (i + 1))]) (rest := []) (f := some (r, cmb σ' μ)) (K := fun r τ => some (r, τ)) (res := (r, cmb σ' μ)) kv_X4_load lk_L_155 kL_0 (by decide) rfl rfl rfl (fun r1 τ e => by cases e; exact toC hid (c_X4_load (MKC μ) _ h1)) dL_law_1251 rfl ⟨rfl, rfl, (Nat.le_of_ble_eq_true rfl), (Nat.le_of_ble_eq_true rfl)⟩ (Nat.le_of_ble_eq_true rfl) rfl rfl (fun r1 τ e => ?_)
  cases e
  refine g_aload_n o (q := 1255) 2 rfl rfl dL_law_1254 rfl ?_
  refine g_aload_n o (q := 1256) 0 rfl rfl dL_law_1255 rfl ?_
  refine g_iload_n o (q := 1257) 3 rfl rfl dL_law_1256 rfl ?_
  refine g_iconst o (v := 1) (q := 1258) (by decide) dL_law_1257 rfl ?_
  refine g_iadd o (q := 1259) dL_law_1258 rfl ?_
  refine g_scld o (q := 1260) hX hbl hbA (j := i + 1) (nI_add i 1) (by omega) (by omega) dL_law_1259 rfl ?_
  refine g_cvi o (q := 1263) (As := [.int (sc (i + 1))]) (rest := [.int r]) (f := some (r, cmb σ' μ')) (K := fun r τ => some (r, τ)) (res := (r, cmb σ' μ')) kv_X5_load lk_L_158 kL_50 (by decide) rfl rfl rfl (fun r1 τ e => by cases e; exact toM hid (c_X5_load (MKM σ') _ h2)) dL_law_1260 rfl ⟨rfl, rfl, (Nat.le_of_ble_eq_true rfl), (Nat.le_of_ble_eq_true rfl)⟩ (Nat.le_of_ble_eq_true rfl) rfl rfl (fun r1 τ e => ?_)
  cases e
  refine g_icmp_eq o (tgt := 1376) (q := 1266) (A := some ()) (B := none) (res := ()) dL_law_1263 (by decide) rfl (if_pos rfl) (fun _ => ?_) (fun e => by cases e)
  exact hk σ' μ' h3
set_option maxHeartbeats 4000000 in
set_option maxRecDepth 100000 in
theorem law_c35 (hc : LC X l b L sc) (hs : Sims Rl) {σ μ : Mem} (hR : Rl σ μ) {i : Nat} (hi : i + 6 ≤ L) (hk : ∀ σ μ : Mem, Rl σ μ → G X (cmb σ μ) 1376 (lawLV X b i) []) : G X (cmb σ μ) 1268 (lawLV X b i) [] := by
  obtain ⟨o, hid, hX, hbl, hbA, hL⟩ := hc
  obtain ⟨r, σ', μ', h1, h2, h3⟩ := hs.s35 σ μ (sc (i + 1)) hR
  refine g_aload_n o (q := 1269) 1 rfl rfl dL_law_1268 rfl ?_
  refine g_aload_n o (q := 1270) 0 rfl rfl dL_law_1269 rfl ?_
  refine g_iload_n o (q := 1271) 3 rfl rfl dL_law_1270 rfl ?_
  refine g_iconst o (v := 1) (q := 1272) (by decide) dL_law_1271 rfl ?_
  refine g_iadd o (q := 1273) dL_law_1272 rfl ?_
  refine g_scld o (q := 1274) hX hbl hbA (j := i + 1) (nI_add i 1) (by omega) (by omega) dL_law_1273 rfl ?_
  refine g_cvi o (q := 1277) (As := [.int (sc (i + 1))]) (rest := []) (f := some (r, cmb σ' μ)) (K := fun r τ => some (r, τ)) (res := (r, cmb σ' μ)) kv_X4_judge lk_L_159 kL_0 (by decide) rfl rfl rfl (fun r1 τ e => by cases e; exact toC hid (c_X4_judge (MKC μ) _ h1)) dL_law_1274 rfl ⟨rfl, rfl, (Nat.le_of_ble_eq_true rfl), (Nat.le_of_ble_eq_true rfl)⟩ (Nat.le_of_ble_eq_true rfl) rfl rfl (fun r1 τ e => ?_)
  cases e
  refine g_aload_n o (q := 1278) 2 rfl rfl dL_law_1277 rfl ?_
  refine g_aload_n o (q := 1279) 0 rfl rfl dL_law_1278 rfl ?_
  refine g_iload_n o (q := 1280) 3 rfl rfl dL_law_1279 rfl ?_
  refine g_iconst o (v := 1) (q := 1281) (by decide) dL_law_1280 rfl ?_
  refine g_iadd o (q := 1282) dL_law_1281 rfl ?_
  refine g_scld o (q := 1283) hX hbl hbA (j := i + 1) (nI_add i 1) (by omega) (by omega) dL_law_1282 rfl ?_
  refine g_cvi o (q := 1286) (As := [.int (sc (i + 1))]) (rest := [.int r]) (f := some (r, cmb σ' μ')) (K := fun r τ => some (r, τ)) (res := (r, cmb σ' μ')) kv_X5_judge lk_L_162 kL_50 (by decide) rfl rfl rfl (fun r1 τ e => by cases e; exact toM hid (c_X5_judge (MKM σ') _ h2)) dL_law_1283 rfl ⟨rfl, rfl, (Nat.le_of_ble_eq_true rfl), (Nat.le_of_ble_eq_true rfl)⟩ (Nat.le_of_ble_eq_true rfl) rfl rfl (fun r1 τ e => ?_)
  cases e
  refine g_icmp_eq o (tgt := 1376) (q := 1289) (A := some ()) (B := none) (res := ()) dL_law_1286 (by decide) rfl (if_pos rfl) (fun _ => ?_) (fun e => by cases e)
  exact hk σ' μ' h3
set_option maxHeartbeats 4000000 in
set_option maxRecDepth 100000 in
theorem law_c36 (hc : LC X l b L sc) (hs : Sims Rl) {σ μ : Mem} (hR : Rl σ μ) {i : Nat} (hi : i + 6 ≤ L) (hk : ∀ σ μ : Mem, Rl σ μ → G X (cmb σ μ) 1376 (lawLV X b i) []) : G X (cmb σ μ) 1291 (lawLV X b i) [] := by
  obtain ⟨o, hid, hX, hbl, hbA, hL⟩ := hc
  obtain ⟨r, σ', μ', h1, h2, h3⟩ := hs.s36 σ μ  hR
  refine g_aload_n o (q := 1292) 1 rfl rfl dL_law_1291 rfl ?_
  refine g_cvi o (q := 1295) (As := []) (rest := []) (f := some (r, cmb σ' μ)) (K := fun r τ => some (r, τ)) (res := (r, cmb σ' μ)) kv_X4_image lk_L_163 kL_0 (by decide) rfl rfl rfl (fun r1 τ e => by cases e; exact toC hid (c_X4_image (MKC μ)  h1)) dL_law_1292 rfl ⟨rfl, rfl, (Nat.le_of_ble_eq_true rfl), (Nat.le_of_ble_eq_true rfl)⟩ (Nat.le_of_ble_eq_true rfl) rfl rfl (fun r1 τ e => ?_)
  cases e
  refine g_aload_n o (q := 1296) 2 rfl rfl dL_law_1295 rfl ?_
  refine g_cvi o (q := 1299) (As := []) (rest := [.int r]) (f := some (r, cmb σ' μ')) (K := fun r τ => some (r, τ)) (res := (r, cmb σ' μ')) kv_X5_image lk_L_166 kL_50 (by decide) rfl rfl rfl (fun r1 τ e => by cases e; exact toM hid (c_X5_image (MKM σ')  h2)) dL_law_1296 rfl ⟨rfl, rfl, (Nat.le_of_ble_eq_true rfl), (Nat.le_of_ble_eq_true rfl)⟩ (Nat.le_of_ble_eq_true rfl) rfl rfl (fun r1 τ e => ?_)
  cases e
  refine g_icmp_eq o (tgt := 1376) (q := 1302) (A := some ()) (B := none) (res := ()) dL_law_1299 (by decide) rfl (if_pos rfl) (fun _ => ?_) (fun e => by cases e)
  exact hk σ' μ' h3
set_option maxHeartbeats 4000000 in
set_option maxRecDepth 100000 in
theorem law_c37 (hc : LC X l b L sc) (hs : Sims Rl) {σ μ : Mem} (hR : Rl σ μ) {i : Nat} (hi : i + 6 ≤ L) (hk : ∀ σ μ : Mem, Rl σ μ → G X (cmb σ μ) 1376 (lawLV X b i) []) : G X (cmb σ μ) 1304 (lawLV X b i) [] := by
  obtain ⟨o, hid, hX, hbl, hbA, hL⟩ := hc
  obtain ⟨r, σ', μ', h1, h2, h3⟩ := hs.s37 σ μ  hR
  refine g_aload_n o (q := 1305) 1 rfl rfl dL_law_1304 rfl ?_
  refine g_cvi o (q := 1308) (As := []) (rest := []) (f := some (r, cmb σ' μ)) (K := fun r τ => some (r, τ)) (res := (r, cmb σ' μ)) kv_X4_undo lk_L_167 kL_0 (by decide) rfl rfl rfl (fun r1 τ e => by cases e; exact toC hid (c_X4_undo (MKC μ)  h1)) dL_law_1305 rfl ⟨rfl, rfl, (Nat.le_of_ble_eq_true rfl), (Nat.le_of_ble_eq_true rfl)⟩ (Nat.le_of_ble_eq_true rfl) rfl rfl (fun r1 τ e => ?_)
  cases e
  refine g_aload_n o (q := 1309) 2 rfl rfl dL_law_1308 rfl ?_
  refine g_cvi o (q := 1312) (As := []) (rest := [.int r]) (f := some (r, cmb σ' μ')) (K := fun r τ => some (r, τ)) (res := (r, cmb σ' μ')) kv_X5_undo lk_L_170 kL_50 (by decide) rfl rfl rfl (fun r1 τ e => by cases e; exact toM hid (c_X5_undo (MKM σ')  h2)) dL_law_1309 rfl ⟨rfl, rfl, (Nat.le_of_ble_eq_true rfl), (Nat.le_of_ble_eq_true rfl)⟩ (Nat.le_of_ble_eq_true rfl) rfl rfl (fun r1 τ e => ?_)
  cases e
  refine g_icmp_eq o (tgt := 1376) (q := 1315) (A := some ()) (B := none) (res := ()) dL_law_1312 (by decide) rfl (if_pos rfl) (fun _ => ?_) (fun e => by cases e)
  exact hk σ' μ' h3
set_option maxHeartbeats 4000000 in
set_option maxRecDepth 100000 in
theorem law_c38 (hc : LC X l b L sc) (hs : Sims Rl) {σ μ : Mem} (hR : Rl σ μ) {i : Nat} (hi : i + 6 ≤ L) (hk : ∀ σ μ : Mem, Rl σ μ → G X (cmb σ μ) 1376 (lawLV X b i) []) : G X (cmb σ μ) 1317 (lawLV X b i) [] := by
  obtain ⟨o, hid, hX, hbl, hbA, hL⟩ := hc
  obtain ⟨r, σ', μ', h1, h2, h3⟩ := hs.s38 σ μ  hR
  refine g_aload_n o (q := 1318) 1 rfl rfl dL_law_1317 rfl ?_
  refine g_cvi o (q := 1321) (As := []) (rest := []) (f := some (r, cmb σ' μ)) (K := fun r τ => some (r, τ)) (res := (r, cmb σ' μ)) kv_X4_tear lk_L_171 kL_0 (by decide) rfl rfl rfl (fun r1 τ e => by cases e; exact toC hid (c_X4_tear (MKC μ)  h1)) dL_law_1318 rfl ⟨rfl, rfl, (Nat.le_of_ble_eq_true rfl), (Nat.le_of_ble_eq_true rfl)⟩ (Nat.le_of_ble_eq_true rfl) rfl rfl (fun r1 τ e => ?_)
  cases e
  refine g_aload_n o (q := 1322) 2 rfl rfl dL_law_1321 rfl ?_
  refine g_cvi o (q := 1325) (As := []) (rest := [.int r]) (f := some (r, cmb σ' μ')) (K := fun r τ => some (r, τ)) (res := (r, cmb σ' μ')) kv_X5_tear lk_L_174 kL_50 (by decide) rfl rfl rfl (fun r1 τ e => by cases e; exact toM hid (c_X5_tear (MKM σ')  h2)) dL_law_1322 rfl ⟨rfl, rfl, (Nat.le_of_ble_eq_true rfl), (Nat.le_of_ble_eq_true rfl)⟩ (Nat.le_of_ble_eq_true rfl) rfl rfl (fun r1 τ e => ?_)
  cases e
  refine g_icmp_eq o (tgt := 1376) (q := 1328) (A := some ()) (B := none) (res := ()) dL_law_1325 (by decide) rfl (if_pos rfl) (fun _ => ?_) (fun e => by cases e)
  exact hk σ' μ' h3
set_option maxHeartbeats 4000000 in
set_option maxRecDepth 100000 in
theorem law_c39 (hc : LC X l b L sc) (hs : Sims Rl) {σ μ : Mem} (hR : Rl σ μ) {i : Nat} (hi : i + 6 ≤ L) (hk : ∀ σ μ : Mem, Rl σ μ → G X (cmb σ μ) 1376 (lawLV X b i) []) : G X (cmb σ μ) 1330 (lawLV X b i) [] := by
  obtain ⟨o, hid, hX, hbl, hbA, hL⟩ := hc
  obtain ⟨r, σ', μ', h1, h2, h3⟩ := hs.s39 σ μ (sc (i + 1)) hR
  refine g_aload_n o (q := 1331) 1 rfl rfl dL_law_1330 rfl ?_
  refine g_aload_n o (q := 1332) 0 rfl rfl dL_law_1331 rfl ?_
  refine g_iload_n o (q := 1333) 3 rfl rfl dL_law_1332 rfl ?_
  refine g_iconst o (v := 1) (q := 1334) (by decide) dL_law_1333 rfl ?_
  refine g_iadd o (q := 1335) dL_law_1334 rfl ?_
  refine g_scld o (q := 1336) hX hbl hbA (j := i + 1) (nI_add i 1) (by omega) (by omega) dL_law_1335 rfl ?_
  refine g_cvi o (q := 1339) (As := [.int (sc (i + 1))]) (rest := []) (f := some (r, cmb σ' μ)) (K := fun r τ => some (r, τ)) (res := (r, cmb σ' μ)) kv_X4_count lk_L_175 kL_0 (by decide) rfl rfl rfl (fun r1 τ e => by cases e; exact toC hid (c_X4_count (MKC μ) _ h1)) dL_law_1336 rfl ⟨rfl, rfl, (Nat.le_of_ble_eq_true rfl), (Nat.le_of_ble_eq_true rfl)⟩ (Nat.le_of_ble_eq_true rfl) rfl rfl (fun r1 τ e => ?_)
  cases e
  refine g_aload_n o (q := 1340) 2 rfl rfl dL_law_1339 rfl ?_
  refine g_aload_n o (q := 1341) 0 rfl rfl dL_law_1340 rfl ?_
  refine g_iload_n o (q := 1342) 3 rfl rfl dL_law_1341 rfl ?_
  refine g_iconst o (v := 1) (q := 1343) (by decide) dL_law_1342 rfl ?_
  refine g_iadd o (q := 1344) dL_law_1343 rfl ?_
  refine g_scld o (q := 1345) hX hbl hbA (j := i + 1) (nI_add i 1) (by omega) (by omega) dL_law_1344 rfl ?_
  refine g_cvi o (q := 1348) (As := [.int (sc (i + 1))]) (rest := [.int r]) (f := some (r, cmb σ' μ')) (K := fun r τ => some (r, τ)) (res := (r, cmb σ' μ')) kv_X5_count lk_L_178 kL_50 (by decide) rfl rfl rfl (fun r1 τ e => by cases e; exact toM hid (c_X5_count (MKM σ') _ h2)) dL_law_1345 rfl ⟨rfl, rfl, (Nat.le_of_ble_eq_true rfl), (Nat.le_of_ble_eq_true rfl)⟩ (Nat.le_of_ble_eq_true rfl) rfl rfl (fun r1 τ e => ?_)
  cases e
  refine g_icmp_eq o (tgt := 1376) (q := 1351) (A := some ()) (B := none) (res := ()) dL_law_1348 (by decide) rfl (if_pos rfl) (fun _ => ?_) (fun e => by cases e)
  exact hk σ' μ' h3
set_option maxHeartbeats 4000000 in
set_option maxRecDepth 100000 in
theorem law_c40 (hc : LC X l b L sc) (hs : Sims Rl) {σ μ : Mem} (hR : Rl σ μ) {i : Nat} (hi : i + 6 ≤ L) (hk : ∀ σ μ : Mem, Rl σ μ → G X (cmb σ μ) 1376 (lawLV X b i) []) : G X (cmb σ μ) 1353 (lawLV X b i) [] := by
  obtain ⟨o, hid, hX, hbl, hbA, hL⟩ := hc
  obtain ⟨r, σ', μ', h1, h2, h3⟩ := hs.s40 σ μ (sc (i + 1)) hR
  refine g_aload_n o (q := 1354) 1 rfl rfl dL_law_1353 rfl ?_
  refine g_aload_n o (q := 1355) 0 rfl rfl dL_law_1354 rfl ?_
  refine g_iload_n o (q := 1356) 3 rfl rfl dL_law_1355 rfl ?_
  refine g_iconst o (v := 1) (q := 1357) (by decide) dL_law_1356 rfl ?_
  refine g_iadd o (q := 1358) dL_law_1357 rfl ?_
  refine g_scld o (q := 1359) hX hbl hbA (j := i + 1) (nI_add i 1) (by omega) (by omega) dL_law_1358 rfl ?_
  refine g_cvi o (q := 1362) (As := [.int (sc (i + 1))]) (rest := []) (f := some (r, cmb σ' μ)) (K := fun r τ => some (r, τ)) (res := (r, cmb σ' μ)) kv_X4_status lk_L_179 kL_0 (by decide) rfl rfl rfl (fun r1 τ e => by cases e; exact toC hid (c_X4_status (MKC μ) _ h1)) dL_law_1359 rfl ⟨rfl, rfl, (Nat.le_of_ble_eq_true rfl), (Nat.le_of_ble_eq_true rfl)⟩ (Nat.le_of_ble_eq_true rfl) rfl rfl (fun r1 τ e => ?_)
  cases e
  refine g_aload_n o (q := 1363) 2 rfl rfl dL_law_1362 rfl ?_
  refine g_aload_n o (q := 1364) 0 rfl rfl dL_law_1363 rfl ?_
  refine g_iload_n o (q := 1365) 3 rfl rfl dL_law_1364 rfl ?_
  refine g_iconst o (v := 1) (q := 1366) (by decide) dL_law_1365 rfl ?_
  refine g_iadd o (q := 1367) dL_law_1366 rfl ?_
  refine g_scld o (q := 1368) hX hbl hbA (j := i + 1) (nI_add i 1) (by omega) (by omega) dL_law_1367 rfl ?_
  refine g_cvi o (q := 1371) (As := [.int (sc (i + 1))]) (rest := [.int r]) (f := some (r, cmb σ' μ')) (K := fun r τ => some (r, τ)) (res := (r, cmb σ' μ')) kv_X5_status lk_L_182 kL_50 (by decide) rfl rfl rfl (fun r1 τ e => by cases e; exact toM hid (c_X5_status (MKM σ') _ h2)) dL_law_1368 rfl ⟨rfl, rfl, (Nat.le_of_ble_eq_true rfl), (Nat.le_of_ble_eq_true rfl)⟩ (Nat.le_of_ble_eq_true rfl) rfl rfl (fun r1 τ e => ?_)
  cases e
  refine g_icmp_eq o (tgt := 1376) (q := 1374) (A := some ()) (B := none) (res := ()) dL_law_1371 (by decide) rfl (if_pos rfl) (fun _ => ?_) (fun e => by cases e)
  exact hk σ' μ' h3
theorem law_end (hc : LC X l b L sc) (hQ : xQ X = lw_Z (xb X) #[Value.ref b] (xs X)) (ha : xa X = #[Value.ref b]) (hret : (xM X).sig.returnType = ret) (hWA : ∀ q, WA (xE X) q → (xs X).heap.size ≤ q) {ρ : Mem} {lv : LV} : G X ρ 1383 lv [.int 1] := fun H locs ls hP hS hl => by
  obtain ⟨o, hid, hX, hbl, hbA, hL⟩ := hc
  rw [hQ, ha, o.r]
  refine va_forget (fun q hq => hWA _ (hS.2.2 q hq)) ?_
  refine W.widen (k := 600000) (n := 7302250) o.hc o.hs ?_
  exact lw_ret o.x o.b hret o.lo dL_law_1383
set_option maxHeartbeats 4000000 in
set_option maxRecDepth 100000 in
theorem law_loop (hc : LC X l b L sc) (hs : Sims Rl) (hQ : xQ X = lw_Z (xb X) #[Value.ref b] (xs X)) (ha : xa X = #[Value.ref b]) (hret : (xM X).sig.returnType = ret) (hWA : ∀ q, WA (xE X) q → (xs X).heap.size ≤ q) : ∀ (n i : Nat) (σ μ : Mem), i ≤ L + 6 → L + 6 - i < n → Rl σ μ → G X (cmb σ μ) 18 (lawLV X b i) [] := by
  intro n
  induction n with
  | zero => intro i σ μ _ h _; omega
  | succ n ih =>
    intro i σ μ hi hn hR
    have hc' := hc
    obtain ⟨o, hid, hX, hbl, hbA, hL⟩ := hc
    refine g_iload_n o (q := 19) 3 rfl rfl dL_law_18 rfl ?_
    refine g_aload_n o (q := 20) 0 rfl rfl dL_law_19 rfl ?_
    refine g_sclen o (q := 21) hX hbl hbA dL_law_20 rfl ?_
    refine g_bipush o (v := 6) (q := 23) (by decide) dL_law_21 rfl ?_
    refine g_isub o (q := 24) dL_law_23 rfl ?_
    have e1 : (nI L - nI 6).toInt = (L : Int) - (6 : Nat) := pk_sub_toInt (by omega) (by omega)
    have e2 : (nI i).toInt = (i : Int) := nI_toInt (by omega)
    by_cases c : L < i + 6
    · have hgt : (nI L - nI 6) < nI i := by
        rw [Int32.lt_iff_toInt_lt, e1, e2]; omega
      refine g_icmp_gt o (tgt := 1382) (q := 27) (A := some ()) (B := none) (res := ()) dL_law_24 (by decide) rfl (if_pos hgt) (fun _ => ?_) (fun e => by cases e)
      refine g_iconst o (v := 1) (q := 1383) (by decide) dL_law_1382 rfl ?_
      exact law_end hc' hQ ha hret hWA
    · have hle : ¬ (nI L - nI 6) < nI i := by
        rw [Int32.lt_iff_toInt_lt, e1, e2]; omega
      have hi6 : i + 6 ≤ L := by omega
      refine g_icmp_gt o (tgt := 1382) (q := 27) (A := none) (B := some ()) (res := ()) dL_law_24 (by decide) rfl (if_neg hle) (fun e => by cases e) (fun _ => ?_)
      have hk : ∀ σ μ : Mem, Rl σ μ → G X (cmb σ μ) 1376 (lawLV X b i) [] := by
        intro σ μ hR
        refine g_iinc o (q := 1379) (dn := 6) (K := fun x => if x = nI (i + 6) then some () else none) (res := ()) dL_law_1376 rfl 3 rfl (by decide) (by decide) (if_pos (nI_add i 6)) (fun x => [(3, .int x), (0, .ref b), (1, .ref (eA (xE X) 0)), (2, .ref (eA (xE X) 50))]) (fun _ => rfl) (fun x h => ?_)
        split at h
        · rename_i ex
          subst ex
          refine g_goto o (tgt := 18) dL_law_1379 (by decide) ?_
          refine g_sub (lv' := lawLV X b (i + 6)) [1, 2, 3, 0] rfl ?_
          exact ih (i + 6) σ μ (by omega) (by omega) hR
        · cases h
      refine g_aload_n o (q := 28) 0 rfl rfl dL_law_27 rfl ?_
      refine g_iload_n o (q := 29) 3 rfl rfl dL_law_28 rfl ?_
      refine g_scld o (q := 30) hX hbl hbA (j := i) rfl (by omega) (by omega) dL_law_29 rfl ?_
      refine g_bipush o (v := 63) (q := 32) (by decide) dL_law_30 rfl ?_
      refine g_iand o (q := 33) dL_law_32 rfl ?_
      refine g_swC o (tgt := 212) (off := 179) 0 dL_law_33 (by decide) (by decide) (by decide +kernel) (by decide) (law_c0 hc' hs hR hi6 hk) (fun c0 => ?_)
      refine g_swC o (tgt := 235) (off := 202) 1 dL_law_33 (by decide) (by decide) (by decide +kernel) (by decide) (law_c1 hc' hs hR hi6 hk) (fun c1 => ?_)
      refine g_swC o (tgt := 268) (off := 235) 2 dL_law_33 (by decide) (by decide) (by decide +kernel) (by decide) (law_c2 hc' hs hR hi6 hk) (fun c2 => ?_)
      refine g_swC o (tgt := 291) (off := 258) 3 dL_law_33 (by decide) (by decide) (by decide +kernel) (by decide) (law_c3 hc' hs hR hi6 hk) (fun c3 => ?_)
      refine g_swC o (tgt := 324) (off := 291) 4 dL_law_33 (by decide) (by decide) (by decide +kernel) (by decide) (law_c4 hc' hs hR hi6 hk) (fun c4 => ?_)
      refine g_swC o (tgt := 357) (off := 324) 5 dL_law_33 (by decide) (by decide) (by decide +kernel) (by decide) (law_c5 hc' hs hR hi6 hk) (fun c5 => ?_)
      refine g_swC o (tgt := 400) (off := 367) 6 dL_law_33 (by decide) (by decide) (by decide +kernel) (by decide) (law_c6 hc' hs hR hi6 hk) (fun c6 => ?_)
      refine g_swC o (tgt := 433) (off := 400) 7 dL_law_33 (by decide) (by decide) (by decide +kernel) (by decide) (law_c7 hc' hs hR hi6 hk) (fun c7 => ?_)
      refine g_swC o (tgt := 456) (off := 423) 8 dL_law_33 (by decide) (by decide) (by decide +kernel) (by decide) (law_c8 hc' hs hR hi6 hk) (fun c8 => ?_)
      refine g_swC o (tgt := 479) (off := 446) 9 dL_law_33 (by decide) (by decide) (by decide +kernel) (by decide) (law_c9 hc' hs hR hi6 hk) (fun c9 => ?_)
      refine g_swC o (tgt := 522) (off := 489) 10 dL_law_33 (by decide) (by decide) (by decide +kernel) (by decide) (law_c10 hc' hs hR hi6 hk) (fun c10 => ?_)
      refine g_swC o (tgt := 545) (off := 512) 11 dL_law_33 (by decide) (by decide) (by decide +kernel) (by decide) (law_c11 hc' hs hR hi6 hk) (fun c11 => ?_)
      refine g_swC o (tgt := 568) (off := 535) 12 dL_law_33 (by decide) (by decide) (by decide +kernel) (by decide) (law_c12 hc' hs hR hi6 hk) (fun c12 => ?_)
      refine g_swC o (tgt := 591) (off := 558) 13 dL_law_33 (by decide) (by decide) (by decide +kernel) (by decide) (law_c13 hc' hs hR hi6 hk) (fun c13 => ?_)
      refine g_swC o (tgt := 624) (off := 591) 14 dL_law_33 (by decide) (by decide) (by decide +kernel) (by decide) (law_c14 hc' hs hR hi6 hk) (fun c14 => ?_)
      refine g_swC o (tgt := 647) (off := 614) 15 dL_law_33 (by decide) (by decide) (by decide +kernel) (by decide) (law_c15 hc' hs hR hi6 hk) (fun c15 => ?_)
      refine g_swC o (tgt := 680) (off := 647) 16 dL_law_33 (by decide) (by decide) (by decide +kernel) (by decide) (law_c16 hc' hs hR hi6 hk) (fun c16 => ?_)
      refine g_swC o (tgt := 713) (off := 680) 17 dL_law_33 (by decide) (by decide) (by decide +kernel) (by decide) (law_c17 hc' hs hR hi6 hk) (fun c17 => ?_)
      refine g_swC o (tgt := 746) (off := 713) 18 dL_law_33 (by decide) (by decide) (by decide +kernel) (by decide) (law_c18 hc' hs hR hi6 hk) (fun c18 => ?_)
      refine g_swC o (tgt := 779) (off := 746) 19 dL_law_33 (by decide) (by decide) (by decide +kernel) (by decide) (law_c19 hc' hs hR hi6 hk) (fun c19 => ?_)
      refine g_swC o (tgt := 802) (off := 769) 20 dL_law_33 (by decide) (by decide) (by decide +kernel) (by decide) (law_c20 hc' hs hR hi6 hk) (fun c20 => ?_)
      refine g_swC o (tgt := 815) (off := 782) 21 dL_law_33 (by decide) (by decide) (by decide +kernel) (by decide) (law_c21 hc' hs hR hi6 hk) (fun c21 => ?_)
      refine g_swC o (tgt := 848) (off := 815) 22 dL_law_33 (by decide) (by decide) (by decide +kernel) (by decide) (law_c22 hc' hs hR hi6 hk) (fun c22 => ?_)
      refine g_swC o (tgt := 881) (off := 848) 23 dL_law_33 (by decide) (by decide) (by decide +kernel) (by decide) (law_c23 hc' hs hR hi6 hk) (fun c23 => ?_)
      refine g_swC o (tgt := 904) (off := 871) 24 dL_law_33 (by decide) (by decide) (by decide +kernel) (by decide) (law_c24 hc' hs hR hi6 hk) (fun c24 => ?_)
      refine g_swC o (tgt := 948) (off := 915) 25 dL_law_33 (by decide) (by decide) (by decide +kernel) (by decide) (law_c25 hc' hs hR hi6 hk) (fun c25 => ?_)
      refine g_swC o (tgt := 971) (off := 938) 26 dL_law_33 (by decide) (by decide) (by decide +kernel) (by decide) (law_c26 hc' hs hR hi6 hk) (fun c26 => ?_)
      refine g_swC o (tgt := 1004) (off := 971) 27 dL_law_33 (by decide) (by decide) (by decide +kernel) (by decide) (law_c27 hc' hs hR hi6 hk) (fun c27 => ?_)
      refine g_swC o (tgt := 1017) (off := 984) 28 dL_law_33 (by decide) (by decide) (by decide +kernel) (by decide) (law_c28 hc' hs hR hi6 hk) (fun c28 => ?_)
      refine g_swC o (tgt := 1030) (off := 997) 29 dL_law_33 (by decide) (by decide) (by decide +kernel) (by decide) (law_c29 hc' hs hR hi6 hk) (fun c29 => ?_)
      refine g_swC o (tgt := 1063) (off := 1030) 30 dL_law_33 (by decide) (by decide) (by decide +kernel) (by decide) (law_c30 hc' hs hR hi6 hk) (fun c30 => ?_)
      refine g_swC o (tgt := 1096) (off := 1063) 31 dL_law_33 (by decide) (by decide) (by decide +kernel) (by decide) (law_c31 hc' hs hR hi6 hk) (fun c31 => ?_)
      refine g_swC o (tgt := 1139) (off := 1106) 32 dL_law_33 (by decide) (by decide) (by decide +kernel) (by decide) (law_c32 hc' hs hR hi6 hk) (fun c32 => ?_)
      refine g_swC o (tgt := 1182) (off := 1149) 33 dL_law_33 (by decide) (by decide) (by decide +kernel) (by decide) (law_c33 hc' hs hR hi6 hk) (fun c33 => ?_)
      refine g_swC o (tgt := 1245) (off := 1212) 34 dL_law_33 (by decide) (by decide) (by decide +kernel) (by decide) (law_c34 hc' hs hR hi6 hk) (fun c34 => ?_)
      refine g_swC o (tgt := 1268) (off := 1235) 35 dL_law_33 (by decide) (by decide) (by decide +kernel) (by decide) (law_c35 hc' hs hR hi6 hk) (fun c35 => ?_)
      refine g_swC o (tgt := 1291) (off := 1258) 36 dL_law_33 (by decide) (by decide) (by decide +kernel) (by decide) (law_c36 hc' hs hR hi6 hk) (fun c36 => ?_)
      refine g_swC o (tgt := 1304) (off := 1271) 37 dL_law_33 (by decide) (by decide) (by decide +kernel) (by decide) (law_c37 hc' hs hR hi6 hk) (fun c37 => ?_)
      refine g_swC o (tgt := 1317) (off := 1284) 38 dL_law_33 (by decide) (by decide) (by decide +kernel) (by decide) (law_c38 hc' hs hR hi6 hk) (fun c38 => ?_)
      refine g_swC o (tgt := 1330) (off := 1297) 39 dL_law_33 (by decide) (by decide) (by decide +kernel) (by decide) (law_c39 hc' hs hR hi6 hk) (fun c39 => ?_)
      refine g_swC o (tgt := 1353) (off := 1320) 40 dL_law_33 (by decide) (by decide) (by decide +kernel) (by decide) (law_c40 hc' hs hR hi6 hk) (fun c40 => ?_)
      refine g_swOut o (tgt := 1376) dL_law_33 (sw_out (by decide) (by decide) (fun k h1 h2 => by rcases (show k = 0 ∨ k = 1 ∨ k = 2 ∨ k = 3 ∨ k = 4 ∨ k = 5 ∨ k = 6 ∨ k = 7 ∨ k = 8 ∨ k = 9 ∨ k = 10 ∨ k = 11 ∨ k = 12 ∨ k = 13 ∨ k = 14 ∨ k = 15 ∨ k = 16 ∨ k = 17 ∨ k = 18 ∨ k = 19 ∨ k = 20 ∨ k = 21 ∨ k = 22 ∨ k = 23 ∨ k = 24 ∨ k = 25 ∨ k = 26 ∨ k = 27 ∨ k = 28 ∨ k = 29 ∨ k = 30 ∨ k = 31 ∨ k = 32 ∨ k = 33 ∨ k = 34 ∨ k = 35 ∨ k = 36 ∨ k = 37 ∨ k = 38 ∨ k = 39 ∨ k = 40 by omega) with rfl | rfl | rfl | rfl | rfl | rfl | rfl | rfl | rfl | rfl | rfl | rfl | rfl | rfl | rfl | rfl | rfl | rfl | rfl | rfl | rfl | rfl | rfl | rfl | rfl | rfl | rfl | rfl | rfl | rfl | rfl | rfl | rfl | rfl | rfl | rfl | rfl | rfl | rfl | rfl | rfl <;> assumption)) (by decide) ?_
      exact hk σ μ hR

end LAW
