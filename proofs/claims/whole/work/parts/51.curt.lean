/-! ONE CURTAIN: what a beat does to its six numbers (0 kind, 1 mood, 2 likes, 3 high, 4 tied, 5 downs) -/
def bt1 (x : Int32) : Int32 := x - (((x.toUInt32 >>> ((1 : Int32).toUInt32 &&& Int32.toUInt32 31)).toInt32) &&& (1431655765))
def bt2 (x : Int32) : Int32 := (x &&& (858993459)) + (((x.toUInt32 >>> ((2 : Int32).toUInt32 &&& Int32.toUInt32 31)).toInt32) &&& (858993459))
def bt3 (x : Int32) : Int32 := (x + ((x.toUInt32 >>> ((4 : Int32).toUInt32 &&& Int32.toUInt32 31)).toInt32)) &&& (252645135)
def bt4 (x : Int32) : Int32 := x + ((x.toUInt32 >>> ((8 : Int32).toUInt32 &&& Int32.toUInt32 31)).toInt32)
def bt5 (x : Int32) : Int32 := x + ((x.toUInt32 >>> ((16 : Int32).toUInt32 &&& Int32.toUInt32 31)).toInt32)
def bitc (x : Int32) : Int32 := bt5 (bt4 (bt3 (bt2 (bt1 x)))) &&& 63
theorem bitc_C {x : Int32} {σ : Mem} : f_J6_bitCount_0f7a4 x σ = some (bitc x, σ) := rfl
def tb (t : Nat) (x : Int32) : Int32 := (sTab t).getD x.toNatClampNeg 0
def gla (c : Nat → Int32) : Int32 := if c 0 = 4 then tb 0 (c 0) + bitc (c 2) else tb 0 (c 0)
def tir (c : Nat → Int32) (S : Int32) : Int32 := if c 0 = 6 ∧ c 3 = 0 then 0 else if c 0 = 3 ∨ c 0 = 4 then tb 1 (c 0) + (S &&& 1) else tb 1 (c 0)
def bea (c : Nat → Int32) : Int32 := tb 2 (c 0)
def fal (c : Nat → Int32) (F : Int32) : Int32 := if c 0 = 6 ∧ F = 1 then tb 3 (c 0) + 6 else tb 3 (c 0)
def ris (c : Nat → Int32) : Int32 := tb 4 (c 0)
def lks (c : Nat → Int32) (S : Int32) : Prop := (((c 2) >>> (S &&& 31)) &&& 1) = 1
def mo1 (c : Nat → Int32) (S : Int32) : Int32 := if (((c 2) >>> (S &&& 31)) &&& 1) = 1 then (if c 1 + gla c < 99 then c 1 + gla c else 99) else (if 0 < c 1 - tir c S then c 1 - tir c S else 0)
def fee (c : Nat → Int32) (S : Int32) : Nat → Int32 := upd c 1 (mo1 c S)
def hi1 (c : Nat → Int32) (F : Int32) : Int32 := if F = 1 ∨ ¬ bea c ≤ c 1 then (if 0 < c 3 - fal c F then c 3 - fal c F else 0) else (if c 3 + ris c < 20 then c 3 + ris c else 20)
def mov (c : Nat → Int32) (F : Int32) : Nat → Int32 := upd c 3 (hi1 c F)
def dn1 (c : Nat → Int32) : Nat → Int32 := upd c 5 (if c 5 + 1 < 9999 then c 5 + 1 else 9999)
def dwn (c : Nat → Int32) (F : Int32) : Nat → Int32 := if F = 0 then upd (dn1 c) 1 (if c 1 + 25 < 99 then c 1 + 25 else 99) else dn1 c
/-- does it come down in this beat -/
abbrev cam (c : Nat → Int32) (S F : Int32) : Prop := ¬ c 4 = 1 ∧ ¬ c 3 ≤ 0 ∧ hi1 (fee c S) F = 0
def pla (c : Nat → Int32) (S F : Int32) : Nat → Int32 := if c 4 = 1 then fee c S else if cam c S F then dwn (mov (fee c S) F) F else mov (fee c S) F
theorem vI7 {β : Type} {x : Int32} {K : Nat → Option β} (h : rg x 6) : vI 7 x K = K x.toNatClampNeg := by
  obtain ⟨k, hk, rfl⟩ := h
  rw [vI_at rfl (by omega) (by decide), nI_clamp (by omega)]
section CUR
variable {a : Nat} {σ : Mem} {S F : Int32}
theorem gla_C (h : rg (σ a 0) 6) : f_X0_gladdens a σ = some (gla (σ a), σ) := by
  unfold f_X0_gladdens gla tb
  split
  · rw [vI7 h, bitc_C, vC_s]
  · rw [vI7 h]
theorem tir_C (h : rg (σ a 0) 6) : f_X0_tires a S σ = some (tir (σ a) S, σ) := by
  unfold f_X0_tires f_X0_tires_J18 f_X0_tires_J34 tir tb
  rw [vI7 h, vI7 h]
  by_cases h1 : σ a 0 = 6 <;> by_cases h2 : σ a 3 = 0 <;> by_cases h3 : σ a 0 = 3 <;> by_cases h4 : σ a 0 = 4 <;> simp [h1, h2, h3, h4]
theorem bea_C (h : rg (σ a 0) 6) : f_X0_bears a σ = some (bea (σ a), σ) := by
  unfold f_X0_bears bea tb
  rw [vI7 h]
theorem fal_C (h : rg (σ a 0) 6) : f_X0_falls a F σ = some (fal (σ a) F, σ) := by
  unfold f_X0_falls f_X0_falls_J28 fal tb
  rw [vI7 h, vI7 h]
  by_cases h1 : σ a 0 = 6 <;> by_cases h2 : F = 1 <;> simp [h1, h2]
theorem ris_C (h : rg (σ a 0) 6) : f_X0_rises a σ = some (ris (σ a), σ) := by
  unfold f_X0_rises ris tb
  rw [vI7 h]
theorem fee_C (h : rg (σ a 0) 6) : f_X0_feel a S σ = some ((), setr σ a (fee (σ a) S)) := by
  unfold f_X0_feel fee mo1
  rw [gla_C h, tir_C h, vC_s, vC_s]
  split <;> rfl
theorem dwn_C : f_X0_comeDown a F σ = some ((), setr σ a (dwn (σ a) F)) := by
  unfold f_X0_comeDown dwn dn1
  rw [vW_e, vW_e]
  split
  · simp only [up2, setr_same, setr_setr]
    rfl
  · rfl
theorem J99_0 : f_X0_passBeat_J99 a F 0 σ = some (0, σ) := rfl
theorem J99_1 : f_X0_passBeat_J99 a F 1 σ = some (1, setr σ a (dwn (σ a) F)) := by
  unfold f_X0_passBeat_J99
  rw [vL_e, dwn_C]
  rfl
theorem pla_C (h : rg (σ a 0) 6) : f_X0_passBeat a S F σ = some (if cam (σ a) S F then 1 else 0, setr σ a (pla (σ a) S F)) := by
  unfold f_X0_passBeat
  rw [fee_C h, vC_s]
  have e0 : (setr σ a (fee (σ a) S)) a = fee (σ a) S := setr_same
  have e4 : (fee (σ a) S) 4 = σ a 4 := rfl
  have e3 : (fee (σ a) S) 3 = σ a 3 := rfl
  have h1 : rg ((setr σ a (fee (σ a) S)) a 0) 6 := by rw [e0]; exact h
  rw [e0, e4, e3]
  unfold pla
  by_cases ht : σ a 4 = 1
  · rw [if_pos ht, if_pos ht, if_neg (fun q => q.1 ht)]
  · rw [if_neg ht, if_neg ht]
    have key : ∀ w : Int32, (w = 0 ∨ w = 1) → (w = 0 ↔ σ a 3 ≤ 0) → f_X0_passBeat_J27 a F w (setr σ a (fee (σ a) S)) = some (if cam (σ a) S F then 1 else 0, setr σ a (if cam (σ a) S F then dwn (mov (fee (σ a) S) F) F else mov (fee (σ a) S) F)) := by
      intro w hw hw0
      have J83 : f_X0_passBeat_J83 a F w (setr σ a (mov (fee (σ a) S) F)) = some (if cam (σ a) S F then 1 else 0, setr σ a (if cam (σ a) S F then dwn (mov (fee (σ a) S) F) F else mov (fee (σ a) S) F)) := by
        unfold f_X0_passBeat_J83 f_X0_passBeat_J98
        rw [J99_0, J99_1, setr_same]
        have e5 : (mov (fee (σ a) S) F) 3 = hi1 (fee (σ a) S) F := rfl
        rw [e5, setr_setr]
        by_cases h5 : σ a 3 ≤ 0
        · rw [if_pos (hw0.mpr h5), if_neg (fun q => q.2.1 h5), if_neg (fun q => q.2.1 h5)]
        · rw [if_neg (fun q => h5 (hw0.mp q))]
          by_cases h6 : hi1 (fee (σ a) S) F = 0
          · rw [if_pos h6, if_pos ⟨ht, h5, h6⟩, if_pos ⟨ht, h5, h6⟩]
          · rw [if_neg h6, if_neg (fun q => h6 q.2.2), if_neg (fun q => h6 q.2.2)]
      unfold f_X0_passBeat_J27 f_X0_passBeat_J44
      have m1 : ∀ v : Int32, up2 (setr σ a (fee (σ a) S)) a 3 v = setr σ a (upd (fee (σ a) S) 3 v) := fun v => up2_setr
      simp only [vL_e, fal_C h1, bea_C h1, ris_C h1, vC_s, vW_e, e0, m1]
      have hm : mov (fee (σ a) S) F = upd (fee (σ a) S) 3 (hi1 (fee (σ a) S) F) := rfl
      by_cases hF : F = 1
      · rw [if_pos hF, ← J83, hm]
        unfold hi1
        rw [if_pos (Or.inl hF)]
      · rw [if_neg hF]
        by_cases hb : bea (fee (σ a) S) ≤ (fee (σ a) S) 1
        · rw [if_pos hb, ← J83, hm]
          unfold hi1
          have hn : ¬ (F = 1 ∨ ¬ bea (fee (σ a) S) ≤ fee (σ a) S 1) := fun q => q.elim hF (fun z => z hb)
          rw [if_neg hn]
        · rw [if_neg hb, ← J83, hm]
          unfold hi1
          rw [if_pos (Or.inr hb)]
    by_cases h3 : σ a 3 ≤ 0
    · rw [if_pos h3]
      exact key 0 (Or.inl rfl) ⟨fun _ => h3, fun _ => rfl⟩
    · rw [if_neg h3]
      exact key 1 (Or.inr rfl) ⟨fun q => absurd q (by decide), fun q => absurd q h3⟩
end CUR
