/-! THE REFERENCE's beat, as a change of its row -/
theorem cur_upd {N : Nat → Int32} {i f : Nat} {v : Int32} : cur (upd N (22 + 6 * i + f) v) i = upd (cur N i) f v := by
  funext g
  simp only [cur, upd]
  by_cases h : g = f
  · rw [if_pos h, if_pos (by omega)]
  · rw [if_neg h, if_neg (by omega)]
theorem cur_lo {N : Nat → Int32} {i p : Nat} {v : Int32} (hp : p < 22) : cur (upd N p v) i = cur N i := by
  funext g
  simp only [cur, upd]
  rw [if_neg (by omega)]
theorem cur_ne {N : Nat → Int32} {i j f g : Nat} {v : Int32} (hij : j ≠ i) (hf : f < 6) (hg : g < 6) : cur (upd N (22 + 6 * i + f) v) j g = cur N j g := by
  simp only [cur, upd]
  rw [if_neg (by omega)]
theorem upd_lo {N : Nat → Int32} {i f p : Nat} {v : Int32} (hp : p < 22) : upd N (22 + 6 * i + f) v p = N p := upd_n (by omega)
def cdN (N : Nat → Int32) (i : Nat) : Nat → Int32 :=
  if N 3 = 1 then upd (upd N (22 + 6 * i + 5) (if cur N i 5 + 1 < 9999 then cur N i 5 + 1 else 9999)) 5 (if N 5 + 100 < 900 then N 5 + 100 else 900)
  else upd (upd (upd N (22 + 6 * i + 5) (if cur N i 5 + 1 < 9999 then cur N i 5 + 1 else 9999)) 4 (if N 4 + 1 < 99999 then N 4 + 1 else 99999)) (22 + 6 * i + 1) (if cur N i 1 + 25 < 99 then cur N i 1 + 25 else 99)
def mvN (N : Nat → Int32) (i : Nat) : Nat → Int32 := upd N (22 + 6 * i + 3) (hi1 (cur N i) (N 3))
def feN (N : Nat → Int32) (i : Nat) (S : Int32) : Nat → Int32 := upd N (22 + 6 * i + 1) (mo1 (cur N i) S)
def plN (N : Nat → Int32) (i : Nat) (S : Int32) : Nat → Int32 := if cur N i 4 = 1 then feN N i S else if cam (cur N i) S (N 3) then cdN (mvN (feN N i S) i) i else mvN (feN N i S) i
section BM
variable {μ : Mem} {i : Nat} {S : Int32}
theorem cd_M (h : i < 8) : f_X5_comesDown (nI i) μ = some ((), setr μ 51 (cdN (μ 51) i)) := by
  unfold f_X5_comesDown cdN
  rw [cAt5, vC_s, more_M rfl (by omega), vC_s, vI_at (x := 3) (j := 3) rfl (by decide) (by decide), setr_same, upd_lo (by decide)]
  split
  · rw [more_M (p := 5) (x1 := 5) rfl (by decide), vC_s, setr_same, setr_setr, upd_lo (by decide)]
    rfl
  · rw [more_M (p := 4) (x1 := 4) rfl (by decide), vC_s, cAt1, vC_s, more_M rfl (by omega), vC_s, setr_same, setr_setr, setr_same, setr_setr, upd_lo (by decide)]
    rw [upd_n (show 22 + 6 * i + 1 ≠ 4 by omega), upd_n (show 22 + 6 * i + 1 ≠ 22 + 6 * i + 5 by omega)]
    rfl
theorem fe_cur {N : Nat → Int32} : cur (feN N i S) i = fee (cur N i) S := cur_upd
theorem mv_cur {N : Nat → Int32} : cur (mvN N i) i = mov (cur N i) (N 3) := cur_upd
theorem fe_lo {N : Nat → Int32} {p : Nat} (hp : p < 22) : feN N i S p = N p := upd_lo hp
theorem mv_lo {N : Nat → Int32} {p : Nat} (hp : p < 22) : mvN N i p = N p := upd_lo hp
theorem pl_M (h : i < 8) (hk : rg (cur (μ 51) i 0) 6) (hl : rg (cur (μ 51) i 2) 4095) : f_X5_plays (nI i) S μ = some ((), setr μ 51 (plN (μ 51) i S)) := by
  have J48 : f_X5_plays_J48 (nI i) (setr μ 51 (feN (μ 51) i S)) = some ((), setr μ 51 (plN (μ 51) i S)) := by
    have e1 : (setr μ 51 (feN (μ 51) i S)) 51 = feN (μ 51) i S := setr_same
    have hk1 : rg (cur ((setr μ 51 (feN (μ 51) i S)) 51) i 0) 6 := by rw [e1, fe_cur]; exact hk
    have J120 : f_X5_plays_J120 (nI i) (cur (μ 51) i 3) (setr μ 51 (mvN (feN (μ 51) i S) i)) = some ((), setr μ 51 (if ¬ cur (μ 51) i 3 ≤ 0 ∧ hi1 (fee (cur (μ 51) i) S) (μ 51 3) = 0 then cdN (mvN (feN (μ 51) i S) i) i else mvN (feN (μ 51) i S) i)) := by
      unfold f_X5_plays_J120
      rw [cIs3 h, vC_s, cd_M h, vC_s, setr_same, setr_setr, mv_cur, fe_cur, fe_lo (by decide)]
      have e5 : (mov (fee (cur (μ 51) i) S) (μ 51 3)) 3 = hi1 (fee (cur (μ 51) i) S) (μ 51 3) := rfl
      rw [e5]
      by_cases h5 : cur (μ 51) i 3 ≤ 0
      · rw [if_pos h5, if_neg (fun q => q.1 h5)]
      · rw [if_neg h5]
        by_cases h6 : hi1 (fee (cur (μ 51) i) S) (μ 51 3) = 0
        · rw [if_pos h6, if_pos ⟨h5, h6⟩]
        · rw [if_neg h6, if_neg (fun q => h6 q.2)]
    unfold f_X5_plays_J48 f_X5_isTied f_X5_plays_J87
    simp only [cIs4 h, cIs3 h, cIs1 h, vC_s, vL_e, cAt3, bea_M h hk1, ris_M h hk1, fal_M h hk1, e1, fe_cur, vI_at (x := 3) (j := 3) rfl (by decide : 3 < 70) (by decide), fe_lo (N := μ 51) (i := i) (S := S) (by decide : 3 < 22), more_M (p := 22 + 6 * i + 3) rfl (show 22 + 6 * i + 3 < 70 by omega), less_M (p := 22 + 6 * i + 3) rfl (show 22 + 6 * i + 3 < 70 by omega), setr_setr]
    have e4 : fee (cur (μ 51) i) S 4 = cur (μ 51) i 4 := rfl
    have e3 : fee (cur (μ 51) i) S 3 = cur (μ 51) i 3 := rfl
    have e33 : feN (μ 51) i S (22 + 6 * i + 3) = cur (μ 51) i 3 := upd_n (by omega)
    rw [e4]
    unfold plN
    by_cases ht : cur (μ 51) i 4 = 1
    · rw [if_pos ht, if_pos ht]
      rfl
    · rw [if_neg ht, if_neg ht]
      have hcam : (cam (cur (μ 51) i) S (μ 51 3)) = (¬ cur (μ 51) i 3 ≤ 0 ∧ hi1 (fee (cur (μ 51) i) S) (μ 51 3) = 0) := by
        simp only [cam, ht, not_false_eq_true, true_and]
      have hm : mvN (feN (μ 51) i S) i = upd (feN (μ 51) i S) (22 + 6 * i + 3) (hi1 (fee (cur (μ 51) i) S) (μ 51 3)) := by
        unfold mvN
        rw [fe_cur, fe_lo (by decide)]
      simp only [hcam]
      simp only [if_true, cIs4 h, cIs3 h, cIs1 h, vC_s, vL_e, cAt3, bea_M h hk1, ris_M h hk1, fal_M h hk1, e1, fe_cur, vI_at (x := 3) (j := 3) rfl (by decide : 3 < 70) (by decide), fe_lo (N := μ 51) (i := i) (S := S) (by decide : 3 < 22), more_M (p := 22 + 6 * i + 3) rfl (show 22 + 6 * i + 3 < 70 by omega), less_M (p := 22 + 6 * i + 3) rfl (show 22 + 6 * i + 3 < 70 by omega), setr_setr, e3, e33]
      rw [← J120, hm]
      by_cases hF : μ 51 3 = 1
      · unfold hi1
        rw [if_pos hF, if_pos (Or.inl hF), e3]
      · rw [if_neg hF]
        by_cases hb : bea (fee (cur (μ 51) i) S) ≤ fee (cur (μ 51) i) S 1
        · have hn : ¬ (μ 51 3 = 1 ∨ ¬ bea (fee (cur (μ 51) i) S) ≤ fee (cur (μ 51) i) S 1) := fun q => q.elim hF (fun z => z hb)
          unfold hi1
          rw [if_pos hb, if_neg hn, e3]
        · unfold hi1
          rw [if_neg hb, if_pos (Or.inr hb), e3]
  unfold f_X5_plays
  simp only [cIs2 h, vC_s, cAt1, gla_M h hk hl, tir_M h hk, more_M (p := 22 + 6 * i + 1) rfl (show 22 + 6 * i + 1 < 70 by omega), less_M (p := 22 + 6 * i + 1) rfl (show 22 + 6 * i + 1 < 70 by omega)]
  rw [← J48]
  have hfe : feN (μ 51) i S = upd (μ 51) (22 + 6 * i + 1) (mo1 (cur (μ 51) i) S) := rfl
  rw [hfe]
  unfold mo1
  split <;> rfl
end BM
