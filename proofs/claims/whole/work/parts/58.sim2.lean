/-! folds over the curtains -/
def fl (g : Int32 → Nat → Int32) : Nat → Int32
  | 0 => 0
  | k + 1 => g (fl g k) k
def gDown (N : Nat → Int32) (a : Int32) (c : Nat) : Int32 := a ||| (if cur N c 3 = 0 then 1 <<< (nI c &&& 31) else 0)
def gWeary (N : Nat → Int32) (a : Int32) (c : Nat) : Int32 := a ||| (if bea (cur N c) ≤ cur N c 1 then 0 else (1 : Int32) <<< (nI c &&& 31))
def gMood (N : Nat → Int32) (a : Int32) (c : Nat) : Int32 := a + cur N c 1
def gLike (N : Nat → Int32) (a : Int32) (c : Nat) : Int32 := a ||| cur N c 2
section FOLD
variable {h : Nat} {σ μ : Mem} {N : Nat → Int32}
theorem down_C (hR : Rh h σ N) (hI : Inv N) : ∀ n k : Nat, k ≤ hg N → hg N - k < n → f_X1_thoseDown_L4 n h (fl (gDown N) k) (nI k) σ = some (fl (gDown N) (hg N), σ) := by
  intro n
  obtain ⟨hh, h8⟩ := hI.hung
  induction n with
  | zero => intro k _ q; omega
  | succ n ih =>
    intro k hk hn
    rw [f_X1_thoseDown_L4_s, hR.1.2.2.2.2.2, hh]
    rcases Nat.lt_or_ge k (hg N) with q | q
    · rw [if_neg (nle_of q (by omega)), vI_at rfl (by omega) (by decide), hR.2.2.2 k 3 q (by decide)]
      have ih' := ih (k + 1) q (by omega)
      have e : fl (gDown N) (k + 1) = fl (gDown N) k ||| (if cur N k 3 = 0 then 1 <<< (nI k &&& 31) else 0) := rfl
      rw [e] at ih'
      unfold f_X1_thoseDown_J32
      simp only [vL_e, show nI k + 1 = nI (k + 1) from nI_1 k]
      split
      · rename_i c; rw [if_pos c] at ih'; exact ih'
      · rename_i c; rw [if_neg c] at ih'; exact ih'
    · rw [if_pos (nI_le q (by omega)), show k = hg N by omega]
theorem down_M (hI : Inv (μ 51)) : ∀ n k : Nat, k ≤ hg (μ 51) → hg (μ 51) - k < n → f_X5_downOnes_L4 n (fl (gDown (μ 51)) k) (nI k) μ = some (fl (gDown (μ 51)) (hg (μ 51)), μ) := by
  intro n
  obtain ⟨hh, h8⟩ := hI.hung
  induction n with
  | zero => intro k _ q; omega
  | succ n ih =>
    intro k hk hn
    rw [f_X5_downOnes_L4_s, vI_at (x := 1) (j := 1) rfl (by decide) (by decide), hh]
    rcases Nat.lt_or_ge k (hg (μ 51)) with q | q
    · rw [if_neg (nle_of q (by omega)), cIs3 (by omega), vC_s]
      have ih' := ih (k + 1) q (by omega)
      have e : fl (gDown (μ 51)) (k + 1) = fl (gDown (μ 51)) k ||| (if cur (μ 51) k 3 = 0 then 1 <<< (nI k &&& 31) else 0) := rfl
      rw [e] at ih'
      unfold f_X5_downOnes_J31
      simp only [vL_e, show nI k + 1 = nI (k + 1) from nI_1 k]
      split
      · rename_i c; rw [if_pos c] at ih'; exact ih'
      · rename_i c; rw [if_neg c] at ih'; exact ih'
    · rw [if_pos (nI_le q (by omega)), show k = hg (μ 51) by omega]
theorem weary_C (hR : Rh h σ N) (hI : Inv N) : ∀ n k : Nat, k ≤ hg N → hg N - k < n → f_X1_thoseWeary_L4 n h (fl (gWeary N) k) (nI k) σ = some (fl (gWeary N) (hg N), σ) := by
  intro n
  obtain ⟨hh, h8⟩ := hI.hung
  induction n with
  | zero => intro k _ q; omega
  | succ n ih =>
    intro k hk hn
    rw [f_X1_thoseWeary_L4_s, hR.1.2.2.2.2.2, hh]
    rcases Nat.lt_or_ge k (hg N) with q | q
    · have hkd : rg (σ (h + 3 + 1 + k) 0) 6 := by rw [hR.2.2.2 k 0 q (by decide)]; exact (hI.2.2.2.2.2.2 k q).1
      have eb : bea (σ (h + 3 + 1 + k)) = bea (cur N k) := by unfold bea; rw [hR.2.2.2 k 0 q (by decide)]
      rw [if_neg (nle_of q (by omega)), vI_at rfl (by omega) (by decide), vI_at rfl (by omega) (by decide), bea_C hkd, vC_s, hR.2.2.2 k 1 q (by decide), eb]
      have ih' := ih (k + 1) q (by omega)
      have e : fl (gWeary N) (k + 1) = fl (gWeary N) k ||| (if bea (cur N k) ≤ cur N k 1 then 0 else (1 : Int32) <<< (nI k &&& 31)) := rfl
      rw [e] at ih'
      unfold f_X1_thoseWeary_J41
      simp only [vL_e, show nI k + 1 = nI (k + 1) from nI_1 k]
      split
      · rename_i c; rw [if_pos c] at ih'; exact ih'
      · rename_i c; rw [if_neg c] at ih'; exact ih'
    · rw [if_pos (nI_le q (by omega)), show k = hg N by omega]
theorem weary_M (hI : Inv (μ 51)) : ∀ n k : Nat, k ≤ hg (μ 51) → hg (μ 51) - k < n → f_X5_wearyOnes_L4 n (fl (gWeary (μ 51)) k) (nI k) μ = some (fl (gWeary (μ 51)) (hg (μ 51)), μ) := by
  intro n
  obtain ⟨hh, h8⟩ := hI.hung
  induction n with
  | zero => intro k _ q; omega
  | succ n ih =>
    intro k hk hn
    rw [f_X5_wearyOnes_L4_s, vI_at (x := 1) (j := 1) rfl (by decide) (by decide), hh]
    rcases Nat.lt_or_ge k (hg (μ 51)) with q | q
    · rw [if_neg (nle_of q (by omega)), cIs1 (by omega), vC_s, bea_M (by omega) (hI.2.2.2.2.2.2 k q).1, vC_s]
      have ih' := ih (k + 1) q (by omega)
      have e : fl (gWeary (μ 51)) (k + 1) = fl (gWeary (μ 51)) k ||| (if bea (cur (μ 51) k) ≤ cur (μ 51) k 1 then 0 else (1 : Int32) <<< (nI k &&& 31)) := rfl
      rw [e] at ih'
      unfold f_X5_wearyOnes_J36
      simp only [vL_e, show nI k + 1 = nI (k + 1) from nI_1 k]
      split
      · rename_i c; rw [if_pos c] at ih'; exact ih'
      · rename_i c; rw [if_neg c] at ih'; exact ih'
    · rw [if_pos (nI_le q (by omega)), show k = hg (μ 51) by omega]
theorem mood_C (hR : Rh h σ N) (hI : Inv N) : ∀ n k : Nat, k ≤ hg N → hg N - k < n → f_X1_allMoods_L4 n h (fl (gMood N) k) (nI k) σ = some (fl (gMood N) (hg N), σ) := by
  intro n
  obtain ⟨hh, h8⟩ := hI.hung
  induction n with
  | zero => intro k _ q; omega
  | succ n ih =>
    intro k hk hn
    rw [f_X1_allMoods_L4_s, hR.1.2.2.2.2.2, hh]
    rcases Nat.lt_or_ge k (hg N) with q | q
    · rw [if_neg (nle_of q (by omega)), vI_at rfl (by omega) (by decide), hR.2.2.2 k 1 q (by decide), vL_e, vL_e, show nI k + 1 = nI (k + 1) from nI_1 k]
      exact ih (k + 1) q (by omega)
    · rw [if_pos (nI_le q (by omega)), show k = hg N by omega]
theorem mood_M (hI : Inv (μ 51)) : ∀ n k : Nat, k ≤ hg (μ 51) → hg (μ 51) - k < n → f_X5_moods_L4 n (fl (gMood (μ 51)) k) (nI k) μ = some (fl (gMood (μ 51)) (hg (μ 51)), μ) := by
  intro n
  obtain ⟨hh, h8⟩ := hI.hung
  induction n with
  | zero => intro k _ q; omega
  | succ n ih =>
    intro k hk hn
    rw [f_X5_moods_L4_s, vI_at (x := 1) (j := 1) rfl (by decide) (by decide), hh]
    rcases Nat.lt_or_ge k (hg (μ 51)) with q | q
    · rw [if_neg (nle_of q (by omega)), cIs1 (by omega), vC_s, vL_e, vL_e, show nI k + 1 = nI (k + 1) from nI_1 k]
      exact ih (k + 1) q (by omega)
    · rw [if_pos (nI_le q (by omega)), show k = hg (μ 51) by omega]
theorem like_C (hR : Rh h σ N) (hI : Inv N) : ∀ n k : Nat, k ≤ hg N → hg N - k < n → f_X1_allLikes_L4 n h (fl (gLike N) k) (nI k) σ = some (fl (gLike N) (hg N), σ) := by
  intro n
  obtain ⟨hh, h8⟩ := hI.hung
  induction n with
  | zero => intro k _ q; omega
  | succ n ih =>
    intro k hk hn
    rw [f_X1_allLikes_L4_s, hR.1.2.2.2.2.2, hh]
    rcases Nat.lt_or_ge k (hg N) with q | q
    · rw [if_neg (nle_of q (by omega)), vI_at rfl (by omega) (by decide), hR.2.2.2 k 2 q (by decide), vL_e, vL_e, show nI k + 1 = nI (k + 1) from nI_1 k]
      exact ih (k + 1) q (by omega)
    · rw [if_pos (nI_le q (by omega)), show k = hg N by omega]
theorem like_M (hI : Inv (μ 51)) : ∀ n k : Nat, k ≤ hg (μ 51) → hg (μ 51) - k < n → f_X5_liked_L4 n (fl (gLike (μ 51)) k) (nI k) μ = some (fl (gLike (μ 51)) (hg (μ 51)), μ) := by
  intro n
  obtain ⟨hh, h8⟩ := hI.hung
  induction n with
  | zero => intro k _ q; omega
  | succ n ih =>
    intro k hk hn
    rw [f_X5_liked_L4_s, vI_at (x := 1) (j := 1) rfl (by decide) (by decide), hh]
    rcases Nat.lt_or_ge k (hg (μ 51)) with q | q
    · rw [if_neg (nle_of q (by omega)), cIs2 (by omega), vC_s, vL_e, vL_e, show nI k + 1 = nI (k + 1) from nI_1 k]
      exact ih (k + 1) q (by omega)
    · rw [if_pos (nI_le q (by omega)), show k = hg (μ 51) by omega]
theorem fu8 (hI : Inv N) : hg N - 0 < FU := FU_gt (by have := hI.hung.2; omega)
theorem downs_C (hR : Rh h σ N) (hI : Inv N) : f_X1_thoseDown h σ = some (fl (gDown N) (hg N), σ) := down_C hR hI FU 0 (Nat.zero_le _) (fu8 hI)
theorem downs_M (hI : Inv (μ 51)) : f_X5_downOnes μ = some (fl (gDown (μ 51)) (hg (μ 51)), μ) := down_M hI FU 0 (Nat.zero_le _) (fu8 hI)
theorem wearys_C (hR : Rh h σ N) (hI : Inv N) : f_X1_thoseWeary h σ = some (fl (gWeary N) (hg N), σ) := weary_C hR hI FU 0 (Nat.zero_le _) (fu8 hI)
theorem wearys_M (hI : Inv (μ 51)) : f_X5_wearyOnes μ = some (fl (gWeary (μ 51)) (hg (μ 51)), μ) := weary_M hI FU 0 (Nat.zero_le _) (fu8 hI)
theorem moods_C (hR : Rh h σ N) (hI : Inv N) : f_X1_allMoods h σ = some (fl (gMood N) (hg N), σ) := mood_C hR hI FU 0 (Nat.zero_le _) (fu8 hI)
theorem moods_M (hI : Inv (μ 51)) : f_X5_moods μ = some (fl (gMood (μ 51)) (hg (μ 51)), μ) := mood_M hI FU 0 (Nat.zero_le _) (fu8 hI)
theorem likes_C (hR : Rh h σ N) (hI : Inv N) : f_X1_allLikes h σ = some (fl (gLike N) (hg N), σ) := like_C hR hI FU 0 (Nat.zero_le _) (fu8 hI)
theorem likes_M (hI : Inv (μ 51)) : f_X5_liked μ = some (fl (gLike (μ 51)) (hg (μ 51)), μ) := like_M hI FU 0 (Nat.zero_le _) (fu8 hI)
end FOLD
set_option maxRecDepth 100000 in
theorem or_bit : ∀ k, k < 12 → ∀ m, m < 2 ^ k → nI m ||| ((1 : Int32) <<< (nI k &&& 31)) = nI (m + 2 ^ k) := by decide +kernel
theorem or_0 (x : Int32) : x ||| 0 = x := by simp
/-- a set by bits is a number below 2 to the k -/
theorem fl_bits {p : Nat → Prop} [DecidablePred p] : ∀ k, k ≤ 12 → ∃ m, m < 2 ^ k ∧ fl (fun a c => a ||| (if p c then (1 : Int32) <<< (nI c &&& 31) else 0)) k = nI m := by
  intro k
  induction k with
  | zero => intro _; exact ⟨0, by decide, rfl⟩
  | succ k ih =>
    intro hk
    obtain ⟨m, hm, e⟩ := ih (by omega)
    have e1 : fl (fun a c => a ||| (if p c then (1 : Int32) <<< (nI c &&& 31) else 0)) (k + 1) = nI m ||| (if p k then (1 : Int32) <<< (nI k &&& 31) else 0) := by
      show fl (fun a c => a ||| (if p c then (1 : Int32) <<< (nI c &&& 31) else 0)) k ||| _ = _
      rw [e]
    have h2 : 2 ^ (k + 1) = 2 ^ k + 2 ^ k := by rw [Nat.pow_succ]; omega
    by_cases hp : p k
    · rw [e1, if_pos hp, or_bit k (by omega) m hm]
      exact ⟨_, by omega, rfl⟩
    · rw [e1, if_neg hp, or_0]
      exact ⟨m, by omega, rfl⟩
theorem rg_downs {N : Nat → Int32} (hI : Inv N) : rg (fl (gDown N) (hg N)) 4095 := by
  have h8 := hI.hung.2
  obtain ⟨m, hm, e⟩ := fl_bits (p := fun c => cur N c 3 = 0) (hg N) (by omega)
  have e1 : gDown N = fun a c => a ||| (if cur N c 3 = 0 then (1 : Int32) <<< (nI c &&& 31) else 0) := rfl
  rw [e1, e]
  have : 2 ^ hg N ≤ 2 ^ 8 := Nat.pow_le_pow_right (by decide) h8
  exact ⟨m, by omega, rfl⟩
/-! 8 now -/
theorem sim8 : Sim8 Rel := by
  intro σ μ x1 h
  unfold f_X4_now f_X5_now
  rw [vI_at (x := 0) (j := 0) rfl (by decide) (by decide), vI_at (x := 4) (j := 4) rfl (by decide) (by decide), vI_at (x := 5) (j := 5) rfl (by decide) (by decide), vI_at (x := 3) (j := 3) rfl (by decide) (by decide), downs_C h.1 h.2.1, downs_M h.2.1, wearys_C h.1 h.2.1, wearys_M h.2.1, moods_C h.1 h.2.1, moods_M h.2.1, likes_C h.1 h.2.1, likes_M h.2.1, h.1.1.1, h.1.1.2.1, h.1.1.2.2.1, h.1.1.2.2.2.1]
  simp only [vC_s]
  by_cases c0 : x1 = 0
  · rw [if_pos c0, if_pos c0]; exact ⟨_, _, _, rfl, rfl, h⟩
  rw [if_neg c0, if_neg c0]
  by_cases c1 : x1 = 1
  · rw [if_pos c1, if_pos c1]; exact ⟨_, _, _, rfl, rfl, h⟩
  rw [if_neg c1, if_neg c1]
  by_cases c2 : x1 = 2
  · rw [if_pos c2, if_pos c2]; exact ⟨_, _, _, rfl, rfl, h⟩
  rw [if_neg c2, if_neg c2]
  by_cases c3 : x1 = 3
  · rw [if_pos c3, if_pos c3]; exact ⟨_, _, _, rfl, rfl, h⟩
  rw [if_neg c3, if_neg c3]
  by_cases c4 : x1 = 4
  · rw [if_pos c4, if_pos c4]; exact ⟨_, _, _, rfl, rfl, h⟩
  rw [if_neg c4, if_neg c4]
  by_cases c5 : x1 = 5
  · rw [if_pos c5, if_pos c5]; exact ⟨_, _, _, rfl, rfl, h⟩
  rw [if_neg c5, if_neg c5]
  by_cases c6 : x1 = 6
  · rw [if_pos c6, if_pos c6]; exact ⟨_, _, _, rfl, rfl, h⟩
  rw [if_neg c6, if_neg c6]
  by_cases c7 : x1 = 7
  · rw [if_pos c7, if_pos c7]; exact ⟨_, _, _, rfl, rfl, h⟩
  rw [if_neg c7, if_neg c7]
  exact fin0 h
/-! 4 of, 5 change, 6 pull -/
def tlv (c : Nat → Int32) (x S F : Int32) : Int32 := if x = 0 then c 0 else if x = 1 then c 1 else if x = 2 then c 2 else if x = 3 then c 3 else if x = 4 then c 4 else if x = 5 then c 5 else if x = 6 then gla c else if x = 7 then tir c S else if x = 8 then bea c else if x = 9 then fal c F else ris c
theorem tell_C {a : Nat} {σ : Mem} {x S F : Int32} (h : rg (σ a 0) 6) : f_X0_tell a x S F σ = some (tlv (σ a) x S F, σ) := by
  unfold f_X0_tell tlv
  rw [gla_C h, tir_C h, bea_C h, fal_C h, ris_C h]
  simp only [vC_s]
  repeat' split
  all_goals rfl
theorem cg_tlv {c d : Nat → Int32} {x S F : Int32} (h : ∀ f, f < 6 → c f = d f) : tlv c x S F = tlv d x S F := by
  unfold tlv bea fal ris
  rw [cg_gla h, cg_tir h, h 0 (by decide), h 1 (by decide), h 2 (by decide), h 3 (by decide), h 4 (by decide), h 5 (by decide)]
theorem told_M {μ : Mem} {i : Nat} {x : Int32} (hI : Inv (μ 51)) (hi : i < hg (μ 51)) (hx : rg x 10) : f_X5_told (nI i) x μ = some (tlv (cur (μ 51) i) x (scN (μ 51)) (μ 51 3), μ) := by
  have h8 := hI.hung.2
  have hk := hI.2.2.2.2.2.2 i hi
  unfold f_X5_told tlv
  rw [gla_M (by omega) hk.1 hk.2, pn_M hI, vC_s, vC_s, vI_at rfl (by omega) (by decide), tir_M (by omega) hk.1, bea_M (by omega) hk.1, fal_M (by omega) hk.1, ris_M (by omega) hk.1]
  simp only [vC_s]
  obtain ⟨w, hw, rfl⟩ := hx
  rcases (show w = 0 ∨ w = 1 ∨ w = 2 ∨ w = 3 ∨ w = 4 ∨ w = 5 ∨ w = 6 ∨ w = 7 ∨ w = 8 ∨ w = 9 ∨ w = 10 by omega) with rfl | rfl | rfl | rfl | rfl | rfl | rfl | rfl | rfl | rfl | rfl
  · rw [cIs (f := 0) rfl (by omega)]; rfl
  · rw [cIs (f := 1) rfl (by omega)]; rfl
  · rw [cIs (f := 2) rfl (by omega)]; rfl
  · rw [cIs (f := 3) rfl (by omega)]; rfl
  · rw [cIs (f := 4) rfl (by omega)]; rfl
  · rw [cIs (f := 5) rfl (by omega)]; rfl
  · rfl
  · rfl
  · rfl
  · rfl
  · rfl
theorem sim4 : Sim4 Rel := by
  intro σ μ x1 x2 h
  unfold f_X4_of f_X5_of f_X4_of_J18 f_X5_of_J27
  by_cases c : ¬ x1 < 0 ∧ ¬ (μ 51 1 - 1) < x1
  · rw [isCurtain_C1 h.1.1.2.2.2.2.2 c, isCurtain_M1 c, vC_s, vC_s, if_neg n10, if_neg n10]
    by_cases d : ¬ x2 < 0 ∧ ¬ 10 < x2
    · rw [wC1 d, wM1 d, vC_s, vC_s, if_neg n10, if_neg n10]
      obtain ⟨k, hk, rfl⟩ := cur_of h.2.1 c
      have h8 := h.2.1.hung.2
      have ag : ∀ f, f < 6 → σ (1 + 3 + 1 + k) f = cur (μ 51) k f := fun f hf => h.1.2.2.2 k f hk hf
      rw [vI_at rfl (by omega) (by decide), si0_C h.1 h.2.1, vC_s, tell_C (by rw [ag 0 (by decide)]; exact (h.2.1.2.2.2.2.2.2 k hk).1), vC_s, told_M h.2.1 hk (rg_of (m := 10) (by decide) rfl d), vC_s, cg_tlv ag, h.1.1.1]
      exact ⟨_, _, _, rfl, rfl, h⟩
    · rw [wC0 d, wM0 d, vC_s, vC_s, if_pos rfl, if_pos rfl]
      exact fin0 h
  · rw [isCurtain_C0 h.1.1.2.2.2.2.2 c, isCurtain_M0 c, vC_s, vC_s, if_pos rfl, if_pos rfl]
    exact fin0 h
