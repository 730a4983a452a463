/-! tests, and single changes of a house and of the row -/
section TESTS
variable {x a b : Int32} {σ μ : Mem}
theorem wC1 (h : ¬ x < a ∧ ¬ b < x) : f_X4_isWithin x a b σ = some (1, σ) := by rw [within_C, if_pos h]
theorem wC0 (h : ¬ (¬ x < a ∧ ¬ b < x)) : f_X4_isWithin x a b σ = some (0, σ) := by rw [within_C, if_neg h]
theorem wM1 (h : ¬ x < a ∧ ¬ b < x) : f_X5_within x a b μ = some (1, μ) := by rw [within_M, if_pos h]
theorem wM0 (h : ¬ (¬ x < a ∧ ¬ b < x)) : f_X5_within x a b μ = some (0, μ) := by rw [within_M, if_neg h]
theorem isPlace_C1 (h : ¬ x < 0 ∧ ¬ 5 < x) : f_X4_isPlace x σ = some (1, σ) := by
  unfold f_X4_isPlace
  rw [wC1 h]
  rfl
theorem isPlace_C0 (h : ¬ (¬ x < 0 ∧ ¬ 5 < x)) : f_X4_isPlace x σ = some (0, σ) := by
  unfold f_X4_isPlace
  rw [wC0 h]
  rfl
theorem isKind_C1 (h : ¬ x < 0 ∧ ¬ 6 < x) : f_X4_isKind x σ = some (1, σ) := by
  unfold f_X4_isKind
  rw [wC1 h]
  rfl
theorem isKind_C0 (h : ¬ (¬ x < 0 ∧ ¬ 6 < x)) : f_X4_isKind x σ = some (0, σ) := by
  unfold f_X4_isKind
  rw [wC0 h]
  rfl
theorem isSpot_C1 (h : ¬ x < 0 ∧ ¬ 9 < x) : f_X4_isSpot x σ = some (1, σ) := by
  unfold f_X4_isSpot
  rw [wC1 h]
  rfl
theorem isSpot_C0 (h : ¬ (¬ x < 0 ∧ ¬ 9 < x)) : f_X4_isSpot x σ = some (0, σ) := by
  unfold f_X4_isSpot
  rw [wC0 h]
  rfl
theorem isSheet_C1 (h : ¬ x < 0 ∧ ¬ 3 < x) : f_X4_isSheet x σ = some (1, σ) := by
  unfold f_X4_isSheet
  rw [wC1 h]
  rfl
theorem isSheet_C0 (h : ¬ (¬ x < 0 ∧ ¬ 3 < x)) : f_X4_isSheet x σ = some (0, σ) := by
  unfold f_X4_isSheet
  rw [wC0 h]
  rfl
theorem isPlace_M1 (h : ¬ x < 0 ∧ ¬ 5 < x) : f_X5_isPlace x μ = some (1, μ) := by
  unfold f_X5_isPlace
  rw [wM1 h]
  rfl
theorem isPlace_M0 (h : ¬ (¬ x < 0 ∧ ¬ 5 < x)) : f_X5_isPlace x μ = some (0, μ) := by
  unfold f_X5_isPlace
  rw [wM0 h]
  rfl
theorem isKind_M1 (h : ¬ x < 0 ∧ ¬ 6 < x) : f_X5_isKind x μ = some (1, μ) := by
  unfold f_X5_isKind
  rw [wM1 h]
  rfl
theorem isKind_M0 (h : ¬ (¬ x < 0 ∧ ¬ 6 < x)) : f_X5_isKind x μ = some (0, μ) := by
  unfold f_X5_isKind
  rw [wM0 h]
  rfl
theorem isSpot_M1 (h : ¬ x < 0 ∧ ¬ 9 < x) : f_X5_isSpot x μ = some (1, μ) := by
  unfold f_X5_isSpot
  rw [wM1 h]
  rfl
theorem isSpot_M0 (h : ¬ (¬ x < 0 ∧ ¬ 9 < x)) : f_X5_isSpot x μ = some (0, μ) := by
  unfold f_X5_isSpot
  rw [wM0 h]
  rfl
theorem isSheet_M1 (h : ¬ x < 0 ∧ ¬ 3 < x) : f_X5_isSheet x μ = some (1, μ) := by
  unfold f_X5_isSheet
  rw [wM1 h]
  rfl
theorem isSheet_M0 (h : ¬ (¬ x < 0 ∧ ¬ 3 < x)) : f_X5_isSheet x μ = some (0, μ) := by
  unfold f_X5_isSheet
  rw [wM0 h]
  rfl
theorem isSet_M1 (h : ¬ x < 0 ∧ ¬ 4095 < x) : f_X5_isSet x μ = some (1, μ) := by
  unfold f_X5_isSet
  rw [wM1 h]
  rfl
theorem isSet_M0 (h : ¬ (¬ x < 0 ∧ ¬ 4095 < x)) : f_X5_isSet x μ = some (0, μ) := by
  unfold f_X5_isSet
  rw [wM0 h]
  rfl
theorem isScene_M1 (h : ¬ x < 0 ∧ ¬ 11 < x) : f_X5_isScene x μ = some (1, μ) := by
  unfold f_X5_isScene
  rw [wM1 h]
  rfl
theorem isScene_M0 (h : ¬ (¬ x < 0 ∧ ¬ 11 < x)) : f_X5_isScene x μ = some (0, μ) := by
  unfold f_X5_isScene
  rw [wM0 h]
  rfl
theorem isThought_M1 (h : ¬ x < 0 ∧ ¬ 60 < x) : f_X5_isThought x μ = some (1, μ) := by
  unfold f_X5_isThought
  rw [wM1 h]
  rfl
theorem isThought_M0 (h : ¬ (¬ x < 0 ∧ ¬ 60 < x)) : f_X5_isThought x μ = some (0, μ) := by
  unfold f_X5_isThought
  rw [wM0 h]
  rfl
end TESTS
theorem rg_of {x : Int32} {m : Nat} {hi : Int32} (hm : m < 2 ^ 31) (e : hi = nI m) (h : ¬ x < 0 ∧ ¬ hi < x) : ∃ k, k ≤ m ∧ x = nI k := by
  subst e
  exact (rg_iff hm).mpr h
/-- is there a curtain of that number -/
theorem cur_of {N : Nat → Int32} (hI : Inv N) {x : Int32} (h : ¬ x < 0 ∧ ¬ (N 1 - 1) < x) : ∃ c, c < hg N ∧ x = nI c := by
  obtain ⟨hh, h8⟩ := hI.hung
  rw [hh] at h
  obtain ⟨j, hj, rfl⟩ := nI_of h.1
  refine ⟨j, ?_, rfl⟩
  rcases Nat.lt_or_ge j (hg N) with q | q
  · exact q
  · refine absurd ?_ h.2
    rw [Int32.lt_iff_toInt_lt, show (1 : Int32) = nI 1 from rfl, pk_sub_toInt (by omega) (by decide), nI_toInt hj]
    omega
theorem cur_is {N : Nat → Int32} (hI : Inv N) {c : Nat} (h : c < hg N) : ¬ nI c < 0 ∧ ¬ (N 1 - 1) < nI c := by
  obtain ⟨hh, h8⟩ := hI.hung
  rw [hh]
  refine ⟨nI_pos (by omega), ?_⟩
  rw [Int32.lt_iff_toInt_lt, show (1 : Int32) = nI 1 from rfl, pk_sub_toInt (by omega) (by decide), nI_toInt (by omega)]
  omega
section ISC
variable {x : Int32} {σ μ : Mem} {N : Nat → Int32}
theorem isCurtain_C1 (e : σ 1 5 = N 1) (h : ¬ x < 0 ∧ ¬ (N 1 - 1) < x) : f_X4_isCurtain x σ = some (1, σ) := by
  unfold f_X4_isCurtain
  rw [e, wC1 h]
  rfl
theorem isCurtain_C0 (e : σ 1 5 = N 1) (h : ¬ (¬ x < 0 ∧ ¬ (N 1 - 1) < x)) : f_X4_isCurtain x σ = some (0, σ) := by
  unfold f_X4_isCurtain
  rw [e, wC0 h]
  rfl
theorem isCurtain_M1 (h : ¬ x < 0 ∧ ¬ (μ 51 1 - 1) < x) : f_X5_isCurtain x μ = some (1, μ) := by
  unfold f_X5_isCurtain
  rw [vI_at (x := 1) (j := 1) rfl (by decide) (by decide), wM1 h]
  rfl
theorem isCurtain_M0 (h : ¬ (¬ x < 0 ∧ ¬ (μ 51 1 - 1) < x)) : f_X5_isCurtain x μ = some (0, μ) := by
  unfold f_X5_isCurtain
  rw [vI_at (x := 1) (j := 1) rfl (by decide) (by decide), wM0 h]
  rfl
end ISC
theorem bec_M {p : Nat} {x v : Int32} {μ : Mem} (hx : x = nI p) (h : p < 70) : f_X5_become x v μ = some (μ 51 p, setr μ 51 (upd (μ 51) p v)) := by
  unfold f_X5_become
  rw [vI_at hx h (by decide), vL_e, vI_at hx h (by decide)]
  rfl
section RHU
variable {h : Nat} {σ : Mem} {N : Nat → Int32} {v : Int32}
theorem hg_upd {p : Nat} (hp : p ≠ 1) : hg (upd N p v) = hg N := by
  unfold hg
  rw [upd_n (fun e => hp e.symm)]
theorem Rh_fire (hR : Rh h σ N) : Rh h (up2 σ h 0 v) (upd N 3 v) := by
  obtain ⟨⟨r0, r1, r2, r3, r4, r5⟩, rl, rs, rc⟩ := hR
  refine ⟨by rw [up2_s]; exact ⟨rfl, r1, r2, r3, r4, r5⟩, fun i hi => ?_, fun s hs => ?_, fun c f hc hf => ?_⟩
  · rw [up2_n (by omega), upd_n (by omega)]; exact rl i hi
  · rw [up2_n (by omega), upd_n (by omega)]; exact rs s hs
  · rw [hg_upd (by decide)] at hc
    rw [up2_n (by omega), cur_lo (by decide)]; exact rc c f hc hf
theorem Rh_z (hR : Rh h σ N) : Rh h (up2 σ h 4 v) (upd N 2 v) := by
  obtain ⟨⟨r0, r1, r2, r3, r4, r5⟩, rl, rs, rc⟩ := hR
  refine ⟨by rw [up2_s]; exact ⟨r0, r1, r2, r3, rfl, r5⟩, fun i hi => ?_, fun s hs => ?_, fun c f hc hf => ?_⟩
  · rw [up2_n (by omega), upd_n (by omega)]; exact rl i hi
  · rw [up2_n (by omega), upd_n (by omega)]; exact rs s hs
  · rw [hg_upd (by decide)] at hc
    rw [up2_n (by omega), cur_lo (by decide)]; exact rc c f hc hf
theorem Rh_list (hR : Rh h σ N) {i : Nat} (hi : i < 6) : Rh h (up2 σ (h + 1) i v) (upd N (6 + i) v) := by
  obtain ⟨⟨r0, r1, r2, r3, r4, r5⟩, rl, rs, rc⟩ := hR
  refine ⟨?_, fun j hj => ?_, fun s hs => ?_, fun c f hc hf => ?_⟩
  · rw [up2_n (by omega), upd_n (by omega), upd_n (by omega), upd_n (by omega), upd_n (by omega), upd_n (by omega), upd_n (by omega)]
    exact ⟨r0, r1, r2, r3, r4, r5⟩
  · rw [up2_s]
    by_cases e : j = i
    · subst e; rw [upd_s, upd_s]
    · rw [upd_n e, upd_n (by omega)]; exact rl j hj
  · rw [up2_n (by omega), upd_n (by omega)]; exact rs s hs
  · rw [hg_upd (by omega)] at hc
    rw [up2_n (by omega), cur_lo (by omega)]; exact rc c f hc hf
theorem Rh_spot (hR : Rh h σ N) {i : Nat} (hi : i < 10) : Rh h (up2 σ (h + 2) i v) (upd N (12 + i) v) := by
  obtain ⟨⟨r0, r1, r2, r3, r4, r5⟩, rl, rs, rc⟩ := hR
  refine ⟨?_, fun j hj => ?_, fun s hs => ?_, fun c f hc hf => ?_⟩
  · rw [up2_n (by omega), upd_n (by omega), upd_n (by omega), upd_n (by omega), upd_n (by omega), upd_n (by omega), upd_n (by omega)]
    exact ⟨r0, r1, r2, r3, r4, r5⟩
  · rw [up2_n (by omega), upd_n (by omega)]; exact rl j hj
  · rw [up2_s]
    by_cases e : s = i
    · subst e; rw [upd_s, upd_s]
    · rw [upd_n e, upd_n (by omega)]; exact rs s hs
  · rw [hg_upd (by omega)] at hc
    rw [up2_n (by omega), cur_lo (by omega)]; exact rc c f hc hf
theorem Rh_cur (hR : Rh h σ N) {k g : Nat} (hk : k < 8) (hg6 : g < 6) : Rh h (up2 σ (h + 3 + 1 + k) g v) (upd N (22 + 6 * k + g) v) := by
  obtain ⟨⟨r0, r1, r2, r3, r4, r5⟩, rl, rs, rc⟩ := hR
  refine ⟨?_, fun j hj => ?_, fun s hs => ?_, fun c f hc hf => ?_⟩
  · rw [up2_n (by omega), upd_n (by omega), upd_n (by omega), upd_n (by omega), upd_n (by omega), upd_n (by omega), upd_n (by omega)]
    exact ⟨r0, r1, r2, r3, r4, r5⟩
  · rw [up2_n (by omega), upd_n (by omega)]; exact rl j hj
  · rw [up2_n (by omega), upd_n (by omega)]; exact rs s hs
  · rw [hg_upd (by omega)] at hc
    by_cases e : c = k
    · subst e
      rw [up2_s, cur_upd]
      by_cases e2 : f = g
      · subst e2; rw [upd_s, upd_s]
      · rw [upd_n e2, upd_n e2]; exact rc c f hc hf
    · rw [up2_n (by omega), cur_ne e hg6 hf]; exact rc c f hc hf
theorem Inv_fire (hI : Inv N) (hv : v = 0 ∨ v = 1) : Inv (upd N 3 v) := by
  obtain ⟨h0, h1, h3, h4, h5, hs, hc⟩ := hI
  exact ⟨h0, h1, hv, h4, h5, fun s hs9 => by rw [hg_upd (by decide), upd_n (by omega)]; exact hs s hs9, fun c hcc => by rw [hg_upd (by decide)] at hcc; rw [cur_lo (by decide)]; exact hc c hcc⟩
theorem Inv_z (hI : Inv N) : Inv (upd N 2 v) := by
  obtain ⟨h0, h1, h3, h4, h5, hs, hc⟩ := hI
  exact ⟨h0, h1, h3, h4, h5, fun s hs9 => by rw [hg_upd (by decide), upd_n (by omega)]; exact hs s hs9, fun c hcc => by rw [hg_upd (by decide)] at hcc; rw [cur_lo (by decide)]; exact hc c hcc⟩
theorem Inv_list (hI : Inv N) {i : Nat} (hi : i < 6) : Inv (upd N (6 + i) v) := by
  obtain ⟨h0, h1, h3, h4, h5, hs, hc⟩ := hI
  refine ⟨?_, ?_, ?_, ?_, ?_, fun s hs9 => by rw [hg_upd (by omega), upd_n (by omega)]; exact hs s hs9, fun c hcc => by rw [hg_upd (by omega)] at hcc; rw [cur_lo (by omega)]; exact hc c hcc⟩ <;> rw [upd_n (by omega)] <;> assumption
theorem Inv_spot (hI : Inv N) {i : Nat} (hi : i < 10) (hv : v = -1 ∨ ∃ c, c < hg N ∧ v = nI c) : Inv (upd N (12 + i) v) := by
  obtain ⟨h0, h1, h3, h4, h5, hs, hc⟩ := hI
  refine ⟨?_, ?_, ?_, ?_, ?_, fun s hs9 => ?_, fun c hcc => by rw [hg_upd (by omega)] at hcc; rw [cur_lo (by omega)]; exact hc c hcc⟩
  · rw [upd_n (by omega)]; exact h0
  · rw [upd_n (by omega)]; exact h1
  · rw [upd_n (by omega)]; exact h3
  · rw [upd_n (by omega)]; exact h4
  · rw [upd_n (by omega)]; exact h5
  · rw [hg_upd (by omega)]
    by_cases e : s = i
    · subst e; rw [upd_s]; exact hv
    · rw [upd_n (by omega)]; exact hs s hs9
theorem Inv_cur (hI : Inv N) {k g : Nat} (hk : k < 8) (hg6 : g < 6) (h0' : g = 0 → rg v 6) (h2' : g = 2 → rg v 4095) : Inv (upd N (22 + 6 * k + g) v) := by
  obtain ⟨h0, h1, h3, h4, h5, hs, hc⟩ := hI
  refine ⟨?_, ?_, ?_, ?_, ?_, fun s hs9 => ?_, fun c hcc => ?_⟩
  · rw [upd_n (by omega)]; exact h0
  · rw [upd_n (by omega)]; exact h1
  · rw [upd_n (by omega)]; exact h3
  · rw [upd_n (by omega)]; exact h4
  · rw [upd_n (by omega)]; exact h5
  · rw [hg_upd (by omega), upd_n (by omega)]; exact hs s hs9
  · rw [hg_upd (by omega)] at hcc
    by_cases e : c = k
    · subst e
      rw [cur_upd]
      refine ⟨?_, ?_⟩
      · by_cases e2 : g = 0
        · subst e2; rw [upd_s]; exact h0' rfl
        · rw [upd_n (fun q => e2 q.symm)]; exact (hc c hcc).1
      · by_cases e2 : g = 2
        · subst e2; rw [upd_s]; exact h2' rfl
        · rw [upd_n (fun q => e2 q.symm)]; exact (hc c hcc).2
    · rw [cur_ne e hg6 (by decide), cur_ne e hg6 (by decide)]; exact hc c hcc
end RHU
/-- a change of one number of the house's cells and of the row -/
theorem Rel.one {σ μ : Mem} {i k p : Nat} {v : Int32} (h : Rel σ μ) (hi : 1 ≤ i ∧ i < 13) (hp : p < 70) (h1 : Rh 1 (up2 σ i k v) (upd (μ 51) p v)) (h2 : Inv (upd (μ 51) p v)) : Rel (up2 σ i k v) (setr μ 51 (upd (μ 51) p v)) := by
  refine h.house (fun j a b => up2_n (by omega)) (fun j a b => setr_ne a) ?_ ?_ ?_ ?_
  · rw [setr_same]; exact h1
  · rw [setr_same]; exact h2
  · rw [setr_same]; exact Z_upd h.2.2.1.1 hp
  · rw [setr_ne (by decide)]; exact h.2.2.1.2.2
theorem fin0 {σ μ : Mem} (h : Rel σ μ) : ∃ (r : Int32) (σ' μ' : Mem), vC (f_X4_find 0 σ) (fun r τ => some (r, τ)) = some (r, σ') ∧ vC (f_X5_finding (-1000001) μ) (fun r τ => some (r, τ)) = some (r, μ') ∧ Rel σ' μ' := ⟨_, _, _, by rw [fd0, vC_s], by rw [gd0, vC_s], h.find (by decide)⟩
theorem fin1 {σ μ : Mem} (h : Rel σ μ) : ∃ (r : Int32) (σ' μ' : Mem), vC (f_X4_find 1 σ) (fun r τ => some (r, τ)) = some (r, σ') ∧ vC (f_X5_finding (-1000002) μ) (fun r τ => some (r, τ)) = some (r, μ') ∧ Rel σ' μ' := ⟨_, _, _, by rw [fd1, vC_s], by rw [gd1, vC_s], h.find (by decide)⟩
theorem fin2 {σ μ : Mem} (h : Rel σ μ) : ∃ (r : Int32) (σ' μ' : Mem), vC (f_X4_find 2 σ) (fun r τ => some (r, τ)) = some (r, σ') ∧ vC (f_X5_finding (-1000003) μ) (fun r τ => some (r, τ)) = some (r, μ') ∧ Rel σ' μ' := ⟨_, _, _, by rw [fd2, vC_s], by rw [gd2, vC_s], h.find (by decide)⟩
theorem fin3 {σ μ : Mem} (h : Rel σ μ) : ∃ (r : Int32) (σ' μ' : Mem), vC (f_X4_find 3 σ) (fun r τ => some (r, τ)) = some (r, σ') ∧ vC (f_X5_finding (-1000004) μ) (fun r τ => some (r, τ)) = some (r, μ') ∧ Rel σ' μ' := ⟨_, _, _, by rw [fd3, vC_s], by rw [gd3, vC_s], h.find (by decide)⟩
theorem fin4 {σ μ : Mem} (h : Rel σ μ) : ∃ (r : Int32) (σ' μ' : Mem), vC (f_X4_find 4 σ) (fun r τ => some (r, τ)) = some (r, σ') ∧ vC (f_X5_finding (-1000005) μ) (fun r τ => some (r, τ)) = some (r, μ') ∧ Rel σ' μ' := ⟨_, _, _, by rw [fd4, vC_s], by rw [gd4, vC_s], h.find (by decide)⟩
theorem fin5 {σ μ : Mem} (h : Rel σ μ) : ∃ (r : Int32) (σ' μ' : Mem), vC (f_X4_find 5 σ) (fun r τ => some (r, τ)) = some (r, σ') ∧ vC (f_X5_finding (-1000006) μ) (fun r τ => some (r, τ)) = some (r, μ') ∧ Rel σ' μ' := ⟨_, _, _, by rw [fd5, vC_s], by rw [gd5, vC_s], h.find (by decide)⟩
theorem fin6 {σ μ : Mem} (h : Rel σ μ) : ∃ (r : Int32) (σ' μ' : Mem), vC (f_X4_find 6 σ) (fun r τ => some (r, τ)) = some (r, σ') ∧ vC (f_X5_finding (-1000007) μ) (fun r τ => some (r, τ)) = some (r, μ') ∧ Rel σ' μ' := ⟨_, _, _, by rw [fd6, vC_s], by rw [gd6, vC_s], h.find (by decide)⟩
theorem n10 : ¬ (1 : Int32) = 0 := by decide
theorem lift01 {x : Int32} (h : ¬ x < 0 ∧ ¬ 1 < x) : x = 0 ∨ x = 1 := by
  obtain ⟨k, hk, rfl⟩ := rg_of (m := 1) (by decide) rfl h
  rcases (show k = 0 ∨ k = 1 by omega) with rfl | rfl
  · exact Or.inl rfl
  · exact Or.inr rfl
/-! 0 fire, 1 scene, 2 listed, 25 seed -/
theorem sim0 : Sim0 Rel := by
  intro σ μ x1 h
  unfold f_X4_fire f_X5_fire
  by_cases c : ¬ x1 < 0 ∧ ¬ 1 < x1
  · rw [wC1 c, wM1 c, vC_s, vC_s, if_neg n10, if_neg n10, vL_e, vW_e, bec_M (p := 3) (x := 3) rfl (by decide), vC_s, h.1.1.1]
    exact ⟨_, _, _, rfl, rfl, h.one (by decide) (by decide) (Rh_fire h.1) (Inv_fire h.2.1 (lift01 c))⟩
  · rw [wC0 c, wM0 c, vC_s, vC_s, if_pos rfl, if_pos rfl]
    exact fin0 h
theorem sim1 : Sim1 Rel := by
  intro σ μ x1 x2 h
  unfold f_X4_scene f_X5_scene f_X4_scene_J17 f_X5_scene_J26
  by_cases c : ¬ x1 < 0 ∧ ¬ 5 < x1
  · rw [isPlace_C1 c, isPlace_M1 c, vC_s, vC_s, if_neg n10, if_neg n10]
    by_cases d : ¬ x2 < 0 ∧ ¬ 11 < x2
    · rw [wC1 d, isScene_M1 d, vC_s, vC_s, if_neg n10, if_neg n10]
      obtain ⟨k, hk, rfl⟩ := rg_of (m := 5) (by decide) rfl c
      rw [vI_at rfl (by omega) (by decide), vL_e, vI_at rfl (by omega) (by decide), vW_e, bec_M (p := 6 + k) (by rw [← nI_add]; rfl) (by omega), vC_s, h.1.2.1 k (by omega)]
      exact ⟨_, _, _, rfl, rfl, h.one (by decide) (by omega) (Rh_list h.1 (by omega)) (Inv_list h.2.1 (by omega))⟩
    · rw [wC0 d, isScene_M0 d, vC_s, vC_s, if_pos rfl, if_pos rfl]
      exact fin0 h
  · rw [isPlace_C0 c, isPlace_M0 c, vC_s, vC_s, if_pos rfl, if_pos rfl]
    exact fin0 h
theorem sim2 : Sim2 Rel := by
  intro σ μ x1 h
  unfold f_X4_listed f_X5_listed
  by_cases c : ¬ x1 < 0 ∧ ¬ 5 < x1
  · rw [isPlace_C1 c, isPlace_M1 c, vC_s, vC_s, if_neg n10, if_neg n10]
    obtain ⟨k, hk, rfl⟩ := rg_of (m := 5) (by decide) rfl c
    rw [vI_at rfl (by omega) (by decide), vI_at (j := 6 + k) (by rw [← nI_add]; rfl) (by omega) (by decide), h.1.2.1 k (by omega)]
    exact ⟨_, _, _, rfl, rfl, h⟩
  · rw [isPlace_C0 c, isPlace_M0 c, vC_s, vC_s, if_pos rfl, if_pos rfl]
    exact fin0 h
theorem sim25 : Sim25 Rel := by
  intro σ μ x1 h
  unfold f_X4_seed f_X5_seed
  rw [vL_e, vW_e, bec_M (p := 2) (x := 2) rfl (by decide), vC_s, h.1.1.2.2.2.2.1]
  exact ⟨_, _, _, rfl, rfl, h.one (by decide) (by decide) (Rh_z h.1) (Inv_z h.2.1)⟩
/-! 7 go -/
theorem sim7 : Sim7 Rel := by
  intro σ μ x1 h
  unfold f_X4_go f_X5_go
  by_cases c : ¬ x1 < 1 ∧ ¬ 60 < x1
  · rw [wC1 c, wM1 c, vC_s, vC_s, if_neg n10, if_neg n10, vI_at (x := 0) (j := 0) rfl (by decide) (by decide), h.1.1.2.2.2.1]
    have c0 : ¬ x1 < 0 := fun q => c.1 (Int32.lt_trans q (by decide))
    obtain ⟨k, hk, rfl⟩ := rg_of (m := 60) (by decide) rfl ⟨c0, c.2⟩
    obtain ⟨b, hb, e⟩ := h.2.1.beat
    rw [e]
    have e1 : nI b ≤ 99999 - nI k ↔ nI b + nI k ≤ 99999 := by
      rw [show (99999 : Int32) = nI 99999 from rfl, pk_sub (by omega), nI_add, nI_leI (by omega) (by omega), nI_leI (by omega) (by omega)]
      omega
    by_cases d : nI b + nI k ≤ 99999
    · rw [if_pos d, if_pos (e1.mpr d), bg_M h.2.1 (by omega), vC_s, vI_at (x := 4) (j := 4) rfl (by decide) (by decide), setr_same]
      obtain ⟨σ', g1, g2, g3⟩ := pbs_C h.1 h.2.1 (x := k) (by omega)
      rw [g1, vC_s, g2.1.2.1]
      refine ⟨_, _, _, rfl, rfl, h.house (fun i a b => g3 i (by omega)) (fun i a b => setr_ne a) ?_ ?_ ?_ ?_⟩
      · rw [setr_same]; exact g2
      · rw [setr_same]; exact bg_Inv h.2.1 k
      · rw [setr_same]; exact Z_bg h.2.2.1.1 h.2.1 k
      · rw [setr_ne (by decide)]; exact h.2.2.1.2.2
    · rw [if_neg d, if_neg (fun q => d (e1.mp q))]
      exact fin4 h
  · rw [wC0 c, wM0 c, vC_s, vC_s, if_pos rfl, if_pos rfl]
    exact fin0 h
