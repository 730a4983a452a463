/-! 39 count, 40 status, 26 feed -/
def gHeld (N : Nat → Int32) (a : Int32) (s : Nat) : Int32 := a + (if N (12 + s) = -1 then 0 else 1)
theorem held_C {σ : Mem} {N : Nat → Int32} {b : Nat} (hR : ∀ s, s < 10 → σ b s = N (12 + s)) : ∀ n k : Nat, k ≤ 10 → 10 - k < n → f_X1_heldSpots_L13 n (fl (gHeld N) k) b 10 (nI k) σ = some (fl (gHeld N) 10, σ) := by
  intro n
  induction n with
  | zero => intro k _ q; omega
  | succ n ih =>
    intro k hk hn
    rw [f_X1_heldSpots_L13_s, show (10 : Int32) = nI 10 from rfl]
    rcases Nat.lt_or_ge k 10 with q | q
    · rw [if_neg (nle_of q (by decide)), vI_at rfl q (by decide), vL_e, hR k q]
      have ih' := ih (k + 1) q (by omega)
      have e : fl (gHeld N) (k + 1) = fl (gHeld N) k + (if N (12 + k) = -1 then 0 else 1) := rfl
      rw [e] at ih'
      unfold f_X1_heldSpots_J37
      simp only [vL_e, show nI k + 1 = nI (k + 1) from nI_1 k]
      split
      · rename_i c; rw [if_pos c] at ih'; exact ih'
      · rename_i c; rw [if_neg c] at ih'; exact ih'
    · rw [if_pos (nI_le q (by omega)), show k = 10 by omega]
theorem held_M {μ : Mem} (hI : Inv (μ 51)) : ∀ n k : Nat, k ≤ 10 → 10 - k < n → f_X5_count_L98 n (fl (gHeld (μ 51)) k) (nI k) μ = some (fl (gHeld (μ 51)) 10, μ) := by
  intro n
  have h8 := hI.hung.2
  induction n with
  | zero => intro k _ q; omega
  | succ n ih =>
    intro k hk hn
    rw [f_X5_count_L98_s, show (10 : Int32) = nI 10 from rfl]
    rcases Nat.lt_or_ge k 10 with q | q
    · rw [if_neg (nle_of q (by decide)), vI_at (j := 12 + k) (by rw [← nI_add]; rfl) (by omega) (by decide)]
      have ih' := ih (k + 1) q (by omega)
      have e : fl (gHeld (μ 51)) (k + 1) = fl (gHeld (μ 51)) k + (if μ 51 (12 + k) = -1 then 0 else 1) := rfl
      rw [e] at ih'
      unfold f_X5_count_J122
      simp only [vL_e, show nI k + 1 = nI (k + 1) from nI_1 k]
      rcases hI.2.2.2.2.2.1 k q with w | ⟨c, hc, w⟩
      · rw [if_pos w] at ih'
        rw [w, if_neg (show ¬ (0 : Int32) ≤ -1 by decide)]
        exact ih'
      · have hn1 : ¬ μ 51 (12 + k) = -1 := by
          rw [w]
          intro z
          have : ¬ nI c < 0 := nI_pos (by omega)
          rw [z] at this
          exact this (by decide)
        rw [if_neg hn1] at ih'
        rw [w, if_pos (nI_pos' (by omega))]
        exact ih'
    · rw [if_pos (nI_le q (by omega)), show k = 10 by omega]
theorem sim39 : Sim39 Rel := by
  intro σ μ x1 h
  unfold f_X4_count f_X5_count f_X1_heldSpots
  obtain ⟨n, hn, t1, t2, _⟩ := h.2.2.2.2.2.1
  simp only [vL_e]
  rw [vI_at (x := 0) (j := 0) rfl (by decide) (by decide), vI_at (x := 1) (j := 1) rfl (by decide) (by decide), vI_at (x := 2) (j := 2) rfl (by decide) (by decide), vI_at (x := 4) (j := 4) rfl (by decide) (by decide), vI_at (x := 5) (j := 5) rfl (by decide) (by decide), downs_C h.1 h.2.1, downs_M h.2.1, vC_s, vC_s, bitc_C, bitc_M (rg_downs h.2.1), vC_s, vC_s, t1, t2, h.1.1.2.1, h.1.1.2.2.1, h.1.1.2.2.2.1, h.1.1.2.2.2.2.1, h.1.1.2.2.2.2.2]
  have hC := held_C (b := 1 + 2) (fun s hs => h.1.2.2.1 s hs) FU 0 (by decide) (FU_gt (by decide))
  have hM := held_M h.2.1 FU 0 (by decide) (FU_gt (by decide))
  have hC' : f_X1_heldSpots_L13 FU 0 (1 + 2) 10 0 σ = some (fl (gHeld (μ 51)) 10, σ) := hC
  have hM' : f_X5_count_L98 FU 0 0 μ = some (fl (gHeld (μ 51)) 10, μ) := hM
  rw [hC', hM', vC_s]
  by_cases c0 : x1 = 0
  · rw [if_pos c0, if_pos c0]; exact ⟨_, _, _, rfl, rfl, h⟩
  rw [if_neg c0, if_neg c0]
  by_cases c1 : x1 = 1
  · rw [if_pos c1, if_pos c1]; exact ⟨_, _, _, rfl, rfl, h⟩
  rw [if_neg c1, if_neg c1]
  by_cases c2 : x1 = 2
  · rw [if_pos c2, if_pos c2]; exact ⟨_, _, _, rfl, rfl, h⟩
  rw [if_neg c2, if_neg c2]
  by_cases c3 : x1 = 3
  · rw [if_pos c3, if_pos c3]; exact ⟨_, _, _, rfl, rfl, h⟩
  rw [if_neg c3, if_neg c3]
  by_cases c4 : x1 = 4
  · rw [if_pos c4, if_pos c4]; exact ⟨_, _, _, rfl, rfl, h⟩
  rw [if_neg c4, if_neg c4]
  by_cases c5 : x1 = 5
  · rw [if_pos c5, if_pos c5]; exact ⟨_, _, _, rfl, rfl, h⟩
  rw [if_neg c5, if_neg c5]
  by_cases c6 : x1 = 6
  · rw [if_pos c6, if_pos c6]; exact ⟨_, _, _, rfl, rfl, h⟩
  rw [if_neg c6, if_neg c6]
  by_cases c7 : x1 = 7
  · rw [if_pos c7, if_pos c7]; exact ⟨_, _, _, rfl, rfl, h⟩
  rw [if_neg c7, if_neg c7]
  exact fin0 h
theorem sum_C {σ : Mem} : ∀ n k : Nat, k ≤ 7 → 7 - k < n → f_X4_status_L31 n (sm (σ 49) k) (nI k) σ = some (sm (σ 49) 7, σ) := by
  intro n
  induction n with
  | zero => intro k _ q; omega
  | succ n ih =>
    intro k hk hn
    rw [f_X4_status_L31_s, show (7 : Int32) = nI 7 from rfl]
    rcases Nat.lt_or_ge k 7 with q | q
    · rw [if_neg (nle_of q (by decide)), vI_at rfl q (by decide), vL_e, vL_e, show nI k + 1 = nI (k + 1) from nI_1 k]
      exact ih (k + 1) q (by omega)
    · rw [if_pos (nI_le q (by omega)), show k = 7 by omega]
theorem neg1 {x : Int32} (h1 : ¬ x < -1) (h2 : x < 0) : x = -1 := by
  apply Int32.toInt_inj.mp
  rw [Int32.lt_iff_toInt_lt] at h1 h2
  have e1 : (-1 : Int32).toInt = -1 := rfl
  have e0 : (0 : Int32).toInt = 0 := rfl
  rw [e1] at h1 ⊢
  rw [e0] at h2
  omega
theorem sim40 : Sim40 Rel := by
  intro σ μ x1 h
  unfold f_X4_status f_X5_status
  by_cases c : ¬ x1 < -1 ∧ ¬ 6 < x1
  · rw [wC1 c, wM1 c, vC_s, vC_s, if_neg n10, if_neg n10]
    have hC : f_X4_status_L31 FU 0 0 σ = some (sm (σ 49) 7, σ) := sum_C FU 0 (by decide) (FU_gt (by decide))
    rw [vL_e, vL_e, hC]
    by_cases d : x1 < 0
    · have e := neg1 c.1 d
      subst e
      rw [if_pos d, vI_at (x := -1 + 1) (j := 0) rfl (by decide) (by decide), h.2.2.2.2.1.2]
      exact ⟨_, _, _, rfl, rfl, h⟩
    · obtain ⟨k, hk, rfl⟩ := rg_of (m := 6) (by decide) rfl ⟨d, c.2⟩
      rw [if_neg d, vI_at rfl (by omega) (by decide), vI_at (j := k + 1) (nI_1 k) (by omega) (by decide), h.2.2.2.2.1.1 k (by omega)]
      exact ⟨_, _, _, rfl, rfl, h⟩
  · rw [wC0 c, wM0 c, vC_s, vC_s, if_pos rfl, if_pos rfl]
    exact fin0 h
/-- only the text has changed -/
theorem Rel.txt {σ σ' μ μ' : Mem} (h : Rel σ μ) (a : ∀ i, i ≠ 38 → i ≠ 39 → ¬ (25 ≤ i ∧ i < 38) → σ' i = σ i) (b : ∀ i, 51 ≤ i → i < 55 → μ' i = μ i) (c : ∀ i, 58 ≤ i → i < 61 → μ' i = μ i) (d : μ' 50 3 = μ 50 3) (t : RT σ' μ') : Rel σ' μ' := by
  obtain ⟨r1, r2, z, rk, rf, rt, rs⟩ := h
  have e51 := b 51 (by decide) (by decide)
  have e52 := b 52 (by decide) (by decide)
  have e53 := b 53 (by decide) (by decide)
  exact ⟨by rw [e51]; exact Rh_fr r1 r2 (fun i x y => a i (by omega) (by omega) (by omega)), by rw [e51]; exact r2, by rw [e51, e52, e53]; exact z, RK_fr rk (a 0 (by decide) (by decide) (by decide)) (fun i x y => a i (by omega) (by omega) (by omega)) d e52, RF_fr rf (a 49 (by decide) (by decide) (by decide)) (b 54 (by decide) (by decide)), t, RS_fr rs (fun i x y => a i (by omega) (by omega) (by omega)) (c 58 (by decide) (by decide)) (c 59 (by decide) (by decide)) (c 60 (by decide) (by decide))⟩
theorem byte_and (w : Int32) : w.toInt8.toInt32 &&& 255 = w &&& 255 := by
  apply Int32.toBitVec_inj.mp
  rw [Int32.toBitVec_and, Int32.toBitVec_and]
  ext i hi
  rw [BitVec.getElem_and, BitVec.getElem_and]
  rcases Nat.lt_or_ge i 8 with q | q
  · have : (w.toInt8.toInt32).toBitVec[i] = w.toBitVec[i] := by
      show (BitVec.signExtend 32 (BitVec.signExtend 8 w.toBitVec))[i] = w.toBitVec[i]
      rw [BitVec.getElem_signExtend, dif_pos q, BitVec.getElem_signExtend, dif_pos hi]
    rw [this]
  · have : (255 : Int32).toBitVec[i] = false := by
      have : ∀ i, (hi : i < 32) → 8 ≤ i → (255 : Int32).toBitVec[i] = false := by decide
      exact this i hi q
    rw [this, Bool.and_false, Bool.and_false]
theorem byte_id (w : Int32) : w.toInt8.toInt32.toInt8.toInt32 = w.toInt8.toInt32 := by
  rw [← vp_nar_byte, pk_vb]
theorem feed_L {x1 : Int32} : ∀ (m j n : Nat) (σ μ : Mem), j < m → Rel σ μ → σ 38 1 = nI n → n + j ≤ 120 → ∃ (r : Int32) (σ' μ' : Mem), f_X4_feed_L39 m x1 (nI j + (-1)) σ = some (r, σ') ∧ f_X5_feed_L38 m x1 (nI j + (-1)) μ = some (r, μ') ∧ Rel σ' μ' := by
  intro m
  induction m with
  | zero => intro j n σ μ h; omega
  | succ m ih =>
    intro j n σ μ hj h hn hs
    rw [f_X4_feed_L39_s, f_X5_feed_L38_s]
    obtain ⟨n', hn', t1, t2, t3⟩ := h.2.2.2.2.2.1
    have e : n = n' := by
      rw [hn] at t1
      exact (nI_eq (by omega) (by omega)).mp t1
    subst e
    cases j with
    | zero =>
      rw [if_pos (show nI 0 + (-1) < 0 by decide), if_pos (show nI 0 + (-1) < 0 by decide), hn, t2]
      exact ⟨_, _, _, rfl, rfl, h⟩
    | succ j =>
      rw [pk_m1, if_neg (nI_pos (by omega)), if_neg (nI_pos (by omega))]
      unfold f_X3_add
      rw [hn, show (120 : Int32) = nI 120 from rfl, if_neg (nle_of (by omega) (by decide)), vI_at rfl (by omega) (by decide), vW_e, vW_e, vC_s, vL_e, t2, vI_at rfl (by omega) (by decide), vW_e, vW_e, vL_e, pk_vb]
      generalize x1 >>> ((8 * nI j) &&& 31) = w
      have s1 : up2 σ 39 n w.toInt8.toInt32 38 1 = nI n := by rw [up2_n (by decide)]; exact hn
      have m1 : up2 μ 55 n (w &&& 255) 50 6 = nI n := by rw [up2_n (by decide)]; exact t2
      rw [s1, m1, show nI n + 1 = nI (n + 1) from nI_1 n]
      refine ih j (n + 1) _ _ (by omega) (h.txt (fun i a b c => by rw [up2_n a, up2_n b]) (fun i a b => by rw [up2_n (by omega), up2_n (by omega)]) (fun i a b => by rw [up2_n (by omega), up2_n (by omega)]) (by rw [up2_s, upd_n (by decide), up2_n (by decide)]) ?_) (by rw [up2_s, upd_s]) (by omega)
      refine ⟨n + 1, by omega, by rw [up2_s, upd_s], by rw [up2_s, upd_s], fun k hk => ?_⟩
      rw [up2_n (show 55 ≠ 50 by decide), up2_n (show 39 ≠ 38 by decide), up2_s, up2_s]
      by_cases q : k = n
      · subst q
        rw [upd_s, upd_s]
        exact ⟨(byte_and w).symm, byte_id w⟩
      · rw [upd_n q, upd_n q]; exact t3 k (by omega)
theorem sim26 : Sim26 Rel := by
  intro σ μ x1 x2 h
  unfold f_X4_feed f_X5_feed
  by_cases c : ¬ x2 < 1 ∧ ¬ 4 < x2
  · rw [wC1 c, wM1 c, vC_s, vC_s, if_neg n10, if_neg n10]
    have c0 : ¬ x2 < 0 := fun q => c.1 (Int32.lt_trans q (by decide))
    obtain ⟨k, hk, rfl⟩ := rg_of (m := 4) (by decide) rfl ⟨c0, c.2⟩
    obtain ⟨n, hn, t1, t2, t3⟩ := h.2.2.2.2.2.1
    have hk1 : 1 ≤ k := by
      rcases Nat.eq_zero_or_pos k with q | q
      · subst q; exact absurd (by decide) c.1
      · exact q
    rw [t1, t2, show (120 : Int32) = nI 120 from rfl, pk_sub (by omega), nI_add]
    by_cases d : n + k ≤ 120
    · rw [if_pos (nI_le (by omega) (by omega)), if_pos (nI_le d (by omega)), vL_e, vL_e]
      have e : nI k - 1 = nI k + (-1) := by
        obtain ⟨j, rfl⟩ : ∃ j, k = j + 1 := ⟨k - 1, by omega⟩
        rw [nI_pred, pk_m1]
      rw [e]
      exact feed_L FU k n σ μ (FU_gt (by omega)) h t1 d
    · rw [if_neg (nle_of (by omega) (by omega)), if_neg (nle_of (by omega) (by omega))]
      exact fin1 h
  · rw [wC0 c, wM0 c, vC_s, vC_s, if_pos rfl, if_pos rfl]
    exact fin0 h
