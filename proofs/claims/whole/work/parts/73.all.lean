/-! 28 text, the start, all together -/
theorem sim28 : Sim28 Rel := by
  intro σ μ h
  obtain ⟨n, hn, t1, t2, t3⟩ := h.2.2.2.2.2.1
  unfold f_X4_text f_X5_text f_X3_readInto f_X4_text_J38
  obtain ⟨σ1, a1, a2, a3⟩ := take_C (a := 25) h.1 h.2.1 (by decide)
  rw [a1, vC_s, vW_e, vW_e, vW_e, vW_e, vI_at (x := 1) (j := 1) rfl (by decide) (by decide), vW_e]
  have e38 : σ1 38 = σ 38 := a3 38 (by decide)
  have e39 : σ1 39 = σ 39 := a3 39 (by decide)
  have hB : ∀ k, k < n → BT (μ 55 k) (σ1 39 k) := fun k hk => by
    rw [e39]
    exact BT_of (t3 k hk).1 (t3 k hk).2
  simp only [up2_e, setr_same, setr_setr, setr_ne (show 51 ≠ 50 by decide)]
  generalize hρ : upd (upd (upd (upd (μ 50) 8 0) 11 0) 14 0) 15 (μ 51 1) = ρ
  have r6 : ρ 6 = nI n := by rw [← hρ]; exact t2
  have r8 : ρ 8 = nI 0 := by rw [← hρ]; rfl
  have r11 : ρ 11 = 0 := by rw [← hρ]; rfl
  have r14 : ρ 14 = nI 0 := by rw [← hρ]; rfl
  have r15 : ρ 15 = nI (hg (μ 51)) := by rw [← hρ]; exact h.2.1.hung.1
  have r3 : ρ 3 = μ 50 3 := by rw [← hρ]; rfl
  obtain ⟨τ2, ρ2, s2, e2, b1, b2, b3, b4, b5, b6⟩ := step_alike (σ := σ1) (μ := μ) (τ := upd (σ1 38) 4 0) (ρ := ρ) (e0 := 0) hn hB (by rw [upd_n (by decide), e38]; exact t1) upd_s r6 r8 (Nat.zero_le _)
  rw [b1, b2, vC_s, vC_s, vL_e]
  have hm : setr μ 57 (μ 57) = μ := setr_self
  have al : Al n μ (μ 51) σ1 τ2 (μ 57) ρ2 s2 e2 0 := by
    refine ⟨b3, ?_, ?_, b6, ?_, ?_, a2, ?_, ?_⟩
    · rw [b4 6 (by decide)]; exact r6
    · rw [b4 11 (by decide)]; exact r11
    · rw [b4 14 (by decide)]; exact r14
    · rw [b4 15 (by decide)]; exact r15
    · intro j hj
      have : j = 0 := by omega
      subst this
      exact ⟨h.2.1, h.2.2.1.1, fun z => by omega⟩
    · rw [b4 3 (by decide)]; exact r3
  have F := text_L hn rfl FU 0 σ1 τ2 (μ 57) ρ2 s2 e2 hB al (Nat.zero_le _) (FU_gt (by omega))
  rw [hm] at F
  have tr0 : ∀ i, ¬ (25 ≤ i ∧ i < 37) → σ1 i = σ i := fun i hi => a3 i (by omega)
  have mu : ∀ {ι' ρ' : Nat → Int32} {i : Nat}, i ≠ 57 → i ≠ 50 → setr (setr μ 57 ι') 50 ρ' i = μ i := fun x y => by rw [setr_ne y, setr_ne x]
  rcases F with ⟨t, σ', τ', ι', ρ', f1, f2, f3, f4, f5, f6⟩ | ⟨K, σ', τ', ι', ρ', f1, f2, f3, f4, f5, f6, f7, f8⟩
  · have f2' : f_X3_readInto_L11 FU 25 1 (setr σ1 38 τ2) = some (-1 - nI t, setr σ' 38 τ') := f2
    have neg : -1 - nI t < 0 := by
      have e : (-1 - nI t).toInt = -1 - (t : Int) := by
        rw [Int32.toInt_sub, nI_toInt (by omega)]
        have : (-1 : Int32).toInt = -1 := rfl
        rw [this]
        refine Int.bmod_eq_of_le ?_ ?_ <;> omega
      rw [Int32.lt_iff_toInt_lt, e]
      have : (0 : Int32).toInt = 0 := rfl
      rw [this]
      omega
    rw [f2', f3, vC_s, vL_e, if_pos neg]
    refine ⟨_, _, _, rfl, rfl, h.txt (fun i x y z => ?_) (fun i x y => mu (by omega) (by omega)) (fun i x y => mu (by omega) (by omega)) (by rw [setr_same]; exact f5) ⟨0, by decide, ?_, ?_, fun k hk => by omega⟩⟩
    · rw [up2_setr, setr_ne x, f6 i (by omega), tr0 i (by omega)]
    · rw [up2_setr, setr_same, upd_s]; rfl
    · rw [setr_same, f4]; rfl
  · have f2' : f_X3_readInto_L11 FU 25 1 (setr σ1 38 τ2) = some (nI K, setr σ' 38 τ') := f2
    obtain ⟨hI, hZ, _⟩ := f8 K (Nat.le_refl _)
    have hR25 : Rh 25 (setr σ' 38 τ') (apAll ι' (μ 51) K) := Rh_fr f7 hI (fun i _ _ => setr_ne (by omega))
    obtain ⟨σ3, c1, c2, c3⟩ := take_C (a := 1) hR25 hI (by decide)
    rw [f2', f3, vC_s, vL_e, if_neg (nI_pos (by omega)), c1, vC_s]
    have s38 : σ3 38 = τ' := by rw [c3 38 (by decide), setr_same]
    obtain ⟨q1, q2, ⟨qa, qb, qc⟩, rk, rf, rt, rs⟩ := h
    have ne : ∀ i, i ≠ 51 → i ≠ 57 → i ≠ 50 → setr (setr (setr μ 57 ι') 50 ρ') 51 (apAll ι' (μ 51) K) i = μ i := fun i x y z => by rw [setr_ne x, setr_ne z, setr_ne y]
    have se : ∀ i, ¬ (1 ≤ i ∧ i < 13) → ¬ (25 ≤ i ∧ i < 37) → i ≠ 38 → setr σ3 38 (upd (σ3 38) 1 0) i = σ i := fun i x y z => by rw [setr_ne z, c3 i (by omega), setr_ne z, f6 i y, tr0 i y]
    refine ⟨_, _, _, rfl, rfl, ?_, ?_, ⟨?_, ?_, ?_⟩, ?_, ?_, ⟨0, by decide, ?_, ?_, fun k hk => by omega⟩, ?_⟩
    · rw [setr_same]; exact Rh_fr c2 hI (fun i x y => setr_ne (by omega))
    · rw [setr_same]; exact hI
    · rw [setr_same]; exact hZ
    · rw [ne 52 (by decide) (by decide) (by decide)]; exact qb
    · rw [ne 53 (by decide) (by decide) (by decide)]; exact qc
    · exact RK_fr rk (se 0 (by decide) (by decide) (by decide)) (fun i x y => se i (by omega) (by omega) (by omega)) (by rw [setr_ne (by decide), setr_same]; exact f5) (ne 52 (by decide) (by decide) (by decide))
    · exact RF_fr rf (se 49 (by decide) (by decide) (by decide)) (ne 54 (by decide) (by decide) (by decide))
    · rw [up2_s, upd_s]; rfl
    · rw [setr_ne (by decide), setr_same, f4]; rfl
    · exact RS_fr rs (fun i x y => se i (by omega) (by omega) (by omega)) (ne 58 (by decide) (by decide) (by decide)) (ne 59 (by decide) (by decide) (by decide)) (ne 60 (by decide) (by decide) (by decide))
theorem iNow_Z : Z70 (ini 51) := by
  intro k hk
  show iNow k = 0
  unfold iNow
  rw [upd_n (by omega), upd_n (by omega), upd_n (by omega), upd_n (by omega), upd_n (by omega), upd_n (by omega), upd_n (by omega), upd_n (by omega), upd_n (by omega), upd_n (by omega), upd_n (by omega), upd_n (by omega), upd_n (by omega), upd_n (by omega), upd_n (by omega), upd_n (by omega), upd_n (by omega)]
theorem ini_hg : hg (ini 51) = 0 := by decide
theorem rel_ini : Rel ini ini := by
  refine ⟨⟨by decide, by decide, by decide, fun c f hc => ?_⟩, ⟨⟨0, by decide, by decide⟩, ⟨0, by decide, by decide⟩, by decide, ⟨0, by decide, by decide⟩, ⟨0, by decide, by decide⟩, fun s hs => Or.inl ?_, fun c hc => ?_⟩, ⟨iNow_Z, fun _ _ => rfl, fun _ _ => rfl⟩, ⟨by decide, by decide, fun z => absurd z (by decide)⟩, ⟨by decide, by decide⟩, ⟨0, by decide, by decide, by decide, fun k hk => by omega⟩, fun s hs => ?_⟩
  · rw [ini_hg] at hc; omega
  · have : ∀ s, s < 10 → ini 51 (12 + s) = -1 := by decide
    exact this s hs
  · rw [ini_hg] at hc; omega
  · have : ∀ s, s < 4 → ini (40 + 1 + 2 * s) 0 = ini 58 s ∧ ini 58 s = 0 ∧ ini (40 + 1 + 2 * s) 1 = nI 0 ∧ ini 59 s = nI 0 := by decide
    obtain ⟨a, b, c, d⟩ := this s hs
    exact ⟨a, Or.inl b, 0, by decide, c, d, fun k hk => by omega⟩
theorem sims : Sims Rel := ⟨sim0, sim1, sim2, sim3, sim4, sim5, sim6, sim7, sim8, sim9, sim10, sim11, sim12, sim13, sim14, sim15, sim16, sim17, sim18, sim19, sim20, sim21, sim22, sim23, sim24, sim25, sim26, sim27, sim28, sim29, sim30, sim31, sim32, sim33, sim34, sim35, sim36, sim37, sim38, sim39, sim40⟩
