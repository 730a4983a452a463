/-! 18 handsFor, 23 evening, 24 odds -/
section HF
variable {i x : Nat}
abbrev Qh (N : Nat → Int32) (i x k : Nat) : Prop := ¬ prb N (pul (cur N i) (nI k)) x 3 ≤ 0
theorem su_M {μ : Mem} {j : Nat} (hI : Inv (μ 51)) (h1 : Z70 (μ 51)) (h3 : Z70 (μ 53)) (hi : i < hg (μ 51)) (hx : x ≤ 60) : f_X5_staysUp (nI i) (nI j) (nI x) μ = some (if Qh (μ 51) i x j then 1 else 0, setr μ 53 (μ 51)) := by
  have h8 := hI.hung.2
  unfold f_X5_staysUp f_X5_staysUp_J37
  have hIp : Inv (puN (μ 51) i (nI j)) := pu_Inv hI
  have hZp := Z_bg (pu_Z (x := nI j) (i := i) h1 (by omega)) hIp x
  rw [as_cr h1 h3, vC_s, pul_M (by omega) (by rw [as_1]; exact (hI.2.2.2.2.2.2 i hi).1), vC_s, as_1, as_s, as_bg hIp (by omega), vC_s, cIs3 (by omega), vC_s, as_1]
  have e : cur (bgN (puN (μ 51) i (nI j)) x) i 3 = prb (μ 51) (pul (cur (μ 51) i) (nI j)) x 3 := by
    rw [bg_cur hIp (by unfold hg; rw [pu_lo (by decide)]; exact hi) x (by omega) 3 (by decide), pu_cur, prb_cg (pu_lo (by decide)) (pu_lo (by decide)) (fun t ht => pu_lo (by omega))]
  rw [e, vL_e, vL_e, as_bk h1 hZp, vC_s, vC_s]
  by_cases q : prb (μ 51) (pul (cur (μ 51) i) (nI j)) x 3 ≤ 0
  · rw [if_pos q, if_neg (fun z => z q)]
    rfl
  · rw [if_neg q, if_pos q]
    rfl
theorem hfM_L {μ0 : Mem} (hi : i < hg (μ0 51)) (hx : x ≤ 60) (hI : Inv (μ0 51)) (hZ : Z70 (μ0 51)) : ∀ (n j : Nat) (μ : Mem) (y : Int32), j ≤ 40 → j < n → (∀ t, t ≠ 53 → μ t = μ0 t) → Z70 (μ 53) → Low (Qh (μ0 51) i x) 41 (j + 1) y → ∃ (y' : Int32) (μ' : Mem), f_X5_handsFor_L43 n (nI i) (nI x) y (nI j) μ = vC (f_X5_orNone y' μ') (fun r τ => some (r, τ)) ∧ (∀ t, t ≠ 53 → μ' t = μ0 t) ∧ Z70 (μ' 53) ∧ Low (Qh (μ0 51) i x) 41 1 y' := by
  intro n
  induction n with
  | zero => intro j μ y _ h; omega
  | succ n ih =>
    intro j μ y hj hn hm hz hL
    rw [f_X5_handsFor_L43_s]
    cases j with
    | zero =>
      rw [if_pos (show nI 0 ≤ 0 by decide)]
      exact ⟨y, μ, rfl, hm, hz, hL⟩
    | succ j =>
      have e51 := hm 51 (by decide)
      rw [if_neg (nI_nle (by omega) (by omega)), su_M (by rw [e51]; exact hI) (by rw [e51]; exact hZ) hz (by rw [e51]; exact hi) hx, vC_s, e51]
      have hm' : ∀ t, t ≠ 53 → setr μ 53 (μ0 51) t = μ0 t := fun t ht => by rw [setr_ne ht]; exact hm t ht
      have hz' : Z70 (setr μ 53 (μ0 51) 53) := by rw [setr_same]; exact hZ
      unfold f_X5_handsFor_J65
      simp only [vL_e, pk_m1]
      by_cases q : Qh (μ0 51) i x (j + 1)
      · rw [if_pos q, if_neg n10]
        exact ih j _ _ (by omega) (by omega) hm' hz' (hL.yes (by omega) q)
      · rw [if_neg q, if_pos rfl]
        exact ih j _ _ (by omega) (by omega) hm' hz' (hL.no q)
theorem hf_step {σ μ : Mem} (h : Rel σ μ) (hi : i < hg (μ 51)) (hx : x ≤ 60) {n k : Nat} (hk : k ≤ 40) : ∃ r', f_X4_handsFor_L51 (n + 1) (nI x) (1 + 3 + 1 + i) (nI k) σ = if Qh (μ 51) i x k then some (nI k, setr σ 37 r') else f_X4_handsFor_L51 n (nI x) (1 + 3 + 1 + i) (nI (k + 1)) (setr σ 37 r') := by
  have h8 := h.2.1.hung.2
  have hk0 : rg (setr σ 37 (tk6 (σ 37) (σ (1 + 3 + 1 + i))) 37 0) 6 := by rw [setr_same, tk6_e 0 (by decide), h.1.2.2.2 i 0 hi (by decide)]; exact (h.2.1.2.2.2.2.2.2 i hi).1
  rw [f_X4_handsFor_L51_s, show (40 : Int32) = nI 40 from rfl, if_neg (nI_nlt hk (by decide)), tk_C (by omega), vC_s, pul_C hk0, vC_s, setr_same, setr_setr]
  obtain ⟨r', g1, g2⟩ := pp_C (σ := setr σ 37 (pul (tk6 (σ 37) (σ (1 + 3 + 1 + i))) (nI k))) (c := pul (cur (μ 51) i) (nI k)) (x := x) (h.probe).1 h.2.1 ((h.2.1.2.2.2.2.2.2 i hi).1) (fun f hf => by
    rw [setr_same]
    exact cg_pul (fun g hg => by rw [tk6_e g hg]; exact h.1.2.2.2 i g hi hg) f hf) (by omega)
  refine ⟨r', ?_⟩
  rw [g1, vC_s, setr_setr, setr_same, g2 3 (by decide), vL_e, show nI k + 1 = nI (k + 1) from nI_1 k]
  by_cases q : prb (μ 51) (pul (cur (μ 51) i) (nI k)) x 3 ≤ 0
  · rw [if_pos q, if_neg (fun z => z q)]
  · rw [if_neg q, if_pos q]
theorem hf1 {μ : Mem} (hi : i < hg (μ 51)) (hx : x ≤ 60) {K : Nat} (hK : K < 41) (q : Qh (μ 51) i x K) (nq : ∀ j, 1 ≤ j → j < K → ¬ Qh (μ 51) i x j) : ∀ n k σ, Rel σ μ → 1 ≤ k → k ≤ K → K - k < n → ∃ r σ', f_X4_handsFor_L51 n (nI x) (1 + 3 + 1 + i) (nI k) σ = some (nI K, setr σ' 37 r) ∧ Rel σ' μ := by
  intro n
  induction n with
  | zero => intro k σ _ _ _ h; omega
  | succ n ih =>
    intro k σ hR h1 hk hn
    obtain ⟨r', g⟩ := hf_step hR hi hx (n := n) (show k ≤ 40 by omega)
    rw [g]
    by_cases e : k = K
    · subst e
      rw [if_pos q]
      exact ⟨r', σ, rfl, hR⟩
    · rw [if_neg (nq k h1 (by omega))]
      exact ih (k + 1) _ hR.probe (by omega) (by omega) (by omega)
theorem hf0 {μ : Mem} (hi : i < hg (μ 51)) (hx : x ≤ 60) (nq : ∀ j, 1 ≤ j → j < 41 → ¬ Qh (μ 51) i x j) : ∀ n k σ, Rel σ μ → 1 ≤ k → k ≤ 41 → 41 - k < n → ∃ σ', f_X4_handsFor_L51 n (nI x) (1 + 3 + 1 + i) (nI k) σ = vC (f_X4_find 3 σ') (fun r τ => some (r, τ)) ∧ Rel σ' μ := by
  intro n
  induction n with
  | zero => intro k σ _ _ _ h; omega
  | succ n ih =>
    intro k σ hR h1 hk hn
    by_cases e : k = 41
    · subst e
      rw [f_X4_handsFor_L51_s, if_pos (by decide)]
      exact ⟨σ, rfl, hR⟩
    · obtain ⟨r', g⟩ := hf_step hR hi hx (n := n) (show k ≤ 40 by omega)
      rw [g, if_neg (nq k h1 (by omega))]
      exact ih (k + 1) _ hR.probe (by omega) (by omega) (by omega)
end HF
theorem sim18 : Sim18 Rel := by
  intro σ μ x1 x2 h
  unfold f_X4_handsFor f_X5_handsFor f_X4_handsFor_J18 f_X5_handsFor_J15 f_X5_isTied
  by_cases c : ¬ x1 < 0 ∧ ¬ (μ 51 1 - 1) < x1
  · rw [isCurtain_C1 h.1.1.2.2.2.2.2 c, isCurtain_M1 c, vC_s, vC_s, if_neg n10, if_neg n10]
    by_cases d : ¬ x2 < 0 ∧ ¬ 60 < x2
    · rw [wC1 d, isThought_M1 d, vC_s, vC_s, if_neg n10, if_neg n10]
      obtain ⟨i, hi, rfl⟩ := cur_of h.2.1 c
      have h8 := h.2.1.hung.2
      obtain ⟨x, hx, rfl⟩ := rg_of (m := 60) (by decide) rfl d
      rw [vI_at rfl (by omega) (by decide), h.1.2.2.2 i 4 hi (by decide), cIs4 (by omega), vC_s]
      by_cases e : cur (μ 51) i 4 = 1
      · rw [if_pos e, if_pos e, vC_s, if_neg n10]
        exact fin4 h
      · rw [if_neg e, if_neg e, vC_s, if_pos rfl]
        simp only [vL_e]
        obtain ⟨y', μ', g1, g2, g3, g4⟩ := hfM_L hi hx h.2.1 h.2.2.1.1 FU 40 μ (-1) (by decide) (FU_gt (by decide)) (fun _ _ => rfl) h.2.2.1.2.2 Low.ini
        have g1' : f_X5_handsFor_L43 FU (nI i) (nI x) (-1) 40 μ = vC (f_X5_orNone y' μ') (fun r τ => some (r, τ)) := g1
        rw [g1']
        have fin : ∀ σ', Rel σ' μ → Rel σ' μ' := fun σ' hR => hR.scratch (fun _ _ => rfl) g2 g3
        rcases g4 with ⟨a1, a2⟩ | ⟨K, a1, a2, a3, a4, a5⟩
        · obtain ⟨σ', b1, b2⟩ := hf0 hi hx a2 FU 1 σ h (by decide) (by decide) (FU_gt (by omega))
          have b1' : f_X4_handsFor_L51 FU (nI x) (1 + 3 + 1 + i) 1 σ = vC (f_X4_find 3 σ') (fun r τ => some (r, τ)) := b1
          rw [a1, b1', none_0]
          obtain ⟨r, σ2, μ2, c1, c2, c3⟩ := fin3 (fin σ' b2)
          exact ⟨r, σ2, μ2, c1, by rw [c2, vC_s], c3⟩
        · obtain ⟨r, σ', b1, b2⟩ := hf1 hi hx a2 a3 a4 FU 1 σ h (by decide) a1 (FU_gt (by omega))
          have b1' : f_X4_handsFor_L51 FU (nI x) (1 + 3 + 1 + i) 1 σ = some (nI K, setr σ' 37 r) := b1
          rw [a5, b1', none_1 (by omega), vC_s]
          exact ⟨_, _, _, rfl, rfl, fin _ b2.probe⟩
    · rw [wC0 d, isThought_M0 d, vC_s, vC_s, if_pos rfl, if_pos rfl]
      exact fin0 h
  · rw [isCurtain_C0 h.1.1.2.2.2.2.2 c, isCurtain_M0 c, vC_s, vC_s, if_pos rfl, if_pos rfl]
    exact fin0 h
/-! 23 evening -/
def nx (z : Int32) : Int32 := z * 1103515245 + 12345
def dr (z : Int32) : Int32 := (z.toUInt32 >>> ((8 : Int32).toUInt32 &&& Int32.toUInt32 31)).toInt32
theorem dr_n (z : Int32) : ∃ k, k < 2 ^ 24 ∧ dr z = nI k := by
  refine ⟨z.toBitVec.toNat / 2 ^ 8, ?_, ?_⟩
  · have := z.toBitVec.isLt
    omega
  · apply Int32.toBitVec_inj.mp
    apply BitVec.eq_of_toNat_eq
    have := z.toBitVec.isLt
    rw [pk_tn (by omega)]
    exact pk_ushr z 8 8 (by decide)
theorem dr_C {σ : Mem} : f_X1_draw 1 σ = some (dr (nx (σ 1 4)), up2 σ 1 4 (nx (σ 1 4))) := by
  unfold f_X1_draw
  rw [vW_e, up2_s, upd_s]
  rfl
theorem dr_M {μ : Mem} : f_X5_drawn μ = some (dr (nx (μ 51 2)), setr μ 51 (upd (μ 51) 2 (nx (μ 51 2)))) := by
  unfold f_X5_drawn
  rw [vI_at (x := 2) (j := 2) rfl (by decide) (by decide), vI_at (x := 2) (j := 2) rfl (by decide) (by decide), vW_e, vI_at (x := 2) (j := 2) rfl (by decide) (by decide), up2_e, setr_same, upd_s]
  rfl
theorem xor_rg {v : Int32} {s : Nat} (hv : rg v 4095) (hs : s < 12) : rg (v ^^^ ((1 : Int32) <<< (nI s &&& 31))) 4095 := by
  obtain ⟨k, hk, rfl⟩ := hv
  have e1 : ∀ s, s < 12 → (1 : Int32) <<< (nI s &&& 31) = nI (2 ^ s) := by decide
  rw [e1 s hs]
  have hs2 : 2 ^ s < 2 ^ 12 := Nat.pow_lt_pow_right (by decide) hs
  have hx : k ^^^ 2 ^ s < 2 ^ 12 := Nat.xor_lt_two_pow (by omega) hs2
  refine ⟨k ^^^ 2 ^ s, by omega, ?_⟩
  apply Int32.toBitVec_inj.mp
  apply BitVec.eq_of_toNat_eq
  rw [Int32.toBitVec_xor, BitVec.toNat_xor, pk_tn (by omega), pk_tn (by omega), pk_tn (by omega)]
theorem ev_next {σ μ : Mem} (h : Rel σ μ) : ∃ σ' μ', f_X1_passBeat 1 σ = some ((), σ') ∧ f_X5_beat μ = some ((), μ') ∧ Rel σ' μ' := by
  obtain ⟨σ1, a1, a2, a3⟩ := pb_C h.1 h.2.1
  refine ⟨σ1, _, a1, be_M h.2.1, h.house (fun i b c => a3 i (by omega)) (fun i b c => setr_ne b) ?_ ?_ ?_ ?_⟩
  · rw [setr_same]; exact a2
  · rw [setr_same]; exact be_Inv h.2.1
  · rw [setr_same]; exact Z_be h.2.2.1.1 h.2.1
  · rw [setr_ne (by decide)]; exact h.2.2.1.2.2
theorem ev_L {x : Nat} (hx : x ≤ 20) : ∀ (n k : Nat) (σ μ : Mem), k ≤ x → x - k < n → Rel σ μ → ∃ (r : Int32) (σ' μ' : Mem), f_X4_evening_L38 n (nI x) (nI k) σ = some (r, σ') ∧ f_X5_evening_L39 n (nI x) (nI k) μ = some (r, μ') ∧ Rel σ' μ' := by
  intro n
  induction n with
  | zero => intro k σ μ _ q; omega
  | succ n ih =>
    intro k σ μ hk hn h
    rw [f_X4_evening_L38_s, f_X5_evening_L39_s]
    rcases Nat.lt_or_ge k x with q | q
    · rw [if_neg (nle_of q (by omega)), if_neg (nle_of q (by omega))]
      obtain ⟨b, hb, e⟩ := h.2.1.beat
      have h8 := h.2.1.hung.2
      have ez : σ 1 4 = μ 51 2 := h.1.1.2.2.2.2.1
      obtain ⟨k1, hk1, d1⟩ := dr_n (nx (μ 51 2))
      obtain ⟨k2, hk2, d2⟩ := dr_n (nx (nx (μ 51 2)))
      rw [dr_C, dr_M, vC_s, vC_s, vL_e, vL_e, dr_C, vC_s, vL_e, up2_s, upd_s, ez, d1, d2]
      have r1 : nI k1 - nI k1 / 12 * 12 = nI (k1 % 12) := pk_rem (d := 12) (by omega) (by decide) (by decide)
      have r2 : nI k2 - nI k2 / 8 * 8 = nI (k2 % 8) := pk_rem (d := 8) (by omega) (by decide) (by decide)
      rw [r1, r2, pn_M (by rw [setr_same]; exact Inv_z h.2.1), vC_s, setr_same, upd_n (show 0 ≠ 2 by decide), e, nI_clamp (by omega), vI_at rfl (by omega) (by decide), vW_e, up2_setr, dr_M, vC_s, vL_e, setr_same, setr_setr, upd_n (show 2 ≠ 6 + b % 6 by omega), upd_s, d2, r2]
      have hZ1 := Rh_z (v := nx (μ 51 2)) h.1
      have hZ2 := Rh_z (v := nx (nx (μ 51 2))) hZ1
      have e0 : upd (upd (μ 51) 2 (nx (μ 51 2))) 2 (nx (nx (μ 51 2))) 0 = nI b := by rw [upd_n (by decide), upd_n (by decide)]; exact e
      have p0 := pi_C hZ2 hb e0 (k := 0) (by decide)
      have p0' : f_X1_placeIn 1 0 (up2 (up2 σ 1 4 (nx (μ 51 2))) 1 4 (nx (nx (μ 51 2)))) = some (nI (b % 6), up2 (up2 σ 1 4 (nx (μ 51 2))) 1 4 (nx (nx (μ 51 2)))) := by
        rw [Nat.add_zero, Nat.min_eq_left (by omega)] at p0
        exact p0
      rw [p0', vC_s, vI_at rfl (by omega) (by decide), vW_e]
      have hL := Rh_list (v := nI (k1 % 12)) hZ2 (show b % 6 < 6 by omega)
      rw [upd_upd] at hL
      have eN : upd (upd (upd (μ 51) 2 (nx (μ 51 2))) (6 + b % 6) (nI (k1 % 12))) 2 (nx (nx (μ 51 2))) = upd (upd (μ 51) 2 (nx (nx (μ 51 2)))) (6 + b % 6) (nI (k1 % 12)) := by
        funext j
        simp only [upd]
        by_cases j2 : j = 2
        · rw [if_pos j2, if_neg (by omega), if_pos j2]
        · rw [if_neg j2]
          by_cases j6 : j = 6 + b % 6
          · rw [if_pos j6, if_pos j6]
          · rw [if_neg j6, if_neg j6, if_neg j2, if_neg j2]
      rw [eN]
      generalize hN1 : upd (upd (μ 51) 2 (nx (nx (μ 51 2)))) (6 + b % 6) (nI (k1 % 12)) = N1 at hL ⊢
      have hI1 : Inv N1 := by rw [← hN1]; exact Inv_list (Inv_z h.2.1) (by omega)
      have hz1 : Z70 N1 := by rw [← hN1]; exact Z_upd (Z_upd h.2.2.1.1 (by decide)) (by omega)
      generalize hσ1 : up2 (up2 (up2 σ 1 4 (nx (μ 51 2))) 1 4 (nx (nx (μ 51 2)))) (1 + 1) (b % 6) (nI (k1 % 12)) = σ1 at hL ⊢
      have hR1 : Rel σ1 (setr μ 51 N1) := by
        refine h.house (fun i a c => ?_) (fun i a c => setr_ne a) (by rw [setr_same]; exact hL) (by rw [setr_same]; exact hI1) (by rw [setr_same]; exact hz1) (by rw [setr_ne (by decide)]; exact h.2.2.1.2.2)
        rw [← hσ1, up2_n (by omega), up2_n (by omega), up2_n (by omega)]
      have next : ∀ σ2 μ2, Rel σ2 μ2 → ∃ (r : Int32) (σ' μ' : Mem), f_X4_evening_J113 (f_X4_evening_L38 n) (nI x) (nI k) σ2 = some (r, σ') ∧ f_X5_evening_J97 (f_X5_evening_L39 n) (nI x) (nI k) μ2 = some (r, μ') ∧ Rel σ' μ' := by
        intro σ2 μ2 h2
        unfold f_X4_evening_J113 f_X5_evening_J97
        obtain ⟨σ3, μ3, a1, a2, a3⟩ := ev_next h2
        rw [a1, a2, vC_s, vC_s, vL_e, vL_e, show nI k + 1 = nI (k + 1) from nI_1 k]
        exact ih (k + 1) σ3 μ3 q (by omega) a3
      have e51 : setr μ 51 N1 51 = N1 := setr_same
      by_cases c : ¬ nI (k2 % 8) < 0 ∧ ¬ (setr μ 51 N1 51 1 - 1) < nI (k2 % 8)
      · rw [isCurtain_C1 hR1.1.1.2.2.2.2.2 c, isCurtain_M1 c, vC_s, vC_s, if_neg n10, if_neg n10]
        obtain ⟨i, hi, ei⟩ := cur_of hR1.2.1 c
        have h8' := hR1.2.1.hung.2
        rw [ei, vI_at rfl (by omega) (by decide), vW_e, cAt2, vC_s, vI_at rfl (by omega) (by decide), vI_at rfl (by omega) (by decide), vW_e, hR1.1.2.2.2 i 2 hi (by decide)]
        have ev : cur (setr μ 51 N1 51) i 2 = setr μ 51 N1 51 (22 + 6 * i + 2) := rfl
        rw [ev]
        refine next _ _ (hR1.one (by omega) (by omega) (Rh_cur hR1.1 (by omega) (by decide)) (Inv_cur hR1.2.1 (by omega) (by decide) (fun z => by omega) (fun _ => ?_)))
        exact xor_rg (hR1.2.1.2.2.2.2.2.2 i hi).2 (by omega)
      · rw [isCurtain_C0 hR1.1.1.2.2.2.2.2 c, isCurtain_M0 c, vC_s, vC_s, if_pos rfl, if_pos rfl]
        exact next _ _ hR1
    · rw [if_pos (nI_le q (by omega)), if_pos (nI_le q (by omega)), vI_at (x := 4) (j := 4) rfl (by decide) (by decide), h.1.1.2.1]
      exact ⟨_, _, _, rfl, rfl, h⟩
theorem sim23 : Sim23 Rel := by
  intro σ μ x1 h
  unfold f_X4_evening f_X5_evening
  by_cases c : ¬ x1 < 1 ∧ ¬ 20 < x1
  · rw [wC1 c, wM1 c, vC_s, vC_s, if_neg n10, if_neg n10, vI_at (x := 0) (j := 0) rfl (by decide) (by decide), h.1.1.2.2.2.1]
    have c0 : ¬ x1 < 0 := fun q => c.1 (Int32.lt_trans q (by decide))
    obtain ⟨k, hk, rfl⟩ := rg_of (m := 20) (by decide) rfl ⟨c0, c.2⟩
    obtain ⟨b, hb, e⟩ := h.2.1.beat
    rw [e]
    have e1 : nI b ≤ 99999 - nI k ↔ nI b + nI k ≤ 99999 := by
      rw [show (99999 : Int32) = nI 99999 from rfl, pk_sub (by omega), nI_add, nI_leI (by omega) (by omega), nI_leI (by omega) (by omega)]
      omega
    by_cases d : nI b + nI k ≤ 99999
    · rw [if_pos d, if_pos (e1.mpr d), vL_e, vL_e]
      exact ev_L hk FU 0 σ μ (Nat.zero_le _) (FU_gt (by omega)) h
    · rw [if_neg d, if_neg (fun q => d (e1.mp q))]
      exact fin4 h
  · rw [wC0 c, wM0 c, vC_s, vC_s, if_pos rfl, if_pos rfl]
    exact fin0 h
/-! 24 odds -/
def gd : Nat → Int32 → Int32 → Option Int32
  | 0 => fun _ _ => none
  | n + 1 => fun y0 y1 => if y1 ≤ 1 then some 1 else vN y1 (if (12 - 12 / y1 * y1) = 0 then vN y1 (if (y0 - y0 / y1 * y1) = 0 then some y1 else gd n y0 (y1 + (-1))) else gd n y0 (y1 + (-1)))
theorem gd_s {n : Nat} {y0 y1 : Int32} : gd (n + 1) y0 y1 = if y1 ≤ 1 then some 1 else vN y1 (if (12 - 12 / y1 * y1) = 0 then vN y1 (if (y0 - y0 / y1 * y1) = 0 then some y1 else gd n y0 (y1 + (-1))) else gd n y0 (y1 + (-1))) := rfl
theorem gd_L {σ : Mem} {y0 v : Int32} : ∀ (n : Nat) (y1 : Int32), gd n y0 y1 = some v → ∀ m, n ≤ m → f_X4_commonDivisorWithScenes_L3 m y0 y1 σ = some (v, σ) := by
  intro n
  induction n with
  | zero => intro y1 h; cases h
  | succ n ih =>
    intro y1 h m hm
    obtain ⟨m, rfl⟩ : ∃ t, m = t + 1 := ⟨m - 1, by omega⟩
    rw [f_X4_commonDivisorWithScenes_L3_s]
    rw [gd_s] at h
    unfold f_X4_commonDivisorWithScenes_J23
    rw [vL_e]
    unfold vN at h ⊢
    by_cases c : y1 ≤ 1
    · rw [if_pos c] at h ⊢; cases h; rfl
    · rw [if_neg c] at h ⊢
      by_cases d : y1 = 0
      · rw [if_pos d] at h; cases h
      · rw [if_neg d] at h ⊢
        by_cases e : (12 - 12 / y1 * y1) = 0
        · rw [if_pos e, if_neg d] at h ⊢
          by_cases f : (y0 - y0 / y1 * y1) = 0
          · rw [if_pos f] at h ⊢; cases h; rfl
          · rw [if_neg f] at h ⊢; exact ih _ h m (by omega)
        · rw [if_neg e] at h ⊢; exact ih _ h m (by omega)
theorem gd_tab : ∀ w, w < 13 → gd 13 (nI w) 12 = some (nI (Nat.gcd 12 w)) := by decide +kernel
def eu : Nat → Int32 → Int32 → Option Int32
  | 0 => fun _ _ => none
  | n + 1 => fun y5 y6 => if y6 = 0 then some y5 else eu n y6 (y5 - y5 / y6 * y6)
theorem eu_L {μ : Mem} {y2 y3 y4 v : Int32} : ∀ (n : Nat) (y5 y6 : Int32), eu n y5 y6 = some v → ∀ m, n ≤ m → f_X5_odds_L54 m y2 y3 y4 y5 y6 μ = f_X5_odds_L83 FU y2 y3 y4 v 1 0 μ := by
  intro n
  induction n with
  | zero => intro y5 y6 h; cases h
  | succ n ih =>
    intro y5 y6 h m hm
    obtain ⟨m, rfl⟩ : ∃ t, m = t + 1 := ⟨m - 1, by omega⟩
    rw [f_X5_odds_L54_s]
    have h' : (if y6 = 0 then some y5 else eu n y6 (y5 - y5 / y6 * y6)) = some v := h
    unfold vN
    by_cases c : y6 = 0
    · rw [if_pos c] at h'; cases h'
      rw [if_pos c]
      rfl
    · rw [if_neg c] at h'
      rw [if_neg c, if_neg c, vL_e, vL_e, vL_e]
      exact ih _ _ h' m (by omega)
theorem eu_tab : ∀ w, w < 13 → eu 13 12 (nI w) = some (nI (Nat.gcd 12 w)) := by decide +kernel
theorem pw_L {σ μ : Mem} {x w g : Nat} {x3 : Int32} (hx : x ≤ 17) (hg0 : ¬ nI g = 0) : ∀ (n k : Nat) (z : Int64), k ≤ x → x - k < n → ∃ r, f_X4_odds_L76 n (nI x) ((if x3 = 0 then nI w else 12) / nI g) z (nI k) σ = some (r, σ) ∧ f_X5_odds_L83 n (nI x) x3 (nI w) (nI g) z (nI k) μ = some (r, μ) := by
  intro n
  induction n with
  | zero => intro k z _ q; omega
  | succ n ih =>
    intro k z hk hn
    rw [f_X4_odds_L76_s, f_X5_odds_L83_s]
    rcases Nat.lt_or_ge k x with q | q
    · rw [if_neg (nle_of q (by omega)), if_neg (nle_of q (by omega))]
      unfold f_X5_odds_J102 vN
      rw [if_neg hg0, if_neg hg0]
      simp only [vL_e, show nI k + 1 = nI (k + 1) from nI_1 k]
      by_cases c : x3 = 0
      · rw [if_pos c, if_pos c]
        have := ih (k + 1) (z * (nI w / nI g).toInt64) q (by omega)
        rw [if_pos c] at this
        exact this
      · rw [if_neg c, if_neg c]
        have := ih (k + 1) (z * (12 / nI g).toInt64) q (by omega)
        rw [if_neg c] at this
        exact this
    · rw [if_pos (nI_le q (by omega)), if_pos (nI_le q (by omega))]
      exact ⟨_, rfl, rfl⟩
set_option maxRecDepth 100000 in
theorem bitc_tab : ∀ k, k < 4096 → bitc (nI k) = nI (bitc (nI k)).toNatClampNeg ∧ (bitc (nI k)).toNatClampNeg < 13 := by decide +kernel
theorem bitc_rg {v : Int32} (h : rg v 4095) : ∃ w, w < 13 ∧ bitc v = nI w := by
  obtain ⟨k, hk, rfl⟩ := h
  have := bitc_tab k (by omega)
  exact ⟨_, this.2, this.1⟩
theorem gcd_0 {w : Nat} : ¬ nI (Nat.gcd 12 w) = 0 := by
  have h1 : 0 < Nat.gcd 12 w := Nat.gcd_pos_of_pos_left _ (by decide)
  have h2 : Nat.gcd 12 w ≤ 12 := Nat.gcd_le_left _ (by decide)
  exact nI_ne0 h1 (by omega)
theorem sim24 : Sim24 Rel := by
  intro σ μ x1 x2 x3 h
  have f0 : ∃ (r : Int64) (σ' μ' : Mem), vC (f_X4_find 0 σ) (fun r τ => some (r.toInt64, τ)) = some (r, σ') ∧ vC (f_X5_finding (-1000001) μ) (fun r τ => some (r.toInt64, τ)) = some (r, μ') ∧ Rel σ' μ' := ⟨_, _, _, by rw [fd0, vC_s], by rw [gd0, vC_s], h.find (by decide)⟩
  unfold f_X4_odds f_X5_odds f_X4_odds_J27 f_X5_odds_J27
  by_cases c : ¬ x1 < 0 ∧ ¬ (μ 51 1 - 1) < x1
  · rw [isCurtain_C1 h.1.1.2.2.2.2.2 c, isCurtain_M1 c, vC_s, vC_s, if_neg n10, if_neg n10]
    by_cases d : ¬ x2 < 0 ∧ ¬ 17 < x2
    · rw [wC1 d, wM1 d, vC_s, vC_s, if_neg n10, if_neg n10]
      by_cases e : ¬ x3 < 0 ∧ ¬ 1 < x3
      · rw [wC1 e, wM1 e, vC_s, vC_s, if_neg n10, if_neg n10]
        obtain ⟨i, hi, rfl⟩ := cur_of h.2.1 c
        have h8 := h.2.1.hung.2
        obtain ⟨x, hx, rfl⟩ := rg_of (m := 17) (by decide) rfl d
        have hl := (h.2.1.2.2.2.2.2.2 i hi).2
        obtain ⟨w, hw, ew⟩ := bitc_rg hl
        rw [vI_at rfl (by omega) (by decide), h.1.2.2.2 i 2 hi (by decide), bitc_C, vC_s, vL_e, cIs2 (by omega), vC_s, bitc_M hl, vC_s, ew]
        simp only [vL_e]
        rw [eu_L 13 12 (nI w) (eu_tab w hw) FU (by decide)]
        have J62 : ∀ s0 : Int32, f_X4_odds_J62 (nI x) (nI w) s0 σ = f_X4_odds_L76 FU (nI x) (s0 / nI (Nat.gcd 12 w)) 1 0 σ := by
          intro s0
          unfold f_X4_odds_J62 f_X4_commonDivisorWithScenes vN
          rw [vL_e, gd_L 13 12 (gd_tab w hw) FU (by decide), vC_s, if_neg gcd_0, vL_e, vL_e, vL_e]
        rw [J62, J62]
        obtain ⟨r, g1, g2⟩ := pw_L (σ := σ) (μ := μ) (x3 := x3) (w := w) hx gcd_0 FU 0 1 (Nat.zero_le _) (FU_gt (by omega))
        by_cases z : x3 = 0
        · rw [if_pos z] at g1 ⊢
          exact ⟨r, σ, μ, g1, g2, h⟩
        · rw [if_neg z] at g1 ⊢
          exact ⟨r, σ, μ, g1, g2, h⟩
      · rw [wC0 e, wM0 e, vC_s, vC_s, if_pos rfl, if_pos rfl]
        exact f0
    · rw [wC0 d, wM0 d, vC_s, vC_s, if_pos rfl, if_pos rfl]
      exact f0
  · rw [isCurtain_C0 h.1.1.2.2.2.2.2 c, isCurtain_M0 c, vC_s, vC_s, if_pos rfl, if_pos rfl]
    exact f0
