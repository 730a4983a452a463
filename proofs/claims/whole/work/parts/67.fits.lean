/-! 21 fits, 22 kinds -/
abbrev okT (T : Nat → Int32) (M c : Nat → Int32) (k : Nat) : Prop := T k = -1 ∨ T k = prb M c k 3
section PT
variable {σ : Mem} {M c T : Nat → Int32} {b n : Nat}
theorem pt_step (hR : Rh 25 σ M) (hI : Inv M) (hc : rg (c 0) 6) (hb : b ≠ 37) (hb1 : b + 1 ≠ 37) (hn : n ≤ 40) (hl : σ b 1 = nI n) (hT : ∀ k, k < n → σ (b + 1) k = T k) {m k : Nat} {r : Nat → Int32} (hk : k < n) (hr : ∀ f, f < 6 → r f = prb M c k f) : f_X4_isProbeAsTold_L2 (m + 1) b (nI k) (setr σ 37 r) = if okT T M c k then f_X4_isProbeAsTold_L2 m b (nI (k + 1)) (setr σ 37 (pla r (scK M k) (M 3))) else some (0, setr σ 37 r) := by
  obtain ⟨bb, hbb, e⟩ := hI.beat
  have hRk : ∀ r, Rh 25 (setr σ 37 r) M := fun r => Rh_fr hR hI (fun i h1 h2 => setr_ne (by omega))
  have es : M (6 + min (bb + k) 99999 % 6) = scK M k := by unfold scK; rw [e, nI_clamp (by omega)]
  have hk0 : rg (setr σ 37 r 37 0) 6 := by rw [setr_same, hr 0 (by decide), prb_k (Or.inl rfl)]; exact hc
  rw [f_X4_isProbeAsTold_L2_s, setr_ne hb, hl, if_neg (nle_of hk (by omega)), vI_at rfl (by omega) (by decide), vI_at rfl (by omega) (by decide), setr_ne hb1, hT k hk, setr_same, hr 3 (by decide)]
  unfold f_X4_isProbeAsTold_J38
  rw [si_C (hRk r) hbb e (by omega), vC_s, es, (hRk r).1.1, pla_C hk0, vC_s, vL_e, setr_same, setr_setr, show nI k + 1 = nI (k + 1) from nI_1 k]
  by_cases q1 : T k = -1
  · rw [if_pos q1, if_pos (show okT T M c k from Or.inl q1)]
  · rw [if_neg q1]
    by_cases q2 : T k = prb M c k 3
    · rw [if_pos q2, if_pos (show okT T M c k from Or.inr q2)]
    · rw [if_neg q2, if_neg (show ¬ okT T M c k from fun z => z.elim q1 q2)]
theorem pt1 (hR : Rh 25 σ M) (hI : Inv M) (hc : rg (c 0) 6) (hb : b ≠ 37) (hb1 : b + 1 ≠ 37) (hn : n ≤ 40) (hl : σ b 1 = nI n) (hT : ∀ k, k < n → σ (b + 1) k = T k) (ok : ∀ k, k < n → okT T M c k) : ∀ m k r, k ≤ n → n - k < m → (∀ f, f < 6 → r f = prb M c k f) → ∃ r', f_X4_isProbeAsTold_L2 m b (nI k) (setr σ 37 r) = some (1, setr σ 37 r') := by
  intro m
  induction m with
  | zero => intro k r _ h; omega
  | succ m ih =>
    intro k r hk hm hr
    rcases Nat.lt_or_ge k n with q | q
    · rw [pt_step hR hI hc hb hb1 hn hl hT q hr, if_pos (ok k q)]
      exact ih (k + 1) _ q (by omega) (cg_pla hr)
    · rw [f_X4_isProbeAsTold_L2_s, setr_ne hb, hl, if_pos (nI_le q (by omega))]
      exact ⟨r, rfl⟩
theorem pt0 (hR : Rh 25 σ M) (hI : Inv M) (hc : rg (c 0) 6) (hb : b ≠ 37) (hb1 : b + 1 ≠ 37) (hn : n ≤ 40) (hl : σ b 1 = nI n) (hT : ∀ k, k < n → σ (b + 1) k = T k) {K : Nat} (hK : K < n) (nok : ¬ okT T M c K) (ok : ∀ k, k < K → okT T M c k) : ∀ m k r, k ≤ K → K - k < m → (∀ f, f < 6 → r f = prb M c k f) → ∃ r', f_X4_isProbeAsTold_L2 m b (nI k) (setr σ 37 r) = some (0, setr σ 37 r') := by
  intro m
  induction m with
  | zero => intro k r _ h; omega
  | succ m ih =>
    intro k r hk hm hr
    rw [pt_step hR hI hc hb hb1 hn hl hT (by omega) hr]
    by_cases e : k = K
    · subst e
      rw [if_neg nok]
      exact ⟨r, rfl⟩
    · rw [if_pos (ok k (by omega))]
      exact ih (k + 1) _ (by omega) (by omega) (cg_pla hr)
end PT
section SO
variable {μ : Mem} {i s n : Nat}
abbrev shT (μ : Mem) (s : Nat) : Nat → Int32 := fun k => μ 60 (40 * s + k)
theorem so78 {v : Int32} {M : Nat → Int32} (hv : v = 0 ∨ v = 1) (h1 : Z70 (μ 51)) (hM : Z70 M) : f_X5_isSo_J78 v (asN μ M) = some (v, setr μ 53 (μ 51)) := by
  unfold f_X5_isSo_J78
  rw [as_bk h1 hM, vC_s]
  unfold vB
  rw [if_pos hv]
theorem so0 (hI : Inv (μ 51)) (h1 : Z70 (μ 51)) (hs : s < 4) {m k : Nat} : f_X5_isSo_L16 (m + 1) (nI s) (nI i) 0 (nI k) (asN μ (bgN (μ 51) k)) = some (0, setr μ 53 (μ 51)) := by
  rw [f_X5_isSo_L16_s, vI_at rfl hs (by decide), if_pos rfl, so78 (Or.inl rfl) h1 (Z_bg h1 hI k)]
  split <;> rfl
theorem so_step (hI : Inv (μ 51)) (h1 : Z70 (μ 51)) (hs : s < 4) (hi : i < hg (μ 51)) (hn : n ≤ 40) (hl : μ 59 s = nI n) {m k : Nat} (hk : k < n) : f_X5_isSo_L16 (m + 2) (nI s) (nI i) 1 (nI k) (asN μ (bgN (μ 51) k)) = if okT (shT μ s) (μ 51) (cur (μ 51) i) k then f_X5_isSo_L16 (m + 1) (nI s) (nI i) 1 (nI (k + 1)) (asN μ (bgN (μ 51) (k + 1))) else some (0, setr μ 53 (μ 51)) := by
  have h8 := hI.hung.2
  rw [f_X5_isSo_L16_s, vI_at rfl hs (by decide), as_n (show 59 ≠ 51 by decide) (by decide), hl, if_neg (nle_of hk (by omega)), if_neg n10, ix160, vI_at rfl (by omega) (by decide), vL_e, as_n (show 60 ≠ 51 by decide) (by decide), cIs3 (by omega), vC_s, as_1, bg_cur hI hi k (by omega) 3 (by decide)]
  unfold f_X5_isSo_J62 f_X5_isSo_J67
  rw [as_be (bg_Inv hI k)]
  simp only [vL_e, vC_s, show nI k + 1 = nI (k + 1) from nI_1 k]
  have e : beN (bgN (μ 51) k) = bgN (μ 51) (k + 1) := rfl
  rw [e, so0 hI h1 hs]
  by_cases q1 : μ 60 (40 * s + k) = -1
  · rw [if_pos q1, if_pos (show okT (shT μ s) (μ 51) (cur (μ 51) i) k from Or.inl q1)]
  · rw [if_neg q1]
    by_cases q2 : μ 60 (40 * s + k) = prb (μ 51) (cur (μ 51) i) k 3
    · rw [if_pos q2, if_pos (show okT (shT μ s) (μ 51) (cur (μ 51) i) k from Or.inr q2)]
    · rw [if_neg q2, if_neg (show ¬ okT (shT μ s) (μ 51) (cur (μ 51) i) k from fun z => z.elim q1 q2)]
theorem so_1 (hI : Inv (μ 51)) (h1 : Z70 (μ 51)) (h3 : Z70 (μ 53)) (hs : s < 4) (hi : i < hg (μ 51)) (hn : n ≤ 40) (hl : μ 59 s = nI n) (ok : ∀ k, k < n → okT (shT μ s) (μ 51) (cur (μ 51) i) k) : f_X5_isSo (nI s) (nI i) μ = some (1, setr μ 53 (μ 51)) := by
  unfold f_X5_isSo
  rw [as_cr h1 h3, vC_s, vL_e, vL_e]
  have key : ∀ m k, k ≤ n → n - k + 1 < m → f_X5_isSo_L16 m (nI s) (nI i) 1 (nI k) (asN μ (bgN (μ 51) k)) = some (1, setr μ 53 (μ 51)) := by
    intro m
    induction m with
    | zero => intro k _ h; omega
    | succ m ih =>
      intro k hk hm
      rcases Nat.lt_or_ge k n with q | q
      · obtain ⟨m, rfl⟩ : ∃ t, m = t + 1 := ⟨m - 1, by omega⟩
        rw [so_step hI h1 hs hi hn hl q, if_pos (ok k q)]
        exact ih (k + 1) q (by omega)
      · rw [f_X5_isSo_L16_s, vI_at rfl hs (by decide), as_n (show 59 ≠ 51 by decide) (by decide), hl, if_pos (nI_le q (by omega)), so78 (Or.inr rfl) h1 (Z_bg h1 hI k)]
  exact key FU 0 (Nat.zero_le _) (FU_gt (by omega))
theorem so_0 (hI : Inv (μ 51)) (h1 : Z70 (μ 51)) (h3 : Z70 (μ 53)) (hs : s < 4) (hi : i < hg (μ 51)) (hn : n ≤ 40) (hl : μ 59 s = nI n) {K : Nat} (hK : K < n) (nok : ¬ okT (shT μ s) (μ 51) (cur (μ 51) i) K) (ok : ∀ k, k < K → okT (shT μ s) (μ 51) (cur (μ 51) i) k) : f_X5_isSo (nI s) (nI i) μ = some (0, setr μ 53 (μ 51)) := by
  unfold f_X5_isSo
  rw [as_cr h1 h3, vC_s, vL_e, vL_e]
  have key : ∀ m k, k ≤ K → K - k + 1 < m → f_X5_isSo_L16 m (nI s) (nI i) 1 (nI k) (asN μ (bgN (μ 51) k)) = some (0, setr μ 53 (μ 51)) := by
    intro m
    induction m with
    | zero => intro k _ h; omega
    | succ m ih =>
      intro k hk hm
      obtain ⟨m, rfl⟩ : ∃ t, m = t + 1 := ⟨m - 1, by omega⟩
      rw [so_step hI h1 hs hi hn hl (by omega)]
      by_cases e : k = K
      · subst e
        rw [if_neg nok]
      · rw [if_pos (ok k (by omega))]
        exact ih (k + 1) (by omega) (by omega)
  exact key FU 0 (Nat.zero_le _) (FU_gt (by omega))
end SO
/-- both sides answer alike whether the sheet tells of this row and curtain -/
theorem told_alike {σ μ μ0 : Mem} {s i : Nat} {r c M : Nat → Int32} (h : Rel σ μ0) (hs : s < 4) (hR : Rh 25 σ M) (hIM : Inv M) (hc : rg (c 0) 6) (hr : ∀ f, f < 6 → r f = c f) (hT : ∀ j, j ≠ 51 → j ≠ 53 → μ j = μ0 j) (hI : Inv (μ 51)) (h1 : Z70 (μ 51)) (h3 : Z70 (μ 53)) (hi : i < hg (μ 51)) (eP : ∀ k, prb M c k = prb (μ 51) (cur (μ 51) i) k) : ∃ r' v, (v = 0 ∨ v = 1) ∧ f_X4_isProbeAsTold (40 + 1 + 2 * s) (setr σ 37 r) = some (v, setr σ 37 r') ∧ f_X5_isSo (nI s) (nI i) μ = some (v, setr μ 53 (μ 51)) := by
  obtain ⟨c1, c2, n, c3, c4, c5, c6⟩ := h.2.2.2.2.2.2 s hs
  have hl : μ 59 s = nI n := by rw [hT 59 (by decide) (by decide)]; exact c5
  have hT60 : ∀ k, k < n → σ (40 + 1 + 2 * s + 1) k = shT μ s k := fun k hk => by
    show _ = μ 60 _
    rw [hT 60 (by decide) (by decide)]; exact c6 k hk
  unfold f_X4_isProbeAsTold
  rw [vL_e]
  have eo : ∀ k, okT (shT μ s) M c k ↔ okT (shT μ s) (μ 51) (cur (μ 51) i) k := fun k => by
    unfold okT
    rw [eP k]
  rcases least (fun k => ¬ okT (shT μ s) M c k) n with ⟨K, a1, a2, a3⟩ | a0
  · obtain ⟨r', g⟩ := pt0 hR hIM hc (show 40 + 1 + 2 * s ≠ 37 by omega) (by omega) c3 c4 hT60 a1 a2 (fun k hk => Classical.not_not.mp (a3 k hk)) FU 0 r (Nat.zero_le _) (FU_gt (by omega)) hr
    exact ⟨r', 0, Or.inl rfl, g, so_0 hI h1 h3 hs hi c3 hl a1 (fun q => a2 ((eo K).mpr q)) (fun k hk => (eo k).mp (Classical.not_not.mp (a3 k hk)))⟩
  · obtain ⟨r', g⟩ := pt1 hR hIM hc (show 40 + 1 + 2 * s ≠ 37 by omega) (by omega) c3 c4 hT60 (fun k hk => Classical.not_not.mp (a0 k hk)) FU 0 r (Nat.zero_le _) (FU_gt (by omega)) hr
    exact ⟨r', 1, Or.inr rfl, g, so_1 hI h1 h3 hs hi c3 hl (fun k hk => (eo k).mp (Classical.not_not.mp (a0 k hk)))⟩
theorem ft_L {μ0 : Mem} {s i p : Nat} (hs : s < 4) (hi : i < hg (μ0 51)) (hp : p < 6) (hI : Inv (μ0 51)) (hZ : Z70 (μ0 51)) : ∀ (n k : Nat) (σ μ : Mem) (y : Int32), k ≤ 12 → 12 - k < n → Rel σ μ0 → Try μ0 μ (6 + p) → (∃ v, Rh 25 σ (upd (μ0 51) (6 + p) v)) → ∃ (r : Int32) (σ' μ' : Mem), f_X4_fits_L45 n (nI s) (nI i) (nI p) y (nI k) σ = some (r, σ') ∧ f_X5_fitting_L14 n (nI s) (nI i) (nI (6 + p)) 12 (μ0 51 (6 + p)) y (nI k) μ = some (r, μ') ∧ Rel σ' μ' := by
  intro n
  have h8 := hI.hung.2
  induction n with
  | zero => intro k σ μ y _ q; omega
  | succ n ih =>
    intro k σ μ y hk hn hR hT hv
    rw [f_X4_fits_L45_s, f_X5_fitting_L14_s, vI_at (j := 6 + p) rfl (by omega) (by decide), vI_at (j := 6 + p) rfl (by omega) (by decide), vW_e, vW_e, show (12 : Int32) = nI 12 from rfl]
    rcases Nat.lt_or_ge k 12 with q | q
    · rw [if_neg (nle_of q (by decide)), if_neg (nle_of q (by decide))]
      obtain ⟨e1, e2⟩ := hT.set (v := nI k)
      have hIk : Inv (upd (μ0 51) (6 + p) (nI k)) := Inv_list hI hp
      have hZk : Z70 (upd (μ0 51) (6 + p) (nI k)) := Z_upd hZ (by omega)
      obtain ⟨v, hv⟩ := hv
      have hv2 := Rh_list (v := nI k) hv hp
      rw [upd_upd] at hv2
      have fr1 : frH 25 σ (up2 σ (25 + 1) p (nI k)) := fun j hj => up2_n (by omega)
      have hR1 : Rel (up2 σ (25 + 1) p (nI k)) μ0 := hR.trial fr1
      rw [vI_at rfl hp (by decide), vW_e, vI_at rfl (by omega) (by decide), tk_C (by omega), vC_s, vI_at rfl hs (by decide), e1]
      obtain ⟨r', w, hw, g1, g2⟩ := told_alike (μ := setr μ 51 (upd (μ0 51) (6 + p) (nI k))) (i := i) (r := tk6 (up2 σ (25 + 1) p (nI k) 37) (up2 σ (25 + 1) p (nI k) (1 + 3 + 1 + i))) (c := cur (μ0 51) i) hR1 hs hv2 hIk (hI.2.2.2.2.2.2 i hi).1 (fun f hf => by rw [tk6_e f hf]; exact hR1.1.2.2.2 i f hi hf) e2.1 (by rw [setr_same]; exact hIk) (by rw [setr_same]; exact hZk) e2.2.2 (by rw [setr_same, hg_upd (by omega)]; exact hi) (fun t => by rw [setr_same, cur_lo (by omega)])
      rw [g1, g2, vC_s, vC_s]
      have hT' := e2.asi (by rw [setr_same]; exact hZk)
      have hv3 : ∀ r, ∃ v, Rh 25 (setr (up2 σ (25 + 1) p (nI k)) 37 r) (upd (μ0 51) (6 + p) v) := fun r => ⟨_, Rh_fr hv2 hIk (fun j a b => setr_ne (by omega))⟩
      unfold f_X4_fits_J102 f_X5_fitting_J48
      simp only [vL_e, show nI k + 1 = nI (k + 1) from nI_1 k]
      rcases hw with rfl | rfl
      · rw [if_pos rfl, if_pos rfl, or_0]
        exact ih (k + 1) _ _ _ q (by omega) hR1.probe hT' (hv3 _)
      · rw [if_neg n10, if_neg n10]
        exact ih (k + 1) _ _ _ q (by omega) hR1.probe hT' (hv3 _)
    · rw [if_pos (nI_le q (by omega)), if_pos (nI_le q (by omega))]
      exact ⟨_, _, _, rfl, rfl, hT.fin hR⟩
theorem kd_L {μ0 : Mem} {s i : Nat} (hs : s < 4) (hi : i < hg (μ0 51)) (hI : Inv (μ0 51)) (hZ : Z70 (μ0 51)) : ∀ (n k : Nat) (σ μ : Mem) (y : Int32), k ≤ 7 → 7 - k < n → Rel σ μ0 → Try μ0 μ (22 + 6 * i + 0) → Rh 25 σ (μ0 51) → ∃ (r : Int32) (σ' μ' : Mem), f_X4_kinds_L35 n (nI s) (nI i) y (nI k) σ = some (r, σ') ∧ f_X5_fitting_L14 n (nI s) (nI i) (nI (22 + 6 * i + 0)) 7 (μ0 51 (22 + 6 * i + 0)) y (nI k) μ = some (r, μ') ∧ Rel σ' μ' := by
  intro n
  have h8 := hI.hung.2
  induction n with
  | zero => intro k σ μ y _ q; omega
  | succ n ih =>
    intro k σ μ y hk hn hR hT hv
    rw [f_X4_kinds_L35_s, f_X5_fitting_L14_s, vI_at (j := 22 + 6 * i + 0) rfl (by omega) (by decide), vI_at (j := 22 + 6 * i + 0) rfl (by omega) (by decide), vW_e, vW_e, show (7 : Int32) = nI 7 from rfl]
    rcases Nat.lt_or_ge k 7 with q | q
    · rw [if_neg (nle_of q (by decide)), if_neg (nle_of q (by decide))]
      obtain ⟨e1, e2⟩ := hT.set (v := nI k)
      have hIk : Inv (upd (μ0 51) (22 + 6 * i + 0) (nI k)) := Inv_cur hI (by omega) (by decide) (fun _ => ⟨k, by omega, rfl⟩) (fun z => by omega)
      have hZk : Z70 (upd (μ0 51) (22 + 6 * i + 0) (nI k)) := Z_upd hZ (by omega)
      rw [vI_at rfl (by omega) (by decide), tk_C (by omega), vC_s, vW_e, up2_setr, vI_at rfl hs (by decide), e1]
      obtain ⟨r', w, hw, g1, g2⟩ := told_alike (μ := setr μ 51 (upd (μ0 51) (22 + 6 * i + 0) (nI k))) (i := i) (r := upd (tk6 (σ 37) (σ (1 + 3 + 1 + i))) 0 (nI k)) (c := upd (cur (μ0 51) i) 0 (nI k)) hR hs hv hI (by rw [upd_s]; exact ⟨k, by omega, rfl⟩) (fun f hf => by
        by_cases w : f = 0
        · subst w; rw [upd_s, upd_s]
        · rw [upd_n w, upd_n w, tk6_e f hf]; exact hR.1.2.2.2 i f hi hf) e2.1 (by rw [setr_same]; exact hIk) (by rw [setr_same]; exact hZk) e2.2.2 (by rw [setr_same, hg_upd (by omega)]; exact hi) (fun t => by rw [setr_same, cur_upd, prb_cg (upd_n (by omega)) (upd_n (by omega)) (fun j hj => upd_n (by omega))])
      rw [g1, g2, vC_s, vC_s]
      have hT' := e2.asi (by rw [setr_same]; exact hZk)
      have hv3 : ∀ r, Rh 25 (setr σ 37 r) (μ0 51) := fun r => Rh_fr hv hI (fun j a b => setr_ne (by omega))
      unfold f_X4_kinds_J89 f_X5_fitting_J48
      simp only [vL_e, show nI k + 1 = nI (k + 1) from nI_1 k]
      rcases hw with rfl | rfl
      · rw [if_pos rfl, if_pos rfl, or_0]
        exact ih (k + 1) _ _ _ q (by omega) hR.probe hT' (hv3 _)
      · rw [if_neg n10, if_neg n10]
        exact ih (k + 1) _ _ _ q (by omega) hR.probe hT' (hv3 _)
    · rw [if_pos (nI_le q (by omega)), if_pos (nI_le q (by omega))]
      exact ⟨_, _, _, rfl, rfl, hT.fin hR⟩
/-- what hinders fits and kinds -/
theorem told_find {σ μ : Mem} {x1 x2 : Int32} (h : Rel σ μ) : (∃ s i, s < 4 ∧ i < hg (μ 51) ∧ x1 = nI s ∧ x2 = nI i ∧ f_X4_findingForTold x1 x2 σ = some (-1, σ) ∧ vC (f_X5_isCurtain x2 μ) (fun r22 σ21 => f_X5_lacks x1 r22 σ21) = some (0, μ)) ∨ (f_X4_findingForTold x1 x2 σ = some (0, σ) ∧ vC (f_X5_isCurtain x2 μ) (fun r22 σ21 => f_X5_lacks x1 r22 σ21) = some (-1000001, μ)) ∨ (f_X4_findingForTold x1 x2 σ = some (5, σ) ∧ vC (f_X5_isCurtain x2 μ) (fun r22 σ21 => f_X5_lacks x1 r22 σ21) = some (-1000006, μ)) := by
  unfold f_X4_findingForTold
  by_cases c : ¬ x1 < 0 ∧ ¬ 3 < x1
  · rw [isSheet_C1 c, vC_s, if_neg n10]
    obtain ⟨s, hs, rfl⟩ := rg_of (m := 3) (by decide) rfl c
    obtain ⟨c1, c2, n, c3, c4, c5, c6⟩ := h.2.2.2.2.2.2 s (by omega)
    rw [vI_at rfl (by omega) (by decide), miss_C, vC_s, c1]
    by_cases d : μ 58 s = 0
    · rw [if_pos d, if_neg n10]
      refine Or.inr (Or.inr ⟨rfl, ?_⟩)
      by_cases e : ¬ x2 < 0 ∧ ¬ (μ 51 1 - 1) < x2
      · rw [isCurtain_M1 e, vC_s, lk5 (by omega) d]
      · rw [isCurtain_M0 e, vC_s, lk5 (by omega) d]
    · rw [if_neg d, if_pos rfl]
      by_cases e : ¬ x2 < 0 ∧ ¬ (μ 51 1 - 1) < x2
      · rw [isCurtain_M1 e, isCurtain_C1 h.1.1.2.2.2.2.2 e, vC_s, vC_s, if_neg n10, lk1 (by omega) d]
        obtain ⟨i, hi, rfl⟩ := cur_of h.2.1 e
        exact Or.inl ⟨s, i, by omega, hi, rfl, rfl, rfl, rfl⟩
      · rw [isCurtain_M0 e, isCurtain_C0 h.1.1.2.2.2.2.2 e, vC_s, vC_s, if_pos rfl, lk2 (by omega) d]
        exact Or.inr (Or.inl ⟨rfl, rfl⟩)
  · rw [isSheet_C0 c, vC_s, if_pos rfl]
    refine Or.inr (Or.inl ⟨rfl, ?_⟩)
    by_cases e : ¬ x2 < 0 ∧ ¬ (μ 51 1 - 1) < x2
    · rw [isCurtain_M1 e, vC_s, lk0 c]
    · rw [isCurtain_M0 e, vC_s, lk0 c]
theorem vC_vC {α β γ : Type} {o : Option (α × Mem)} {K : α → Mem → Option (β × Mem)} {L : β → Mem → Option γ} : vC o (fun a τ => vC (K a τ) L) = vC (vC o K) L := by
  cases o with
  | none => rfl
  | some a => rfl
theorem sim21 : Sim21 Rel := by
  intro σ μ x1 x2 h
  unfold f_X4_fits f_X5_fits
  rw [vC_vC]
  rcases told_find (x1 := x1) (x2 := x2) h with ⟨s, i, hs, hi, rfl, rfl, g1, g2⟩ | ⟨g1, g2⟩ | ⟨g1, g2⟩
  · rw [g1, g2, vC_s, vC_s, vL_e, vL_e, if_pos rfl, if_pos rfl]
    obtain ⟨b, hb, e⟩ := h.2.1.beat
    obtain ⟨σ1, a1, a2, a3⟩ := take_C (a := 25) h.1 h.2.1 (by decide)
    have hR1 := h.trial a3
    have p0 := pi_C hR1.1 hb e (k := 0) (by decide)
    rw [Nat.add_zero, Nat.min_eq_left (by omega)] at p0
    have p0' : f_X1_placeIn 1 0 σ1 = some (nI (b % 6), σ1) := p0
    rw [a1, vC_s, p0', vC_s, pn_M h.2.1, vC_s, e, nI_clamp (by omega)]
    unfold f_X5_fitting
    rw [vI_at rfl (by omega) (by decide)]
    simp only [vL_e]
    obtain ⟨r, σ', μ', b1, b2, b3⟩ := ft_L hs hi (show b % 6 < 6 by omega) h.2.1 h.2.2.1.1 FU 0 σ1 μ 0 (by decide) (FU_gt (by decide)) hR1 (Try.ini h.2.2.1.2.2) ⟨_, by rw [upd_self]; exact a2⟩
    have b1' : f_X4_fits_L45 FU (nI s) (nI i) (nI (b % 6)) 0 0 σ1 = some (r, σ') := b1
    have b2' : f_X5_fitting_L14 FU (nI s) (nI i) (nI (6 + b % 6)) 12 (μ 51 (6 + b % 6)) 0 0 μ = some (r, μ') := b2
    exact ⟨r, σ', μ', b1', by rw [b2', vC_s], b3⟩
  · rw [g1, g2, vC_s, vC_s, vL_e, vL_e, if_neg (show ¬ (0 : Int32) = -1 by decide), if_neg (show ¬ (-1000001 : Int32) = 0 by decide)]
    exact fin0 h
  · rw [g1, g2, vC_s, vC_s, vL_e, vL_e, if_neg (show ¬ (5 : Int32) = -1 by decide), if_neg (show ¬ (-1000006 : Int32) = 0 by decide)]
    exact fin5 h
theorem sim22 : Sim22 Rel := by
  intro σ μ x1 x2 h
  unfold f_X4_kinds f_X5_kinds
  rw [vC_vC]
  rcases told_find (x1 := x1) (x2 := x2) h with ⟨s, i, hs, hi, rfl, rfl, g1, g2⟩ | ⟨g1, g2⟩ | ⟨g1, g2⟩
  · rw [g1, g2, vC_s, vC_s, vL_e, vL_e, if_pos rfl, if_pos rfl]
    have h8 := h.2.1.hung.2
    obtain ⟨σ1, a1, a2, a3⟩ := take_C (a := 25) h.1 h.2.1 (by decide)
    rw [a1, vC_s, cAt0, vC_s]
    unfold f_X5_fitting
    rw [vI_at rfl (by omega) (by decide)]
    simp only [vL_e]
    obtain ⟨r, σ', μ', b1, b2, b3⟩ := kd_L hs hi h.2.1 h.2.2.1.1 FU 0 σ1 μ 0 (by decide) (FU_gt (by decide)) (h.trial a3) (Try.ini h.2.2.1.2.2) a2
    have b1' : f_X4_kinds_L35 FU (nI s) (nI i) 0 0 σ1 = some (r, σ') := b1
    have b2' : f_X5_fitting_L14 FU (nI s) (nI i) (nI (22 + 6 * i + 0)) 7 (μ 51 (22 + 6 * i + 0)) 0 0 μ = some (r, μ') := b2
    exact ⟨r, σ', μ', b1', by rw [b2', vC_s], b3⟩
  · rw [g1, g2, vC_s, vC_s, vL_e, vL_e, if_neg (show ¬ (0 : Int32) = -1 by decide), if_neg (show ¬ (-1000001 : Int32) = 0 by decide)]
    exact fin0 h
  · rw [g1, g2, vC_s, vC_s, vL_e, vL_e, if_neg (show ¬ (5 : Int32) = -1 by decide), if_neg (show ¬ (-1000006 : Int32) = 0 by decide)]
    exact fin5 h
