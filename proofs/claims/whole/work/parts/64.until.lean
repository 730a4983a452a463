/-! 11 down, 12 up, 13 weary, 14 saved -/
theorem least (Q : Nat → Prop) : ∀ n, (∃ k, k < n ∧ Q k ∧ ∀ j, j < k → ¬ Q j) ∨ (∀ j, j < n → ¬ Q j) := by
  intro n
  induction n with
  | zero => exact Or.inr (fun j hj => by omega)
  | succ n ih =>
    rcases ih with ⟨k, h1, h2, h3⟩ | h
    · exact Or.inl ⟨k, by omega, h2, h3⟩
    · rcases Classical.em (Q n) with q | q
      · exact Or.inl ⟨n, by omega, q, h⟩
      · refine Or.inr (fun j hj => ?_)
        by_cases e : j = n
        · subst e; exact q
        · exact h j (by omega)
section BT
variable {μ : Mem} {p : Nat} {lo hi : Int32}
abbrev wi (x lo hi : Int32) : Prop := ¬ x < lo ∧ ¬ hi < x
theorem J46_1 {k : Int32} {M : Nat → Int32} (h1 : Z70 (μ 51)) (hM : Z70 M) (hp : p < 70) (q : wi (M p) lo hi) : f_X5_beatsTo_J46 (nI p) lo hi k (asN μ M) = some (k, setr μ 53 (μ 51)) := by
  unfold f_X5_beatsTo_J46 f_X5_beatsTo_J67
  rw [vI_at rfl hp (by decide), as_1, wM1 q, vC_s, if_neg n10, as_pb h1 hM, vC_s]
theorem J46_0 {k : Int32} {M : Nat → Int32} (h1 : Z70 (μ 51)) (hM : Z70 M) (hp : p < 70) (q : ¬ wi (M p) lo hi) : f_X5_beatsTo_J46 (nI p) lo hi k (asN μ M) = some (-1, setr μ 53 (μ 51)) := by
  unfold f_X5_beatsTo_J46 f_X5_beatsTo_J67
  rw [vI_at rfl hp (by decide), as_1, wM0 q, vC_s, if_pos rfl, as_pb h1 hM, vC_s]
theorem btA (hI : Inv (μ 51)) (h1 : Z70 (μ 51)) (hp : p < 70) {K : Nat} (hK : K ≤ 200) (q : wi (bgN (μ 51) K p) lo hi) (nq : ∀ j, j < K → ¬ wi (bgN (μ 51) j p) lo hi) : ∀ n k, k ≤ K → K - k < n → f_X5_beatsTo_L14 n (nI p) lo hi (nI k) (asN μ (bgN (μ 51) k)) = some (nI K, setr μ 53 (μ 51)) := by
  intro n
  induction n with
  | zero => intro k _ h; omega
  | succ n ih =>
    intro k hk hn
    rw [f_X5_beatsTo_L14_s, vI_at rfl hp (by decide), as_1, show (200 : Int32) = nI 200 from rfl]
    by_cases e : k = K
    · subst e
      rw [J46_1 h1 (Z_bg h1 hI k) hp q, wM1 q, vC_s, if_neg n10, J46_1 h1 (Z_bg h1 hI k) hp q]
      split <;> rfl
    · rw [if_neg (nle_of (by omega) (by decide)), wM0 (nq k (by omega)), vC_s, if_pos rfl, as_be (bg_Inv hI k), vC_s, vL_e, show nI k + 1 = nI (k + 1) from nI_1 k]
      exact ih (k + 1) (by omega) (by omega)
theorem btB (hI : Inv (μ 51)) (h1 : Z70 (μ 51)) (hp : p < 70) (nq : ∀ j, j < 201 → ¬ wi (bgN (μ 51) j p) lo hi) : ∀ n k, k ≤ 200 → 200 - k < n → f_X5_beatsTo_L14 n (nI p) lo hi (nI k) (asN μ (bgN (μ 51) k)) = some (-1, setr μ 53 (μ 51)) := by
  intro n
  induction n with
  | zero => intro k _ h; omega
  | succ n ih =>
    intro k hk hn
    rw [f_X5_beatsTo_L14_s, vI_at rfl hp (by decide), as_1, show (200 : Int32) = nI 200 from rfl]
    by_cases e : k = 200
    · subst e
      rw [if_pos (nI_le (Nat.le_refl _) (by decide)), J46_0 h1 (Z_bg h1 hI 200) hp (nq 200 (by omega))]
    · rw [if_neg (nle_of (by omega) (by decide)), wM0 (nq k (by omega)), vC_s, if_pos rfl, as_be (bg_Inv hI k), vC_s, vL_e, show nI k + 1 = nI (k + 1) from nI_1 k]
      exact ih (k + 1) (by omega) (by omega)
theorem bt_1 (hI : Inv (μ 51)) (h1 : Z70 (μ 51)) (h3 : Z70 (μ 53)) (hp : p < 70) {K : Nat} (hK : K ≤ 200) (q : wi (bgN (μ 51) K p) lo hi) (nq : ∀ j, j < K → ¬ wi (bgN (μ 51) j p) lo hi) : f_X5_beatsTo (nI p) lo hi μ = some (nI K, setr μ 53 (μ 51)) := by
  unfold f_X5_beatsTo
  rw [as_cr h1 h3, vC_s, vL_e]
  exact btA hI h1 hp hK q nq FU 0 (Nat.zero_le _) (FU_gt (by omega))
theorem bt_0 (hI : Inv (μ 51)) (h1 : Z70 (μ 51)) (h3 : Z70 (μ 53)) (hp : p < 70) (nq : ∀ j, j < 201 → ¬ wi (bgN (μ 51) j p) lo hi) : f_X5_beatsTo (nI p) lo hi μ = some (-1, setr μ 53 (μ 51)) := by
  unfold f_X5_beatsTo
  rw [as_cr h1 h3, vC_s, vL_e]
  exact btB hI h1 hp nq FU 0 (Nat.zero_le _) (FU_gt (by omega))
theorem none_1 {k : Nat} (hk : k < 2 ^ 31) : f_X5_orNone (nI k) μ = some (nI k, μ) := by
  unfold f_X5_orNone
  rw [if_pos (nI_pos' hk)]
theorem none_0 : f_X5_orNone (-1) μ = vC (f_X5_finding (-1000004) μ) (fun r τ => some (r, τ)) := by
  unfold f_X5_orNone
  rw [if_neg (by decide)]
end BT
section BU
variable {σ : Mem} {N c : Nat → Int32} {y : Nat} {lo hi : Int32}
theorem bu_step (hR : Rh 1 σ N) (hI : Inv N) (hc : rg (c 0) 6) (hy : y < 6) {n k : Nat} {r : Nat → Int32} (hk : k ≤ 200) (hr : ∀ f, f < 6 → r f = prb N c k f) : f_X4_beatsUntil_L19 (n + 1) (nI y) lo hi (nI k) (setr σ 37 r) = if wi (prb N c k y) lo hi then some (nI k, setr σ 37 r) else f_X4_beatsUntil_L19 n (nI y) lo hi (nI (k + 1)) (setr σ 37 (pla r (scK N k) (N 3))) := by
  obtain ⟨b, hb, e⟩ := hI.beat
  have hRk : ∀ r, Rh 1 (setr σ 37 r) N := fun r => Rh_fr hR hI (fun i h1 h2 => setr_ne (by omega))
  have es : N (6 + min (b + k) 99999 % 6) = scK N k := by unfold scK; rw [e, nI_clamp (by omega)]
  have hk0 : rg (setr σ 37 r 37 0) 6 := by rw [setr_same, hr 0 (by decide), prb_k (Or.inl rfl)]; exact hc
  rw [f_X4_beatsUntil_L19_s, show (200 : Int32) = nI 200 from rfl, if_neg (nI_nlt hk (by decide)), si_C (hRk r) hb e (by omega), vC_s, vL_e, es, tell_C hk0, vC_s, setr_same, tlv_f hy, hr y hy]
  by_cases q : wi (prb N c k y) lo hi
  · rw [wC1 q, vC_s, if_neg n10, if_pos q]
  · rw [wC0 q, vC_s, if_pos rfl, if_neg q, pla_C hk0, vC_s, vL_e, setr_same, setr_setr, (hRk r).1.1, show nI k + 1 = nI (k + 1) from nI_1 k]
theorem bu1 (hR : Rh 1 σ N) (hI : Inv N) (hc : rg (c 0) 6) (hy : y < 6) {K : Nat} (hK : K ≤ 200) (q : wi (prb N c K y) lo hi) (nq : ∀ j, j < K → ¬ wi (prb N c j y) lo hi) : ∀ n k r, k ≤ K → K - k < n → (∀ f, f < 6 → r f = prb N c k f) → ∃ r', f_X4_beatsUntil_L19 n (nI y) lo hi (nI k) (setr σ 37 r) = some (nI K, setr σ 37 r') := by
  intro n
  induction n with
  | zero => intro k r _ h; omega
  | succ n ih =>
    intro k r hk hn hr
    rw [bu_step hR hI hc hy (by omega) hr]
    by_cases e : k = K
    · subst e
      rw [if_pos q]
      exact ⟨r, rfl⟩
    · rw [if_neg (nq k (by omega))]
      exact ih (k + 1) _ (by omega) (by omega) (cg_pla hr)
theorem bu0 (hR : Rh 1 σ N) (hI : Inv N) (hc : rg (c 0) 6) (hy : y < 6) (nq : ∀ j, j < 201 → ¬ wi (prb N c j y) lo hi) : ∀ n k r, k ≤ 201 → 201 - k < n → (k ≤ 200 → ∀ f, f < 6 → r f = prb N c k f) → ∃ r', f_X4_beatsUntil_L19 n (nI y) lo hi (nI k) (setr σ 37 r) = vC (f_X4_find 3 (setr σ 37 r')) (fun r τ => some (r, τ)) := by
  intro n
  induction n with
  | zero => intro k r _ h; omega
  | succ n ih =>
    intro k r hk hn hr
    by_cases e : k = 201
    · subst e
      rw [f_X4_beatsUntil_L19_s, if_pos (by decide)]
      exact ⟨r, rfl⟩
    · rw [bu_step hR hI hc hy (by omega) (hr (by omega)), if_neg (nq k (by omega))]
      exact ih (k + 1) _ (by omega) (by omega) (fun _ => cg_pla (hr (by omega)))
end BU
theorem until_core {σ μ : Mem} {i y : Nat} {lo hi : Int32} (h : Rel σ μ) (hi' : i < hg (μ 51)) (hy : y < 6) : ∃ (r : Int32) (σ' μ' : Mem), vC (f_X4_beatsUntil (nI i) (nI y) lo hi σ) (fun r τ => some (r, τ)) = some (r, σ') ∧ vC (f_X5_beatsTo (nI (22 + 6 * i + y)) lo hi μ) (fun r τ => vC (f_X5_orNone r τ) (fun r τ => some (r, τ))) = some (r, μ') ∧ Rel σ' μ' := by
  have h8 := h.2.1.hung.2
  have hk := (h.2.1.2.2.2.2.2.2 i hi').1
  have ag : ∀ f, f < 6 → tk6 (σ 37) (σ (1 + 3 + 1 + i)) f = cur (μ 51) i f := fun f hf => by rw [tk6_e f hf]; exact h.1.2.2.2 i f hi' hf
  unfold f_X4_beatsUntil
  rw [vI_at rfl (by omega) (by decide), tk_C (by omega), vC_s, vL_e]
  have ec : ∀ j, j < 201 → (wi (bgN (μ 51) j (22 + 6 * i + y)) lo hi ↔ wi (prb (μ 51) (cur (μ 51) i) j y) lo hi) := by
    intro j hj
    have : bgN (μ 51) j (22 + 6 * i + y) = prb (μ 51) (cur (μ 51) i) j y := bg_cur h.2.1 hi' j (by omega) y hy
    rw [this]
  rcases least (fun j => wi (prb (μ 51) (cur (μ 51) i) j y) lo hi) 201 with ⟨K, h1, h2, h3⟩ | h0
  · obtain ⟨r', g⟩ := bu1 h.1 h.2.1 hk hy (by omega) h2 h3 FU 0 _ (Nat.zero_le _) (FU_gt (by omega)) ag
    have g' : f_X4_beatsUntil_L19 FU (nI y) lo hi 0 (setr σ 37 (tk6 (σ 37) (σ (1 + 3 + 1 + i)))) = some (nI K, setr σ 37 r') := g
    rw [g', vC_s, bt_1 h.2.1 h.2.2.1.1 h.2.2.1.2.2 (by omega) (show K ≤ 200 by omega) ((ec K h1).mpr h2) (fun j hj q => h3 j hj ((ec j (by omega)).mp q)), vC_s, none_1 (by omega), vC_s]
    exact ⟨_, _, _, rfl, rfl, h.probe.aside⟩
  · obtain ⟨r', g⟩ := bu0 h.1 h.2.1 hk hy h0 FU 0 _ (Nat.zero_le _) (FU_gt (by omega)) (fun _ => ag)
    have g' : f_X4_beatsUntil_L19 FU (nI y) lo hi 0 (setr σ 37 (tk6 (σ 37) (σ (1 + 3 + 1 + i)))) = vC (f_X4_find 3 (setr σ 37 r')) (fun r τ => some (r, τ)) := g
    rw [g', bt_0 h.2.1 h.2.2.1.1 h.2.2.1.2.2 (by omega) (fun j hj q => h0 j hj ((ec j hj).mp q)), vC_s, none_0]
    obtain ⟨r, σ', μ', a1, a2, a3⟩ := fin3 (h.probe (r := r')).aside
    refine ⟨r, σ', μ', ?_, ?_, a3⟩
    · rw [a1, vC_s]
    · rw [a2, vC_s]
theorem sim11 : Sim11 Rel := by
  intro σ μ x1 h
  unfold f_X4_down f_X5_down
  by_cases c : ¬ x1 < 0 ∧ ¬ (μ 51 1 - 1) < x1
  · rw [isCurtain_C1 h.1.1.2.2.2.2.2 c, isCurtain_M1 c, vC_s, vC_s, if_neg n10, if_neg n10]
    obtain ⟨i, hi, rfl⟩ := cur_of h.2.1 c
    rw [cAt3, vC_s]
    exact until_core (y := 3) h hi (by decide)
  · rw [isCurtain_C0 h.1.1.2.2.2.2.2 c, isCurtain_M0 c, vC_s, vC_s, if_pos rfl, if_pos rfl]
    exact fin0 h
theorem sim12 : Sim12 Rel := by
  intro σ μ x1 h
  unfold f_X4_up f_X5_up
  by_cases c : ¬ x1 < 0 ∧ ¬ (μ 51 1 - 1) < x1
  · rw [isCurtain_C1 h.1.1.2.2.2.2.2 c, isCurtain_M1 c, vC_s, vC_s, if_neg n10, if_neg n10]
    obtain ⟨i, hi, rfl⟩ := cur_of h.2.1 c
    rw [cAt3, vC_s]
    exact until_core (y := 3) h hi (by decide)
  · rw [isCurtain_C0 h.1.1.2.2.2.2.2 c, isCurtain_M0 c, vC_s, vC_s, if_pos rfl, if_pos rfl]
    exact fin0 h
theorem sim13 : Sim13 Rel := by
  intro σ μ x1 x2 h
  unfold f_X4_weary f_X5_weary f_X4_weary_J18 f_X5_weary_J36
  by_cases c : ¬ x1 < 0 ∧ ¬ (μ 51 1 - 1) < x1
  · rw [isCurtain_C1 h.1.1.2.2.2.2.2 c, isCurtain_M1 c, vC_s, vC_s, if_neg n10, if_neg n10]
    by_cases d : ¬ x2 < 0 ∧ ¬ 99 < x2
    · rw [wC1 d, wM1 d, vC_s, vC_s, if_neg n10, if_neg n10]
      obtain ⟨i, hi, rfl⟩ := cur_of h.2.1 c
      rw [cAt1, vC_s]
      exact until_core (y := 1) h hi (by decide)
    · rw [wC0 d, wM0 d, vC_s, vC_s, if_pos rfl, if_pos rfl]
      exact fin0 h
  · rw [isCurtain_C0 h.1.1.2.2.2.2.2 c, isCurtain_M0 c, vC_s, vC_s, if_pos rfl, if_pos rfl]
    exact fin0 h
theorem sv1 {N : Nat → Int32} {x : Int32} (hI : Inv N) {K : Nat} (hK : K ≤ 200) (q : ¬ bgN N K 5 < x) (nq : ∀ j, j < K → bgN N j 5 < x) : ∀ n k σ, k ≤ K → K - k < n → Rh 25 σ (bgN N k) → ∃ σ', f_X4_saved_L30 n x (nI k) σ = some (nI K, σ') ∧ frH 25 σ σ' := by
  intro n
  induction n with
  | zero => intro k σ _ h; omega
  | succ n ih =>
    intro k σ hk hn hR
    rw [f_X4_saved_L30_s, show (200 : Int32) = nI 200 from rfl, if_neg (nI_nlt (by omega) (by decide)), hR.1.2.2.1]
    by_cases e : k = K
    · subst e
      rw [if_neg q]
      exact ⟨σ, rfl, frH.rf⟩
    · obtain ⟨σ1, a1, a2, a3⟩ := pb_C hR (bg_Inv hI k)
      rw [if_pos (nq k (by omega)), a1, vC_s, vL_e, show nI k + 1 = nI (k + 1) from nI_1 k]
      obtain ⟨σ', b1, b2⟩ := ih (k + 1) σ1 (by omega) (by omega) a2
      exact ⟨σ', b1, a3.tr b2⟩
theorem sv0 {N : Nat → Int32} {x : Int32} (hI : Inv N) (nq : ∀ j, j < 201 → bgN N j 5 < x) : ∀ n k σ, k ≤ 201 → 201 - k < n → Rh 25 σ (bgN N k) → ∃ σ', f_X4_saved_L30 n x (nI k) σ = vC (f_X4_find 3 σ') (fun r τ => some (r, τ)) ∧ frH 25 σ σ' := by
  intro n
  induction n with
  | zero => intro k σ _ h; omega
  | succ n ih =>
    intro k σ hk hn hR
    rw [f_X4_saved_L30_s]
    by_cases e : k = 201
    · subst e
      rw [if_pos (by decide)]
      exact ⟨σ, rfl, frH.rf⟩
    · obtain ⟨σ1, a1, a2, a3⟩ := pb_C hR (bg_Inv hI k)
      rw [show (200 : Int32) = nI 200 from rfl, if_neg (nI_nlt (by omega) (by decide)), hR.1.2.2.1, if_pos (nq k (by omega)), a1, vC_s, vL_e, show nI k + 1 = nI (k + 1) from nI_1 k]
      obtain ⟨σ', b1, b2⟩ := ih (k + 1) σ1 (by omega) (by omega) a2
      exact ⟨σ', b1, a3.tr b2⟩
theorem sim14 : Sim14 Rel := by
  intro σ μ x1 h
  unfold f_X4_saved f_X5_saved
  by_cases d : ¬ x1 < 0 ∧ ¬ 900 < x1
  · rw [wC1 d, wM1 d, vC_s, vC_s, if_neg n10, if_neg n10]
    obtain ⟨σ1, a1, a2, a3⟩ := take_C (a := 25) h.1 h.2.1 (by decide)
    rw [a1, vC_s, vL_e]
    have ec : ∀ j, wi (bgN (μ 51) j 5) x1 900 ↔ ¬ bgN (μ 51) j 5 < x1 := by
      intro j
      have := ((rg_iff (m := 900) (by decide)).mp (bg_Inv h.2.1 j).2.2.2.2.1).2
      exact ⟨fun q => q.1, fun q => ⟨q, this⟩⟩
    rcases least (fun j => ¬ bgN (μ 51) j 5 < x1) 201 with ⟨K, h1, h2, h3⟩ | h0
    · obtain ⟨σ2, b1, b2⟩ := sv1 h.2.1 (by omega) h2 (fun j hj => Classical.not_not.mp (h3 j hj)) FU 0 σ1 (Nat.zero_le _) (FU_gt (by omega)) a2
      have b1' : f_X4_saved_L30 FU x1 0 σ1 = some (nI K, σ2) := b1
      have g := bt_1 (p := 5) (lo := x1) (hi := 900) h.2.1 h.2.2.1.1 h.2.2.1.2.2 (by decide) (show K ≤ 200 by omega) ((ec K).mpr h2) (fun j hj q => h3 j hj ((ec j).mp q))
      have g' : f_X5_beatsTo 5 x1 900 μ = some (nI K, setr μ 53 (μ 51)) := g
      rw [b1', g', vC_s, none_1 (by omega), vC_s]
      exact ⟨_, _, _, rfl, rfl, ((h.trial a3).trial b2).aside⟩
    · obtain ⟨σ2, b1, b2⟩ := sv0 h.2.1 (fun j hj => Classical.not_not.mp (h0 j hj)) FU 0 σ1 (Nat.zero_le _) (FU_gt (by omega)) a2
      have b1' : f_X4_saved_L30 FU x1 0 σ1 = vC (f_X4_find 3 σ2) (fun r τ => some (r, τ)) := b1
      have g := bt_0 (p := 5) (lo := x1) (hi := 900) h.2.1 h.2.2.1.1 h.2.2.1.2.2 (by decide) (fun j hj q => h0 j hj ((ec j).mp q))
      have g' : f_X5_beatsTo 5 x1 900 μ = some (-1, setr μ 53 (μ 51)) := g
      rw [b1', g', vC_s, none_0]
      obtain ⟨r, σ', μ', c1, c2, c3⟩ := fin3 (((h.trial a3).trial b2).aside)
      exact ⟨r, σ', μ', c1, by rw [c2, vC_s], c3⟩
  · rw [wC0 d, wM0 d, vC_s, vC_s, if_pos rfl, if_pos rfl]
    exact fin0 h
