/-! THE PROBE: one curtain alone, beat by beat -/
def scK (N : Nat → Int32) (k : Nat) : Int32 := N (6 + min ((N 0).toNatClampNeg + k) 99999 % 6)
def prb (N c : Nat → Int32) : Nat → (Nat → Int32)
  | 0 => c
  | k + 1 => pla (prb N c k) (scK N k) (N 3)
def pct (N c : Nat → Int32) : Nat → Int32
  | 0 => 0
  | k + 1 => if cam (prb N c k) (scK N k) (N 3) ∧ N 3 = 0 then pct N c k + 1 else pct N c k
theorem pls_cur {N : Nat → Int32} {S : Int32} {i : Nat} (hF : N 3 = 0 ∨ N 3 = 1) : ∀ k f, f < 6 → cur (plsN N S k) i f = if i < k then pla (cur N i) S (N 3) f else cur N i f := by
  intro k
  induction k with
  | zero => intro f _; rw [if_neg (by omega)]; rfl
  | succ k ih =>
    intro f hf
    show cur (plN (plsN N S k) k S) i f = _
    have e3 : plsN N S k 3 = N 3 := pls_lo (by decide) (by decide) (by decide) k
    by_cases e : i = k
    · subst e
      rw [if_pos (by omega), pl_cur (by rw [e3]; exact hF), e3]
      refine cg_pla (fun g hg => ?_) f hf
      rw [ih g hg, if_neg (by omega)]
    · rw [pl_curn e hf, ih f hf]
      by_cases q : i < k
      · rw [if_pos q, if_pos (by omega)]
      · rw [if_neg q, if_neg (by omega)]
theorem be_cur {N : Nat → Int32} {i : Nat} (hI : Inv N) (hi : i < hg N) : ∀ f, f < 6 → cur (beN N) i f = pla (cur N i) (scN N) (N 3) f := by
  intro f hf
  unfold beN
  rw [cur_lo0, pls_cur hI.2.2.1 _ f hf, if_pos hi]
theorem bg_lo {N : Nat → Int32} {p : Nat} (hp : p < 22) (h0 : p ≠ 0) (h4 : p ≠ 4) (h5 : p ≠ 5) : ∀ k, bgN N k p = N p := by
  intro k
  induction k with
  | zero => rfl
  | succ k ih =>
    show beN (bgN N k) p = _
    unfold beN
    rw [upd_n h0, pls_lo hp h4 h5]; exact ih
theorem bg_0 {N : Nat → Int32} {b : Nat} (hb : b ≤ 99999) (e : N 0 = nI b) : ∀ k, k ≤ 1000 → bgN N k 0 = nI (min (b + k) 99999) := by
  intro k
  induction k with
  | zero => intro _; rw [Nat.min_eq_left (by omega)]; exact e
  | succ k ih =>
    intro hk
    show beN (bgN N k) 0 = _
    unfold beN
    rw [upd_s, ih (by omega)]
    have := min_beat (b := min (b + k) 99999) (k := 1) (by omega) (by decide)
    rw [show (1 : Int32) = nI 1 from rfl, this]
    congr 1
    omega
theorem bg_sc {N : Nat → Int32} (hI : Inv N) {k : Nat} (hk : k ≤ 1000) : scN (bgN N k) = scK N k := by
  obtain ⟨b, hb, e⟩ := hI.beat
  unfold scN scK
  rw [bg_0 hb e k hk, e, nI_clamp (by omega), nI_clamp (by omega), bg_lo (by omega) (by omega) (by omega) (by omega)]
theorem bg_cur {N : Nat → Int32} {i : Nat} (hI : Inv N) (hi : i < hg N) : ∀ k, k ≤ 1000 → ∀ f, f < 6 → cur (bgN N k) i f = prb N (cur N i) k f := by
  intro k
  induction k with
  | zero => intro _ f _; rfl
  | succ k ih =>
    intro hk f hf
    show cur (beN (bgN N k)) i f = pla (prb N (cur N i) k) (scK N k) (N 3) f
    rw [be_cur (bg_Inv hI k) (by rw [bg_hg]; exact hi) f hf, bg_sc hI (by omega), bg_lo (by decide) (by decide) (by decide) (by decide)]
    exact cg_pla (ih (by omega)) f hf
theorem prb_cg {N M c : Nat → Int32} (h0 : M 0 = N 0) (h3 : M 3 = N 3) (hl : ∀ i, i < 6 → M (6 + i) = N (6 + i)) : ∀ k, prb M c k = prb N c k := by
  intro k
  induction k with
  | zero => rfl
  | succ k ih =>
    show pla (prb M c k) (scK M k) (M 3) = pla (prb N c k) (scK N k) (N 3)
    have : scK M k = scK N k := by
      unfold scK
      rw [h0, hl _ (by omega)]
    rw [ih, this, h3]
theorem prb_cc {N c d : Nat → Int32} (h : ∀ f, f < 6 → c f = d f) : ∀ k f, f < 6 → prb N c k f = prb N d k f := by
  intro k
  induction k with
  | zero => exact h
  | succ k ih => intro f hf; exact cg_pla ih f hf
theorem pla_k {c : Nat → Int32} {S F : Int32} {f : Nat} (hf : f = 0 ∨ f = 2 ∨ f = 4) : pla c S F f = c f := by
  have h1 : f ≠ 1 := by omega
  have h3 : f ≠ 3 := by omega
  have h5 : f ≠ 5 := by omega
  have e1 : fee c S f = c f := upd_n h1
  have e2 : mov (fee c S) F f = c f := (upd_n h3).trans e1
  have e3 : dwn (mov (fee c S) F) F f = c f := by
    unfold dwn dn1
    split
    · rw [upd_n h1, upd_n h5]; exact e2
    · rw [upd_n h5]; exact e2
  unfold pla
  split
  · exact e1
  · split
    · exact e3
    · exact e2
theorem prb_k {N c : Nat → Int32} {f : Nat} (hf : f = 0 ∨ f = 2 ∨ f = 4) : ∀ k, prb N c k f = c f := by
  intro k
  induction k with
  | zero => rfl
  | succ k ih => exact (pla_k hf).trans ih
theorem pp_L {σ : Mem} {N c : Nat → Int32} {x : Nat} (hR : Rh 1 σ N) (hI : Inv N) (hc : rg (c 0) 6) (hx : x ≤ 1000) : ∀ (n k : Nat) (r : Nat → Int32), k ≤ x → x - k < n → (∀ f, f < 6 → r f = prb N c k f) → ∃ r', f_X4_passProbe_L4 n (nI x) (pct N c k) (nI k) (setr σ 37 r) = some (pct N c x, setr σ 37 r') ∧ ∀ f, f < 6 → r' f = prb N c x f := by
  intro n
  obtain ⟨b, hb, e⟩ := hI.beat
  induction n with
  | zero => intro k r _ q; omega
  | succ n ih =>
    intro k r hk hn hr
    rw [f_X4_passProbe_L4_s]
    rcases Nat.lt_or_ge k x with q | q
    · rw [if_neg (nle_of q (by omega))]
      have hRk : ∀ r, Rh 1 (setr σ 37 r) N := fun r => Rh_fr hR hI (fun i h1 h2 => setr_ne (by omega))
      have es : N (6 + min (b + k) 99999 % 6) = scK N k := by unfold scK; rw [e, nI_clamp (by omega)]
      have hk0 : rg (setr σ 37 r 37 0) 6 := by rw [setr_same, hr 0 (by decide), prb_k (Or.inl rfl)]; exact hc
      rw [si_C (hRk r) hb e (by omega), vC_s, es, (hRk r).1.1, pla_C hk0, vC_s, setr_same, setr_setr, (hRk _).1.1]
      unfold f_X4_passProbe_J47
      simp only [vL_e, show nI k + 1 = nI (k + 1) from nI_1 k]
      obtain ⟨r', h1, h2⟩ := ih (k + 1) (pla r (scK N k) (N 3)) q (by omega) (cg_pla hr)
      refine ⟨r', ?_, h2⟩
      rw [← h1]
      have hp : pct N c (k + 1) = if cam (prb N c k) (scK N k) (N 3) ∧ N 3 = 0 then pct N c k + 1 else pct N c k := rfl
      rw [hp]
      by_cases hc1 : cam (prb N c k) (scK N k) (N 3)
      · rw [if_pos ((cg_cam hr).mpr hc1), if_neg n10]
        by_cases hF : N 3 = 0
        · rw [if_pos hF, if_pos (show cam (prb N c k) (scK N k) (N 3) ∧ N 3 = 0 from ⟨hc1, hF⟩)]
        · rw [if_neg hF, if_neg (show ¬ (cam (prb N c k) (scK N k) (N 3) ∧ N 3 = 0) from fun z => hF z.2)]
      · rw [if_neg (fun z => hc1 ((cg_cam hr).mp z)), if_pos rfl, if_neg (show ¬ (cam (prb N c k) (scK N k) (N 3) ∧ N 3 = 0) from fun z => hc1 z.1)]
    · have hke : k = x := by omega
      subst hke
      rw [if_pos (nI_le q (by omega))]
      exact ⟨r, rfl, hr⟩
theorem pp_C {σ : Mem} {N c : Nat → Int32} {x : Nat} (hR : Rh 1 σ N) (hI : Inv N) (hc : rg (c 0) 6) (hr : ∀ f, f < 6 → σ 37 f = c f) (hx : x ≤ 1000) : ∃ r', f_X4_passProbe (nI x) σ = some (pct N c x, setr σ 37 r') ∧ ∀ f, f < 6 → r' f = prb N c x f := by
  unfold f_X4_passProbe
  rw [vL_e, vL_e]
  have := pp_L hR hI hc hx FU 0 (σ 37) (Nat.zero_le _) (FU_gt (by omega)) hr
  rw [setr_self] at this
  exact this
/-! the reference's row set aside -/
def asN (μ : Mem) (M : Nat → Int32) : Mem := setr (setr μ 53 (μ 51)) 51 M
theorem as_1 {μ : Mem} {M : Nat → Int32} : asN μ M 51 = M := setr_same
theorem as_3 {μ : Mem} {M : Nat → Int32} : asN μ M 53 = μ 51 := by
  unfold asN
  rw [setr_ne (by decide), setr_same]
theorem as_n {μ : Mem} {M : Nat → Int32} {i : Nat} (h1 : i ≠ 51) (h3 : i ≠ 53) : asN μ M i = μ i := by
  unfold asN
  rw [setr_ne h1, setr_ne h3]
theorem as_s {μ : Mem} {M M' : Nat → Int32} : setr (asN μ M) 51 M' = asN μ M' := setr_setr
theorem as_0 {μ : Mem} : asN μ (μ 51) = setr μ 53 (μ 51) := by
  funext i
  unfold asN
  by_cases h : i = 51
  · subst h; rw [setr_same, setr_ne (by decide)]
  · rw [setr_ne h]
theorem as_cr {μ : Mem} (h1 : Z70 (μ 51)) (h3 : Z70 (μ 53)) : f_X5_copyRow 51 53 μ = some ((), asN μ (μ 51)) := by
  rw [cr_M (by decide) h1 h3, as_0]
theorem as_bk {μ : Mem} {M : Nat → Int32} (h1 : Z70 (μ 51)) (hM : Z70 M) : f_X5_copyRow 53 51 (asN μ M) = some ((), setr μ 53 (μ 51)) := by
  rw [cr_M (by decide) (by rw [as_3]; exact h1) (by rw [as_1]; exact hM), as_3, as_s, as_0]
theorem as_pb {μ : Mem} {M : Nat → Int32} {r : Int32} (h1 : Z70 (μ 51)) (hM : Z70 M) : f_X5_putBack r (asN μ M) = some (r, setr μ 53 (μ 51)) := by
  unfold f_X5_putBack
  rw [as_bk h1 hM, vC_s]
theorem as_bg {μ : Mem} {M : Nat → Int32} (hI : Inv M) {x : Nat} (hx : x < 10000) : f_X5_beatsGo (nI x) (asN μ M) = some ((), asN μ (bgN M x)) := by
  rw [bg_M (by rw [as_1]; exact hI) hx, as_1, as_s]
theorem as_be {μ : Mem} {M : Nat → Int32} (hI : Inv M) : f_X5_beat (asN μ M) = some ((), asN μ (beN M)) := by
  rw [be_M (by rw [as_1]; exact hI), as_1, as_s]
theorem Rel.aside {σ μ : Mem} (h : Rel σ μ) : Rel σ (setr μ 53 (μ 51)) := h.scratch (fun _ _ => rfl) (fun i hi => setr_ne hi) (by rw [setr_same]; exact h.2.2.1.1)
theorem Rel.probe {σ μ : Mem} {r : Nat → Int32} (h : Rel σ μ) : Rel (setr σ 37 r) μ := h.scratch (fun i hi => setr_ne (by omega)) (fun _ _ => rfl) h.2.2.1.2.2
/-! 9 ahead -/
theorem ahead_core {σ μ : Mem} {x1 x2 x3 : Int32} (h : Rel σ μ) (h2 : x2 = 1 ∨ x2 = 3 ∨ x2 = 5 ∨ x2 = 8) : ∃ (r : Int32) (σ' μ' : Mem), f_X4_ahead_J21 x1 x2 x3 σ = some (r, σ') ∧ f_X5_ahead_J21 x1 x2 x3 μ = some (r, μ') ∧ Rel σ' μ' := by
  unfold f_X4_ahead_J21 f_X5_ahead_J21 f_X4_ahead_J26 f_X5_ahead_J26 f_X4_ahead_J51 f_X5_ahead_J51
  rw [vL_e, vL_e]
  by_cases c : ¬ x1 < 0 ∧ ¬ (μ 51 1 - 1) < x1
  · rw [isCurtain_C1 h.1.1.2.2.2.2.2 c, isCurtain_M1 c, vC_s, vC_s, if_neg n10, if_neg n10, if_neg n10, if_neg n10]
    by_cases d : ¬ x3 < 0 ∧ ¬ 100 < x3
    · rw [wC1 d, wM1 d, vC_s, vC_s, if_neg n10, if_neg n10]
      obtain ⟨i, hi, rfl⟩ := cur_of h.2.1 c
      obtain ⟨x, hx, rfl⟩ := rg_of (m := 100) (by decide) rfl d
      have h8 := h.2.1.hung.2
      have hIx := bg_Inv h.2.1 x
      have ag : ∀ f, f < 6 → σ (1 + 3 + 1 + i) f = cur (μ 51) i f := fun f hf => h.1.2.2.2 i f hi hf
      rw [vI_at rfl (by omega) (by decide), tk_C (by omega), vC_s]
      have hR1 : ∀ r, Rh 1 (setr σ 37 r) (μ 51) := fun r => (h.probe (r := r)).1
      obtain ⟨r', g1, g2⟩ := pp_C (hR1 (tk6 (σ 37) (σ (1 + 3 + 1 + i)))) h.2.1 (c := cur (μ 51) i) ((h.2.1.2.2.2.2.2.2 i hi).1) (fun f hf => by rw [setr_same, tk6_e f hf]; exact ag f hf) (show x ≤ 1000 by omega)
      obtain ⟨b, hb, e⟩ := h.2.1.beat
      have es : μ 51 (6 + min (b + x) 99999 % 6) = scK (μ 51) x := by unfold scK; rw [e, nI_clamp (by omega)]
      rw [g1, vC_s, setr_setr, si_C (hR1 r') hb e (by omega), vC_s, (hR1 r').1.1, es]
      have hk0 : rg (setr σ 37 r' 37 0) 6 := by rw [setr_same, g2 0 (by decide), prb_k (Or.inl rfl)]; exact (h.2.1.2.2.2.2.2.2 i hi).1
      rw [tell_C hk0, vC_s, setr_same, as_cr h.2.2.1.1 h.2.2.1.2.2, vC_s, as_bg h.2.1 (by omega), vC_s]
      have hx2 : rg x2 10 := by
        rcases h2 with rfl | rfl | rfl | rfl
        · exact ⟨1, by decide, rfl⟩
        · exact ⟨3, by decide, rfl⟩
        · exact ⟨5, by decide, rfl⟩
        · exact ⟨8, by decide, rfl⟩
      rw [told_M (by rw [as_1]; exact hIx) (by rw [as_1, bg_hg]; exact hi) hx2, vC_s, as_1, as_pb h.2.2.1.1 (Z_bg h.2.2.1.1 h.2.1 x), vC_s, bg_sc h.2.1 (by omega), bg_lo (by decide) (by decide) (by decide) (by decide)]
      have ev : tlv r' x2 (scK (μ 51) x) (μ 51 3) = tlv (cur (bgN (μ 51) x) i) x2 (scK (μ 51) x) (μ 51 3) := cg_tlv (fun f hf => by rw [g2 f hf, bg_cur h.2.1 hi x (by omega) f hf])
      rw [ev]
      exact ⟨_, _, _, rfl, rfl, h.probe.aside⟩
    · rw [wC0 d, wM0 d, vC_s, vC_s, if_pos rfl, if_pos rfl]
      exact fin0 h
  · rw [isCurtain_C0 h.1.1.2.2.2.2.2 c, isCurtain_M0 c, vC_s, vC_s, if_pos rfl, if_pos rfl]
    exact fin0 h
theorem sim9 : Sim9 Rel := by
  intro σ μ x1 x2 x3 h
  unfold f_X4_ahead f_X5_ahead
  by_cases c0 : x2 = 1
  · rw [if_pos c0, if_pos c0]; exact ahead_core h (Or.inl c0)
  rw [if_neg c0, if_neg c0]
  by_cases c1 : x2 = 3
  · rw [if_pos c1, if_pos c1]; exact ahead_core h (Or.inr (Or.inl c1))
  rw [if_neg c1, if_neg c1]
  by_cases c2 : x2 = 5
  · rw [if_pos c2, if_pos c2]; exact ahead_core h (Or.inr (Or.inr (Or.inl c2)))
  rw [if_neg c2, if_neg c2]
  by_cases c3 : x2 = 8
  · rw [if_pos c3, if_pos c3]; exact ahead_core h (Or.inr (Or.inr (Or.inr c3)))
  rw [if_neg c3, if_neg c3]
  unfold f_X4_ahead_J26 f_X5_ahead_J26 f_X4_ahead_J51 f_X5_ahead_J51
  rw [vL_e, vL_e]
  by_cases c : ¬ x1 < 0 ∧ ¬ (μ 51 1 - 1) < x1
  · rw [isCurtain_C1 h.1.1.2.2.2.2.2 c, isCurtain_M1 c, vC_s, vC_s, if_neg n10, if_neg n10, if_pos rfl, if_pos rfl]
    exact fin0 h
  · rw [isCurtain_C0 h.1.1.2.2.2.2.2 c, isCurtain_M0 c, vC_s, vC_s, if_pos rfl, if_pos rfl]
    exact fin0 h
/-! 10 cut -/
theorem Rel.trial {σ σ' μ : Mem} (h : Rel σ μ) (f : frH 25 σ σ') : Rel σ' μ := h.scratch (fun i hi => f i (by omega)) (fun _ _ => rfl) h.2.2.1.2.2
theorem sim10 : Sim10 Rel := by
  intro σ μ x1 h
  unfold f_X4_cut f_X5_cut
  by_cases d : ¬ x1 < 0 ∧ ¬ 100 < x1
  · rw [wC1 d, wM1 d, vC_s, vC_s, if_neg n10, if_neg n10]
    obtain ⟨x, hx, rfl⟩ := rg_of (m := 100) (by decide) rfl d
    obtain ⟨σ1, a1, a2, a3⟩ := take_C (a := 25) h.1 h.2.1 (by decide)
    obtain ⟨σ2, b1, b2, b3⟩ := pbs_C a2 h.2.1 (x := x) (by omega)
    rw [a1, vC_s, b1, vC_s, b2.1.2.1, bh_M (x := x) (y := 4) (p := 4) h.2.1 h.2.2.1.1 h.2.2.1.2.2 (by omega) (by decide) rfl, vC_s]
    exact ⟨_, _, _, rfl, rfl, ((h.trial a3).trial b3).aside⟩
  · rw [wC0 d, wM0 d, vC_s, vC_s, if_pos rfl, if_pos rfl]
    exact fin0 h
