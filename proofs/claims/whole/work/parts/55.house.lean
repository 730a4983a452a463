/-! A HOUSE of the class that holds the row -/
section CG
variable {c d : Nat → Int32} {S F : Int32}
theorem cg_gla (h : ∀ f, f < 6 → c f = d f) : gla c = gla d := by
  unfold gla
  rw [h 0 (by decide), h 2 (by decide)]
theorem cg_tir (h : ∀ f, f < 6 → c f = d f) : tir c S = tir d S := by
  unfold tir
  rw [h 0 (by decide), h 3 (by decide)]
theorem cg_mo1 (h : ∀ f, f < 6 → c f = d f) : mo1 c S = mo1 d S := by
  unfold mo1
  rw [h 1 (by decide), h 2 (by decide), cg_gla h, cg_tir h]
theorem cg_fee (h : ∀ f, f < 6 → c f = d f) : ∀ f, f < 6 → fee c S f = fee d S f := by
  intro f hf
  unfold fee upd
  rw [cg_mo1 h, h f hf]
theorem cg_hi1 (h : ∀ f, f < 6 → c f = d f) : hi1 c F = hi1 d F := by
  unfold hi1 bea fal ris
  rw [h 0 (by decide), h 1 (by decide), h 3 (by decide)]
theorem cg_mov (h : ∀ f, f < 6 → c f = d f) : ∀ f, f < 6 → mov c F f = mov d F f := by
  intro f hf
  unfold mov upd
  rw [cg_hi1 h, h f hf]
theorem cg_dwn (h : ∀ f, f < 6 → c f = d f) : ∀ f, f < 6 → dwn c F f = dwn d F f := by
  intro f hf
  unfold dwn dn1 upd
  split
  · simp only [h 1 (by decide), h 5 (by decide), h f hf]
  · simp only [h 5 (by decide), h f hf]
theorem cg_cam (h : ∀ f, f < 6 → c f = d f) : cam c S F ↔ cam d S F := by
  unfold cam
  rw [h 4 (by decide), h 3 (by decide), cg_hi1 (cg_fee h)]
theorem cg_pla (h : ∀ f, f < 6 → c f = d f) : ∀ f, f < 6 → pla c S F f = pla d S F f := by
  intro f hf
  unfold pla
  by_cases h4 : d 4 = 1
  · have h4' : c 4 = 1 := by rw [h 4 (by decide)]; exact h4
    rw [if_pos h4, if_pos h4']
    exact cg_fee h f hf
  · have h4' : ¬ c 4 = 1 := by rw [h 4 (by decide)]; exact h4
    rw [if_neg h4, if_neg h4']
    by_cases hc : cam d S F
    · rw [if_pos hc, if_pos ((cg_cam h).mpr hc)]
      exact cg_dwn (cg_mov (cg_fee h)) f hf
    · rw [if_neg hc, if_neg (fun q => hc ((cg_cam h).mp q))]
      exact cg_mov (cg_fee h) f hf
end CG
def Rh (h : Nat) (σ : Mem) (N : Nat → Int32) : Prop := (σ h 0 = N 3 ∧ σ h 1 = N 4 ∧ σ h 2 = N 5 ∧ σ h 3 = N 0 ∧ σ h 4 = N 2 ∧ σ h 5 = N 1) ∧ (∀ i, i < 6 → σ (h + 1) i = N (6 + i)) ∧ (∀ s, s < 10 → σ (h + 2) s = N (12 + s)) ∧ (∀ c f, c < hg N → f < 6 → σ (h + 3 + 1 + c) f = cur N c f)
/-- the house's own cells are those from h on, twelve -/
def frH (h : Nat) (σ σ' : Mem) : Prop := ∀ i, (i < h ∨ h + 12 ≤ i) → σ' i = σ i
theorem frH.tr {h : Nat} {σ σ1 σ2 : Mem} (a : frH h σ σ1) (b : frH h σ1 σ2) : frH h σ σ2 := fun i hi => (b i hi).trans (a i hi)
theorem frH.set {h k : Nat} {σ : Mem} {r : Nat → Int32} (h1 : h ≤ k) (h2 : k < h + 12) : frH h σ (setr σ k r) := fun i hi => setr_ne (by omega)
theorem frH.rf {h : Nat} {σ : Mem} : frH h σ σ := fun _ _ => rfl
def tdn (r : Nat → Int32) : Nat → Int32 := if r 0 = 1 then upd r 2 (if r 2 + 100 < 900 then r 2 + 100 else 900) else upd r 1 (if r 1 + 1 < 99999 then r 1 + 1 else 99999)
theorem tdn_C {h : Nat} {σ : Mem} : f_X1_tellDown h σ = some ((), setr σ h (tdn (σ h))) := by
  unfold f_X1_tellDown tdn
  split <;> rfl
section HOU
variable {h : Nat} {σ : Mem} {N : Nat → Int32} {S : Int32}
theorem step_C (hR : Rh h σ N) (hI : Inv N) {k : Nat} (hk : k < hg N) : ∃ (b : Int32) (σ1 : Mem), f_X0_passBeat (h + 3 + 1 + k) S (σ h 0) σ = some (b, σ1) ∧ ((b = 0 ∧ Rh h σ1 (plN N k S) ∧ frH h σ σ1) ∨ (¬ b = 0 ∧ ∃ σ2, f_X1_tellDown h σ1 = some ((), σ2) ∧ Rh h σ2 (plN N k S) ∧ frH h σ σ2)) := by
  obtain ⟨⟨r0, r1, r2, r3, r4, r5⟩, rl, rs, rc⟩ := hR
  have h8 := hI.hung.2
  have hck := hI.2.2.2.2.2.2 k hk
  have hF := hI.2.2.1
  have ag : ∀ f, f < 6 → σ (h + 3 + 1 + k) f = cur N k f := fun f hf => rc k f hk hf
  have hkd : rg (σ (h + 3 + 1 + k) 0) 6 := by rw [ag 0 (by decide)]; exact hck.1
  have e1 : hg (plN N k S) = hg N := by unfold hg; rw [pl_lo (by decide) (by decide) (by decide)]
  have ecur : ∀ f, f < 6 → pla (σ (h + 3 + 1 + k)) S (σ h 0) f = cur (plN N k S) k f := by
    intro f hf
    rw [pl_cur hF, r0]
    exact cg_pla ag f hf
  have ecam : cam (σ (h + 3 + 1 + k)) S (σ h 0) ↔ cam (cur N k) S (N 3) := by
    rw [r0]; exact cg_cam ag
  refine ⟨_, _, pla_C hkd, ?_⟩
  have cells : ∀ τ : Mem, (∀ i, i ≠ h → τ i = setr σ (h + 3 + 1 + k) (pla (σ (h + 3 + 1 + k)) S (σ h 0)) i) → (∀ i, i < 6 → τ (h + 1) i = plN N k S (6 + i)) ∧ (∀ s, s < 10 → τ (h + 2) s = plN N k S (12 + s)) ∧ (∀ c f, c < hg (plN N k S) → f < 6 → τ (h + 3 + 1 + c) f = cur (plN N k S) c f) := by
    intro τ hτ
    refine ⟨fun i hi => ?_, fun s hs => ?_, fun c f hc hf => ?_⟩
    · rw [hτ _ (by omega), setr_ne (by omega), pl_lo (by omega) (by omega) (by omega)]; exact rl i hi
    · rw [hτ _ (by omega), setr_ne (by omega), pl_lo (by omega) (by omega) (by omega)]; exact rs s hs
    · rw [e1] at hc
      rw [hτ _ (by omega)]
      by_cases hck2 : c = k
      · subst hck2
        rw [setr_same]; exact ecur f hf
      · rw [setr_ne (by omega), pl_curn hck2 hf]; exact rc c f hc hf
  by_cases hc : cam (cur N k) S (N 3)
  · right
    rw [if_pos (ecam.mpr hc)]
    refine ⟨by decide, _, tdn_C, ?_, (frH.set (by omega) (by omega)).tr (frH.set (by omega) (by omega))⟩
    have eh : setr σ (h + 3 + 1 + k) (pla (σ (h + 3 + 1 + k)) S (σ h 0)) h = σ h := setr_ne (by omega)
    rw [eh]
    refine ⟨?_, cells _ (fun i hi => setr_ne hi)⟩
    rw [setr_same]
    unfold tdn
    rw [r0]
    by_cases hF1 : N 3 = 1
    · have hp : cam (cur N k) S (N 3) ∧ N 3 = 1 := ⟨hc, hF1⟩
      have hn : ¬ (cam (cur N k) S (N 3) ∧ ¬ N 3 = 1) := fun q => q.2 hF1
      rw [if_pos hF1, pl_4, pl_5, if_pos hp, if_neg hn, pl_lo (by decide) (by decide) (by decide), pl_lo (by decide) (by decide) (by decide), pl_lo (by decide) (by decide) (by decide), pl_lo (by decide) (by decide) (by decide)]
      refine ⟨r0, r1, ?_, r3, r4, r5⟩
      rw [upd_s, r2]
    · have hn : ¬ (cam (cur N k) S (N 3) ∧ N 3 = 1) := fun q => hF1 q.2
      have hp : cam (cur N k) S (N 3) ∧ ¬ N 3 = 1 := ⟨hc, hF1⟩
      rw [if_neg hF1, pl_4, pl_5, if_neg hn, if_pos hp, pl_lo (by decide) (by decide) (by decide), pl_lo (by decide) (by decide) (by decide), pl_lo (by decide) (by decide) (by decide), pl_lo (by decide) (by decide) (by decide)]
      refine ⟨r0, ?_, r2, r3, r4, r5⟩
      rw [upd_s, r1]
  · left
    rw [if_neg (fun q => hc (ecam.mp q))]
    have hn1 : ¬ (cam (cur N k) S (N 3) ∧ N 3 = 1) := fun q => hc q.1
    have hn2 : ¬ (cam (cur N k) S (N 3) ∧ ¬ N 3 = 1) := fun q => hc q.1
    refine ⟨rfl, ⟨?_, cells _ (fun i _ => rfl)⟩, frH.set (by omega) (by omega)⟩
    rw [setr_ne (by omega), pl_4, pl_5, if_neg hn1, if_neg hn2, pl_lo (by decide) (by decide) (by decide), pl_lo (by decide) (by decide) (by decide), pl_lo (by decide) (by decide) (by decide), pl_lo (by decide) (by decide) (by decide)]
    exact ⟨r0, r1, r2, r3, r4, r5⟩
theorem pb_L (hI : Inv N) : ∀ (n k : Nat) (σ : Mem), k ≤ hg N → hg N - k < n → Rh h σ (plsN N S k) → ∃ σ', f_X1_passBeat_L8 n h S (nI k) σ = some ((), σ') ∧ Rh h σ' (upd (plsN N S (hg N)) 0 (if N 0 + 1 < 99999 then N 0 + 1 else 99999)) ∧ frH h σ σ' := by
  intro n
  obtain ⟨hh, hh8⟩ := hI.hung
  induction n with
  | zero => intro k σ _ h2 _; omega
  | succ n ih =>
    intro k σ hk hn hR
    have e1 : σ h 5 = nI (hg N) := by rw [hR.1.2.2.2.2.2, pls_lo (by decide) (by decide) (by decide)]; exact hh
    rw [f_X1_passBeat_L8_s, e1]
    rcases Nat.lt_or_ge k (hg N) with q | q
    · rw [if_neg (nle_of q (by omega)), vI_at rfl (by omega) (by decide)]
      obtain ⟨b, σ1, g1, g2⟩ := step_C (S := S) hR (pls_Inv hI k) (by rw [pls_hg]; exact q)
      rw [g1, vC_s]
      unfold f_X1_passBeat_J37
      rcases g2 with ⟨g3, g4, g5⟩ | ⟨g3, σ2, g4, g5, g6⟩
      · rw [if_pos g3, vL_e, show nI k + 1 = nI (k + 1) from nI_1 k]
        obtain ⟨σ', h1, h2, h3⟩ := ih (k + 1) σ1 q (by omega) g4
        exact ⟨σ', h1, h2, g5.tr h3⟩
      · rw [if_neg g3, g4, vC_s, vL_e, show nI k + 1 = nI (k + 1) from nI_1 k]
        obtain ⟨σ', h1, h2, h3⟩ := ih (k + 1) σ2 q (by omega) g5
        exact ⟨σ', h1, h2, g6.tr h3⟩
    · have hke : k = hg N := by omega
      rw [if_pos (nI_le q (by omega)), vW_e]
      subst hke
      obtain ⟨⟨r0, r1, r2, r3, r4, r5⟩, rl, rs, rc⟩ := hR
      refine ⟨_, rfl, ⟨?_, fun i hi => ?_, fun s hs => ?_, fun c f hc hf => ?_⟩, frH.set (by omega) (by omega)⟩
      · rw [up2_s]
        refine ⟨r0, r1, r2, ?_, r4, r5⟩
        rw [upd_s, upd_s, r3, pls_lo (by decide) (by decide) (by decide)]
      · rw [up2_n (by omega), upd_n (by omega)]; exact rl i hi
      · rw [up2_n (by omega), upd_n (by omega)]; exact rs s hs
      · rw [up2_n (by omega), cur_lo0]
        refine rc c f ?_ hf
        have : hg (upd (plsN N S (hg N)) 0 (if N 0 + 1 < 99999 then N 0 + 1 else 99999)) = hg (plsN N S (hg N)) := by
          unfold hg; rw [upd_n (by decide)]
        rw [this] at hc; exact hc
theorem min_beat {b k : Nat} (hb : b ≤ 99999) (hk : k ≤ 1000) : (if nI b + nI k < 99999 then nI b + nI k else 99999) = nI (min (b + k) 99999) := by
  rw [nI_add, show (99999 : Int32) = nI 99999 from rfl]
  by_cases c : b + k < 99999
  · rw [if_pos (nI_lt c (by decide)), Nat.min_eq_left (by omega)]
  · rw [if_neg (nI_nlt (by omega) (by omega)), Nat.min_eq_right (by omega)]
theorem pi_C (hR : Rh h σ N) {b : Nat} (hb : b ≤ 99999) (e : N 0 = nI b) {k : Nat} (hk : k ≤ 1000) : f_X1_placeIn h (nI k) σ = some (nI (min (b + k) 99999 % 6), σ) := by
  unfold f_X1_placeIn
  rw [hR.1.2.2.2.1, e, min_beat hb hk, place_e (by omega)]
theorem si_C (hR : Rh h σ N) {b : Nat} (hb : b ≤ 99999) (e : N 0 = nI b) {k : Nat} (hk : k ≤ 1000) : f_X1_sceneIn h (nI k) σ = some (N (6 + min (b + k) 99999 % 6), σ) := by
  unfold f_X1_sceneIn
  rw [pi_C hR hb e hk, vC_s, vI_at rfl (by omega) (by decide), hR.2.1 _ (by omega)]
theorem si0_C (hR : Rh h σ N) (hI : Inv N) : f_X1_sceneIn h 0 σ = some (scN N, σ) := by
  obtain ⟨b, hb, e⟩ := hI.beat
  have h1 := si_C hR hb e (k := 0) (by decide)
  have h2 : f_X1_sceneIn h 0 σ = f_X1_sceneIn h (nI 0) σ := rfl
  rw [h2, h1]
  unfold scN
  rw [e, nI_clamp (by omega), Nat.min_eq_left (by omega), Nat.add_zero]
theorem pb_C (hR : Rh h σ N) (hI : Inv N) : ∃ σ', f_X1_passBeat h σ = some ((), σ') ∧ Rh h σ' (beN N) ∧ frH h σ σ' := by
  unfold f_X1_passBeat
  rw [si0_C hR hI, vC_s, vL_e, vL_e]
  exact pb_L hI FU 0 σ (Nat.zero_le _) (FU_gt (by have := hI.hung.2; omega)) hR
theorem pbs_L (hI : Inv N) {x : Nat} (hx : x < 10000) : ∀ (n k : Nat) (σ : Mem), k ≤ x → x - k < n → Rh h σ (bgN N k) → ∃ σ', f_X1_passBeats_L2 n h (nI x) (nI k) σ = some ((), σ') ∧ Rh h σ' (bgN N x) ∧ frH h σ σ' := by
  intro n
  induction n with
  | zero => intro k σ _ h2 _; omega
  | succ n ih =>
    intro k σ hk hn hR
    rw [f_X1_passBeats_L2_s]
    rcases Nat.lt_or_ge k x with q | q
    · obtain ⟨σ1, g1, g2, g3⟩ := pb_C hR (bg_Inv hI k)
      rw [if_neg (nle_of q (by omega)), g1, vC_s, vL_e, show nI k + 1 = nI (k + 1) from nI_1 k]
      obtain ⟨σ', h1, h2, h3⟩ := ih (k + 1) σ1 q (by omega) g2
      exact ⟨σ', h1, h2, g3.tr h3⟩
    · have hke : k = x := by omega
      rw [if_pos (nI_le q (by omega)), ← hke]
      exact ⟨σ, rfl, hR, frH.rf⟩
theorem pbs_C (hR : Rh h σ N) (hI : Inv N) {x : Nat} (hx : x < 10000) : ∃ σ', f_X1_passBeats h (nI x) σ = some ((), σ') ∧ Rh h σ' (bgN N x) ∧ frH h σ σ' := by
  unfold f_X1_passBeats
  rw [vL_e]
  exact pbs_L hI hx FU 0 σ (Nat.zero_le _) (FU_gt (by omega)) hR
end HOU
