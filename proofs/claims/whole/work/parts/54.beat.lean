/-! A BEAT of the row, and of a house that holds the same -/
def hg (N : Nat → Int32) : Nat := (N 1).toNatClampNeg
def plsN (N : Nat → Int32) (S : Int32) : Nat → (Nat → Int32)
  | 0 => N
  | k + 1 => plN (plsN N S k) k S
def scN (N : Nat → Int32) : Int32 := N (6 + (N 0).toNatClampNeg % 6)
def beN (N : Nat → Int32) : Nat → Int32 := upd (plsN N (scN N) (hg N)) 0 (if N 0 + 1 < 99999 then N 0 + 1 else 99999)
def bgN (N : Nat → Int32) : Nat → (Nat → Int32)
  | 0 => N
  | k + 1 => beN (bgN N k)
/-- what a row keeps to -/
def Inv (N : Nat → Int32) : Prop := rg (N 0) 99999 ∧ rg (N 1) 8 ∧ (N 3 = 0 ∨ N 3 = 1) ∧ rg (N 4) 99999 ∧ rg (N 5) 900 ∧ (∀ s, s < 10 → N (12 + s) = -1 ∨ ∃ c, c < hg N ∧ N (12 + s) = nI c) ∧ (∀ c, c < hg N → rg (cur N c 0) 6 ∧ rg (cur N c 2) 4095)
theorem Inv.hung {N : Nat → Int32} (h : Inv N) : N 1 = nI (hg N) ∧ hg N ≤ 8 := by
  obtain ⟨k, hk, e⟩ := h.2.1
  unfold hg
  rw [e, nI_clamp (by omega)]
  exact ⟨rfl, hk⟩
theorem Inv.beat {N : Nat → Int32} (h : Inv N) : ∃ b, b ≤ 99999 ∧ N 0 = nI b := h.1
theorem cd_keep {N : Nat → Int32} {i p : Nat} (h4 : p ≠ 4) (h5 : p ≠ 5) (h : p ≠ 22 + 6 * i + 1) (h' : p ≠ 22 + 6 * i + 5) : cdN N i p = N p := by
  unfold cdN
  split
  · rw [upd_n h5, upd_n h']
  · rw [upd_n h, upd_n h4, upd_n h']
theorem pl_keep {N : Nat → Int32} {i p : Nat} {S : Int32} (h4 : p ≠ 4) (h5 : p ≠ 5) (h : p ≠ 22 + 6 * i + 1) (h3 : p ≠ 22 + 6 * i + 3) (h' : p ≠ 22 + 6 * i + 5) : plN N i S p = N p := by
  have e1 : feN N i S p = N p := upd_n h
  have e2 : mvN (feN N i S) i p = N p := (upd_n h3).trans e1
  unfold plN
  split
  · exact e1
  · split
    · rw [cd_keep h4 h5 h h']; exact e2
    · exact e2
theorem pl_lo {N : Nat → Int32} {i p : Nat} {S : Int32} (hp : p < 22) (h4 : p ≠ 4) (h5 : p ≠ 5) : plN N i S p = N p := pl_keep h4 h5 (by omega) (by omega) (by omega)
theorem pl_curn {N : Nat → Int32} {i j f : Nat} {S : Int32} (hij : j ≠ i) (hf : f < 6) : cur (plN N i S) j f = cur N j f := pl_keep (by omega) (by omega) (by omega) (by omega) (by omega)
theorem pl_cure {N : Nat → Int32} {i j f : Nat} {S : Int32} (hf : f = 0 ∨ f = 2 ∨ f = 4) : cur (plN N i S) j f = cur N j f := pl_keep (by omega) (by omega) (by omega) (by omega) (by omega)
theorem pl_cur {N : Nat → Int32} {i : Nat} {S : Int32} (hF : N 3 = 0 ∨ N 3 = 1) : cur (plN N i S) i = pla (cur N i) S (N 3) := by
  unfold plN pla
  split
  · exact fe_cur
  · split
    · unfold cdN dwn dn1
      rw [mv_lo (by decide), fe_lo (by decide)]
      rcases hF with e | e
      · rw [if_neg (by rw [e]; decide), if_pos e, cur_upd, cur_lo (by decide), cur_upd, mv_cur, fe_cur, fe_lo (by decide)]
      · have e0 : ¬ N 3 = 0 := by rw [e]; decide
        rw [if_pos e, if_neg e0, cur_lo (by decide), cur_upd, mv_cur, fe_cur, fe_lo (by decide)]
    · rw [mv_cur, fe_cur, fe_lo (by decide)]
theorem pl_4 {N : Nat → Int32} {i : Nat} {S : Int32} : plN N i S 4 = if cam (cur N i) S (N 3) ∧ ¬ N 3 = 1 then (if N 4 + 1 < 99999 then N 4 + 1 else 99999) else N 4 := by
  have e1 : feN N i S 4 = N 4 := upd_n (by omega)
  have e2 : mvN (feN N i S) i 4 = N 4 := (upd_n (by omega)).trans e1
  have e3 : mvN (feN N i S) i 3 = N 3 := by rw [mv_lo (by decide), fe_lo (by decide)]
  unfold plN
  by_cases ht : cur N i 4 = 1
  · rw [if_pos ht, e1, if_neg (fun q => q.1.1 ht)]
  · rw [if_neg ht]
    by_cases hc : cam (cur N i) S (N 3)
    · rw [if_pos hc]
      unfold cdN
      rw [e3]
      by_cases hF : N 3 = 1
      · have hn : ¬ (cam (cur N i) S (N 3) ∧ ¬ N 3 = 1) := fun q => q.2 hF
        rw [if_pos hF, if_neg hn, upd_n (by decide), upd_n (by omega), e2]
      · have hp : cam (cur N i) S (N 3) ∧ ¬ N 3 = 1 := ⟨hc, hF⟩
        rw [if_neg hF, if_pos hp, upd_n (by omega), upd_s, e2]
    · rw [if_neg hc, if_neg (fun q => hc q.1), e2]
theorem pl_5 {N : Nat → Int32} {i : Nat} {S : Int32} : plN N i S 5 = if cam (cur N i) S (N 3) ∧ N 3 = 1 then (if N 5 + 100 < 900 then N 5 + 100 else 900) else N 5 := by
  have e1 : feN N i S 5 = N 5 := upd_n (by omega)
  have e2 : mvN (feN N i S) i 5 = N 5 := (upd_n (by omega)).trans e1
  have e3 : mvN (feN N i S) i 3 = N 3 := by rw [mv_lo (by decide), fe_lo (by decide)]
  unfold plN
  by_cases ht : cur N i 4 = 1
  · rw [if_pos ht, e1, if_neg (fun q => q.1.1 ht)]
  · rw [if_neg ht]
    by_cases hc : cam (cur N i) S (N 3)
    · rw [if_pos hc]
      unfold cdN
      rw [e3]
      by_cases hF : N 3 = 1
      · have hp : cam (cur N i) S (N 3) ∧ N 3 = 1 := ⟨hc, hF⟩
        rw [if_pos hF, if_pos hp, upd_s, e2]
      · have hn : ¬ (cam (cur N i) S (N 3) ∧ N 3 = 1) := fun q => hF q.2
        rw [if_neg hF, if_neg hn, upd_n (by omega), upd_n (by decide), upd_n (by omega), e2]
    · rw [if_neg hc, if_neg (fun q => hc q.1), e2]
theorem pls_lo {N : Nat → Int32} {S : Int32} {p : Nat} (hp : p < 22) (h4 : p ≠ 4) (h5 : p ≠ 5) : ∀ k, plsN N S k p = N p := by
  intro k
  induction k with
  | zero => rfl
  | succ k ih => exact (pl_lo hp h4 h5).trans ih
theorem pls_cure {N : Nat → Int32} {S : Int32} {j f : Nat} (hf : f = 0 ∨ f = 2 ∨ f = 4) : ∀ k, cur (plsN N S k) j f = cur N j f := by
  intro k
  induction k with
  | zero => rfl
  | succ k ih => exact (pl_cure hf).trans ih
theorem pls_hg {N : Nat → Int32} {S : Int32} {k : Nat} : hg (plsN N S k) = hg N := by
  unfold hg
  rw [pls_lo (by decide) (by decide) (by decide)]
theorem more_rg {x y : Int32} {a b m : Nat} (hx : rg x a) (hy : y = nI b) (ha : a + b < 2 ^ 31) (hm : m < 2 ^ 31) : rg (if x + y < nI m then x + y else nI m) m := by
  obtain ⟨k, hk, rfl⟩ := hx
  subst hy
  rw [nI_add]
  split
  · rename_i h
    exact ⟨k + b, by have := (nI_ltI (by omega) hm).mp h; omega, rfl⟩
  · exact ⟨m, Nat.le_refl _, rfl⟩
theorem pl_Inv {N : Nat → Int32} {i : Nat} {S : Int32} (h : Inv N) : Inv (plN N i S) := by
  have e1 : hg (plN N i S) = hg N := by unfold hg; rw [pl_lo (by decide) (by decide) (by decide)]
  obtain ⟨h0, h1, h3, h4, h5, hs, hc⟩ := h
  refine ⟨?_, ?_, ?_, ?_, ?_, fun s hs9 => ?_, fun c hcc => ?_⟩
  · rw [pl_lo (by decide) (by decide) (by decide)]; exact h0
  · rw [pl_lo (by decide) (by decide) (by decide)]; exact h1
  · rw [pl_lo (by decide) (by decide) (by decide)]; exact h3
  · rw [pl_4]
    split
    · exact more_rg (m := 99999) (b := 1) h4 rfl (by decide) (by decide)
    · exact h4
  · rw [pl_5]
    split
    · exact more_rg (m := 900) (b := 100) h5 rfl (by decide) (by decide)
    · exact h5
  · rw [pl_lo (by omega) (by omega) (by omega), e1]; exact hs s hs9
  · rw [e1] at hcc
    rw [pl_cure (Or.inl rfl), pl_cure (Or.inr (Or.inl rfl))]
    exact hc c hcc
theorem pls_Inv {N : Nat → Int32} {S : Int32} (h : Inv N) : ∀ k, Inv (plsN N S k) := by
  intro k
  induction k with
  | zero => exact h
  | succ k ih => exact pl_Inv ih
theorem cur_lo0 {N : Nat → Int32} {c : Nat} {v : Int32} : cur (upd N 0 v) c = cur N c := cur_lo (by decide)
theorem be_hg {N : Nat → Int32} : hg (beN N) = hg N := by
  unfold hg beN
  rw [upd_n (by decide), pls_lo (by decide) (by decide) (by decide)]
theorem be_Inv {N : Nat → Int32} (h : Inv N) : Inv (beN N) := by
  have h2 := pls_Inv (S := scN N) h (hg N)
  have e1 : hg (beN N) = hg N := be_hg
  have e2 : hg (plsN N (scN N) (hg N)) = hg N := pls_hg
  obtain ⟨h0, h1, h3, h4, h5, hs, hc⟩ := h2
  unfold beN at e1 ⊢
  refine ⟨?_, ?_, ?_, ?_, ?_, fun s hs9 => ?_, fun c hcc => ?_⟩
  · rw [upd_s]
    exact more_rg (m := 99999) (b := 1) h.1 rfl (by decide) (by decide)
  · rw [upd_n (by decide)]; exact h1
  · rw [upd_n (by decide)]; exact h3
  · rw [upd_n (by decide)]; exact h4
  · rw [upd_n (by decide)]; exact h5
  · rw [upd_n (by omega), e1]; rw [e2] at hs; exact hs s hs9
  · rw [e1] at hcc
    rw [cur_lo0]
    rw [e2] at hc; exact hc c hcc
theorem bg_Inv {N : Nat → Int32} (h : Inv N) : ∀ k, Inv (bgN N k) := by
  intro k
  induction k with
  | zero => exact h
  | succ k ih => exact be_Inv ih
theorem bg_hg {N : Nat → Int32} : ∀ k, hg (bgN N k) = hg N := by
  intro k
  induction k with
  | zero => rfl
  | succ k ih => exact be_hg.trans ih
theorem nle_of {a b : Nat} (h : a < b) (hb : b < 2 ^ 31) : ¬ nI b ≤ nI a := nI_ge h hb
/-- the place of the list that a beat plays -/
theorem place_e {b : Nat} (hb : b ≤ 99999) : nI b - nI b / 6 * 6 = nI (b % 6) := by
  have := pk_rem (a := b) (d := 6) (by omega) (by decide) (by decide)
  exact this
theorem pn_M {μ : Mem} (h : Inv (μ 51)) : f_X5_placeNow μ = some (nI (6 + (μ 51 0).toNatClampNeg % 6), μ) := by
  obtain ⟨b, hb, e⟩ := h.beat
  unfold f_X5_placeNow
  rw [vI_at (x := 0) (j := 0) rfl (by decide) (by decide), e, place_e hb, nI_clamp (by omega)]
  rw [show (6 : Int32) = nI 6 from rfl, nI_add]
theorem be_L {S : Int32} {N : Nat → Int32} (h : Inv N) : ∀ (n k : Nat) (μ : Mem), k ≤ hg N → hg N - k < n → μ 51 = plsN N S k → f_X5_beat_L12 n S (nI k) μ = some ((), setr μ 51 (upd (plsN N S (hg N)) 0 (if N 0 + 1 < 99999 then N 0 + 1 else 99999))) := by
  intro n
  obtain ⟨hh, hh8⟩ := h.hung
  induction n with
  | zero => intro k μ _ h2 _; omega
  | succ n ih =>
    intro k μ hk hn hμ
    have e1 : μ 51 1 = nI (hg N) := by rw [hμ, pls_lo (by decide) (by decide) (by decide)]; exact hh
    rw [f_X5_beat_L12_s, vI_at (x := 1) (j := 1) rfl (by decide) (by decide), e1]
    rcases Nat.lt_or_ge k (hg N) with q | q
    · rw [if_neg (nle_of q (by omega))]
      have hIk := pls_Inv (S := S) h k
      have hck := hIk.2.2.2.2.2.2 k (by rw [pls_hg]; exact q)
      rw [pl_M (by omega) (by rw [hμ]; exact hck.1) (by rw [hμ]; exact hck.2), vC_s, vL_e, show nI k + 1 = nI (k + 1) from nI_1 k]
      rw [ih (k + 1) _ q (by omega) (by rw [setr_same, hμ]; rfl), setr_setr]
    · have hke : k = hg N := by omega
      rw [if_pos (nI_le q (by omega)), more_M (p := 0) (x1 := 0) rfl (by decide), vC_s, hμ, pls_lo (by decide) (by decide) (by decide), hke]
theorem be_M {μ : Mem} (h : Inv (μ 51)) : f_X5_beat μ = some ((), setr μ 51 (beN (μ 51))) := by
  unfold f_X5_beat
  rw [pn_M h, vC_s, vI_at rfl (by omega) (by decide), vL_e, vL_e]
  exact be_L h FU 0 μ (Nat.zero_le _) (FU_gt (by have := h.hung.2; omega)) rfl
theorem bg_L {N : Nat → Int32} (h : Inv N) {x : Nat} (hx : x < 10000) : ∀ (n k : Nat) (μ : Mem), k ≤ x → x - k < n → μ 51 = bgN N k → f_X5_beatsGo_L2 n (nI x) (nI k) μ = some ((), setr μ 51 (bgN N x)) := by
  intro n
  induction n with
  | zero => intro k μ _ h2 _; omega
  | succ n ih =>
    intro k μ hk hn hμ
    rw [f_X5_beatsGo_L2_s]
    rcases Nat.lt_or_ge k x with q | q
    · rw [if_neg (nle_of q (by omega)), be_M (by rw [hμ]; exact bg_Inv h k), vC_s, vL_e, show nI k + 1 = nI (k + 1) from nI_1 k]
      rw [ih (k + 1) _ q (by omega) (by rw [setr_same, hμ]; rfl), setr_setr]
    · have hke : k = x := by omega
      rw [if_pos (nI_le q (by omega)), ← hke, ← hμ, setr_self]
theorem bg_M {μ : Mem} (h : Inv (μ 51)) {x : Nat} (hx : x < 10000) : f_X5_beatsGo (nI x) μ = some ((), setr μ 51 (bgN (μ 51) x)) := by
  unfold f_X5_beatsGo
  rw [vL_e]
  exact bg_L h hx FU 0 μ (Nat.zero_le _) (FU_gt (by omega)) rfl
