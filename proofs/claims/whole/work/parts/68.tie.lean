/-! 20 please -/
def plB (N : Nat → Int32) (S : Int32) : Nat → Bool
  | 0 => true
  | k + 1 => plB N S k && (decide (cur N k 2 = 0) || !decide (cur N k 2 &&& S = 0))
theorem plB_f {N : Nat → Int32} {S : Int32} {k : Nat} (h : plB N S k = false) : ∀ m, k ≤ m → plB N S m = false := by
  intro m
  induction m with
  | zero => intro hk; rw [show k = 0 by omega] at h; exact h
  | succ m ih =>
    intro hk
    by_cases e : k = m + 1
    · rw [← e]; exact h
    · show (plB N S m && _) = false
      rw [ih (by omega)]
      rfl
theorem plC {σ : Mem} {N : Nat → Int32} {S : Int32} (hR : Rh 1 σ N) (hI : Inv N) : ∀ n k, k ≤ hg N → hg N - k < n → plB N S k = true → f_X1_isPleasedBy_L2 n 1 S (nI k) σ = some (if plB N S (hg N) = true then 1 else 0, σ) := by
  intro n
  obtain ⟨hh, h8⟩ := hI.hung
  induction n with
  | zero => intro k _ h; omega
  | succ n ih =>
    intro k hk hn hp
    rw [f_X1_isPleasedBy_L2_s, hR.1.2.2.2.2.2, hh]
    unfold f_X1_isPleasedBy_J32
    rcases Nat.lt_or_ge k (hg N) with q | q
    · rw [if_neg (nle_of q (by omega)), vI_at rfl (by omega) (by decide), vL_e, vL_e, hR.2.2.2 k 2 q (by decide), show nI k + 1 = nI (k + 1) from nI_1 k]
      have hs : plB N S (k + 1) = (plB N S k && (decide (cur N k 2 = 0) || !decide (cur N k 2 &&& S = 0))) := rfl
      rw [hp, Bool.true_and] at hs
      by_cases c : cur N k 2 = 0
      · rw [if_pos c]
        exact ih (k + 1) q (by omega) (by rw [hs, decide_eq_true c]; rfl)
      · rw [if_neg c]
        by_cases d : cur N k 2 &&& S = 0
        · rw [if_pos d]
          have : plB N S (hg N) = false := plB_f (k := k + 1) (by rw [hs, decide_eq_false c, decide_eq_true d]; rfl) _ q
          rw [this]
          rfl
        · rw [if_neg d]
          exact ih (k + 1) q (by omega) (by rw [hs, decide_eq_false c, decide_eq_false d]; rfl)
    · rw [if_pos (nI_le q (by omega))]
      have : k = hg N := by omega
      subst this
      rw [if_pos hp]
theorem plM {μ : Mem} {S : Int32} (hI : Inv (μ 51)) : ∀ n k, k ≤ hg (μ 51) → hg (μ 51) - k < n → f_X5_pleases_L4 n S (if plB (μ 51) S k = true then 1 else 0) (nI k) μ = some (if plB (μ 51) S (hg (μ 51)) = true then 1 else 0, μ) := by
  intro n
  obtain ⟨hh, h8⟩ := hI.hung
  induction n with
  | zero => intro k _ h; omega
  | succ n ih =>
    intro k hk hn
    rw [f_X5_pleases_L4_s, vI_at (x := 1) (j := 1) rfl (by decide) (by decide), hh]
    unfold f_X5_pleases_J42 f_X5_pleases_J38 f_X5_pleases_J43
    simp only [vL_e, show nI k + 1 = nI (k + 1) from nI_1 k]
    rcases Nat.lt_or_ge k (hg (μ 51)) with q | q
    · rw [if_neg (nle_of q (by omega))]
      simp only [cIs2 (i := k) (μ := μ) (show k < 8 by omega), vC_s]
      have hs : plB (μ 51) S (k + 1) = (plB (μ 51) S k && (decide (cur (μ 51) k 2 = 0) || !decide (cur (μ 51) k 2 &&& S = 0))) := rfl
      have ih' := ih (k + 1) q (by omega)
      by_cases p : plB (μ 51) S k = true
      · rw [if_pos p, if_neg n10]
        rw [p, Bool.true_and] at hs
        by_cases c : cur (μ 51) k 2 = 0
        · rw [if_pos c]
          rw [hs, decide_eq_true c] at ih'
          exact ih'
        · rw [if_neg c]
          by_cases d : cur (μ 51) k 2 &&& S = 0
          · rw [if_pos d]
            rw [hs, decide_eq_false c, decide_eq_true d] at ih'
            exact ih'
          · rw [if_neg d]
            rw [hs, decide_eq_false c, decide_eq_false d] at ih'
            exact ih'
      · rw [if_neg p, if_pos rfl]
        rw [Bool.not_eq_true] at p
        rw [hs, p] at ih'
        exact ih'
    · rw [if_pos (nI_le q (by omega))]
      have : k = hg (μ 51) := by omega
      subst this
      unfold vB
      by_cases p : plB (μ 51) S (hg (μ 51)) = true
      · rw [if_pos p]; rfl
      · rw [if_neg p]; rfl
def bw (k : Nat) : Nat := (bitc (nI k)).toNatClampNeg
theorem bw_e {k : Nat} (h : k < 4096) : bitc (nI k) = nI (bw k) ∧ bw k < 13 := bitc_tab k h
/-- the least set that pleases -/
def BestP (P : Nat → Prop) (B : Nat) : Prop := B < 4096 ∧ P B ∧ ∀ j, j < 4096 → P j → bw B ≤ bw j ∧ (j < B → bw B < bw j)
theorem BestP.uniq {P : Nat → Prop} {A B : Nat} (ha : BestP P A) (hb : BestP P B) : A = B := by
  have h1 := ha.2.2 B hb.1 hb.2.1
  have h2 := hb.2.2 A ha.1 ha.2.1
  rcases Nat.lt_trichotomy A B with q | q | q
  · have := h2.2 q; omega
  · exact q
  · have := h1.2 q; omega
section PLS
variable {N : Nat → Int32}
abbrev Pn (N : Nat → Int32) (j : Nat) : Prop := plB N (nI j) (hg N) = true
theorem Pn_all (hI : Inv N) : Pn N 4095 := by
  have h : ∀ k, k ≤ hg N → plB N (nI 4095) k = true := by
    intro k
    induction k with
    | zero => intro _; rfl
    | succ k ih =>
      intro hk
      show (plB N (nI 4095) k && (decide (cur N k 2 = 0) || !decide (cur N k 2 &&& nI 4095 = 0))) = true
      rw [ih (by omega), Bool.true_and]
      obtain ⟨l, hl, e⟩ := (hI.2.2.2.2.2.2 k (by omega)).2
      rw [e, pk_andN (by omega) 12 (by decide), Nat.mod_eq_of_lt (by omega)]
      by_cases c : nI l = 0
      · rw [decide_eq_true c]; rfl
      · rw [decide_eq_false c]; rfl
  exact h _ (Nat.le_refl _)
theorem asc_L {σ : Mem} (hR : Rh 1 σ N) (hI : Inv N) : ∀ n k best bb, k ≤ 4096 → 4096 - k < n → ((bb = 13 ∧ best = 0 ∧ ∀ j, j < k → ¬ Pn N j) ∨ (best < k ∧ Pn N best ∧ bb = bw best ∧ ∀ j, j < k → Pn N j → bw best ≤ bw j ∧ (j < best → bw best < bw j))) → ∃ B, BestP (Pn N) B ∧ f_X4_please_L7 n (nI best) (nI bb) (nI k) σ = some (nI B, σ) := by
  intro n
  induction n with
  | zero => intro k best bb _ h; omega
  | succ n ih =>
    intro k best bb hk hn hA
    rw [f_X4_please_L7_s, show (4095 : Int32) = nI 4095 from rfl]
    unfold f_X4_please_J42
    simp only [vL_e, show nI k + 1 = nI (k + 1) from nI_1 k]
    rcases Nat.lt_or_ge k 4096 with q | q
    · obtain ⟨b1, b2⟩ := bw_e q
      have hbb : bb ≤ 13 := by
        rcases hA with ⟨a1, a2, a3⟩ | ⟨a1, a2, a3, a4⟩
        · omega
        · have := (bw_e (show best < 4096 by omega)).2; omega
      rw [if_neg (nI_nlt (by omega) (by decide)), bitc_C, vC_s, b1]
      have hp : f_X1_isPleasedBy 1 (nI k) σ = some (if plB N (nI k) (hg N) = true then 1 else 0, σ) := by
        unfold f_X1_isPleasedBy
        rw [vL_e]
        exact plC hR hI FU 0 (Nat.zero_le _) (fu8 hI) rfl
      rw [hp]
      by_cases c : bb ≤ bw k
      · rw [if_pos (nI_le c (by omega))]
        refine ih (k + 1) best bb q (by omega) ?_
        rcases hA with ⟨a1, a2, a3⟩ | ⟨a1, a2, a3, a4⟩
        · omega
        · refine Or.inr ⟨by omega, a2, a3, fun j hj pj => ?_⟩
          by_cases e : j = k
          · subst e; exact ⟨by omega, fun z => by omega⟩
          · exact a4 j (by omega) pj
      · rw [if_neg (nle_of (by omega) (by omega)), vC_s]
        by_cases p : plB N (nI k) (hg N) = true
        · rw [if_pos p, if_neg n10]
          refine ih (k + 1) k (bw k) q (by omega) (Or.inr ⟨by omega, p, rfl, fun j hj pj => ?_⟩)
          by_cases e : j = k
          · subst e; exact ⟨Nat.le_refl _, fun z => by omega⟩
          · rcases hA with ⟨a1, a2, a3⟩ | ⟨a1, a2, a3, a4⟩
            · exact absurd pj (a3 j (by omega))
            · have := a4 j (by omega) pj
              exact ⟨by omega, fun z => by omega⟩
        · rw [if_neg p, if_pos rfl]
          refine ih (k + 1) best bb q (by omega) ?_
          rcases hA with ⟨a1, a2, a3⟩ | ⟨a1, a2, a3, a4⟩
          · refine Or.inl ⟨a1, a2, fun j hj pj => ?_⟩
            by_cases e : j = k
            · subst e; exact p pj
            · exact a3 j (by omega) pj
          · refine Or.inr ⟨by omega, a2, a3, fun j hj pj => ?_⟩
            by_cases e : j = k
            · subst e; exact absurd pj p
            · exact a4 j (by omega) pj
    · have hke : k = 4096 := by omega
      subst hke
      rw [if_pos (nI_lt (by decide) (by decide))]
      rcases hA with ⟨a1, a2, a3⟩ | ⟨a1, a2, a3, a4⟩
      · exact absurd (Pn_all hI) (a3 4095 (by decide))
      · exact ⟨best, ⟨a1, a2, a4⟩, rfl⟩
theorem desc_L {μ : Mem} (hI : Inv (μ 51)) : ∀ n j best, j ≤ 4096 → j < n → best < 4096 → Pn (μ 51) best → (∀ t, j ≤ t → t < 4096 → Pn (μ 51) t → bw best ≤ bw t ∧ (t < best → bw best < bw t)) → ∃ B, BestP (Pn (μ 51)) B ∧ f_X5_please_L8 n (nI best) (nI j + (-1)) μ = some (nI B, μ) := by
  intro n
  induction n with
  | zero => intro j best _ h; omega
  | succ n ih =>
    intro j best hj hn hb pb hD
    rw [f_X5_please_L8_s]
    cases j with
    | zero =>
      rw [if_pos (show nI 0 + (-1) < 0 by decide)]
      exact ⟨best, ⟨hb, pb, fun t ht pt => hD t (Nat.zero_le _) ht pt⟩, rfl⟩
    | succ j =>
      rw [pk_m1, if_neg (nI_pos (by omega)), bitc_M ⟨j, by omega, rfl⟩, vC_s, bitc_M ⟨best, by omega, rfl⟩, vC_s]
      obtain ⟨b1, b2⟩ := bw_e (show j < 4096 by omega)
      obtain ⟨c1, c2⟩ := bw_e hb
      have hp : f_X5_pleases (nI j) μ = some (if plB (μ 51) (nI j) (hg (μ 51)) = true then 1 else 0, μ) := by
        unfold f_X5_pleases
        rw [vL_e, vL_e]
        exact plM hI FU 0 (Nat.zero_le _) (fu8 hI)
      rw [b1, c1, hp]
      unfold f_X5_please_J35 f_X5_please_J36
      simp only [vL_e]
      by_cases c : bw best < bw j
      · rw [if_pos (nI_lt c (by omega))]
        refine ih j best (by omega) (by omega) hb pb (fun t h1 h2 pt => ?_)
        by_cases e : t = j
        · subst e; exact ⟨by omega, fun _ => c⟩
        · exact hD t (by omega) h2 pt
      · rw [if_neg (nI_nlt (by omega) (by omega)), vC_s]
        by_cases p : plB (μ 51) (nI j) (hg (μ 51)) = true
        · rw [if_pos p, if_neg n10]
          refine ih j j (by omega) (by omega) (by omega) p (fun t h1 h2 pt => ?_)
          by_cases e : t = j
          · subst e; exact ⟨Nat.le_refl _, fun z => by omega⟩
          · have := hD t (by omega) h2 pt
            exact ⟨by omega, fun z => by omega⟩
        · rw [if_neg p, if_pos rfl]
          refine ih j best (by omega) (by omega) hb pb (fun t h1 h2 pt => ?_)
          by_cases e : t = j
          · subst e; exact absurd pt p
          · exact hD t (by omega) h2 pt
end PLS
theorem sim20 : Sim20 Rel := by
  intro σ μ h
  unfold f_X4_please f_X5_please
  simp only [vL_e]
  obtain ⟨A, a1, a2⟩ := asc_L h.1 h.2.1 FU 0 0 13 (by decide) (FU_gt (by decide)) (Or.inl ⟨rfl, rfl, fun j hj => by omega⟩)
  obtain ⟨B, b1, b2⟩ := desc_L h.2.1 FU 4096 4095 (by decide) (FU_gt (by decide)) (by decide) (Pn_all h.2.1) (fun t h1 h2 => by omega)
  have a2' : f_X4_please_L7 FU 0 13 0 σ = some (nI A, σ) := a2
  have b2' : f_X5_please_L8 FU 4095 4095 μ = some (nI B, μ) := b2
  rw [a2', b2', a1.uniq b1]
  exact ⟨_, _, _, rfl, rfl, h⟩
/-! 19 tie -/
theorem pls4 {N : Nat → Int32} {S : Int32} {a : Nat} (hI : Inv N) (ha : a ≤ 99999) (e : N 4 = nI a) : ∀ k, ∃ a', plsN N S k 4 = nI a' ∧ a ≤ a' ∧ a' ≤ 99999 ∧ (a' = a ↔ (N 3 = 1 ∨ a = 99999 ∨ ∀ i, i < k → ¬ cam (cur N i) S (N 3))) := by
  intro k
  induction k with
  | zero => exact ⟨a, e, Nat.le_refl _, ha, fun _ => Or.inr (Or.inr (fun i hi => by omega)), fun _ => rfl⟩
  | succ k ih =>
    obtain ⟨a', h1, h2, h3, h4⟩ := ih
    have e3 : plsN N S k 3 = N 3 := pls_lo (by decide) (by decide) (by decide) k
    have ec : cam (cur (plsN N S k) k) S (N 3) ↔ cam (cur N k) S (N 3) := cg_cam (fun f hf => by rw [pls_cur hI.2.2.1 k f hf, if_neg (by omega)])
    have hp : plsN N S (k + 1) 4 = if cam (cur (plsN N S k) k) S (N 3) ∧ ¬ N 3 = 1 then (if nI a' + 1 < 99999 then nI a' + 1 else 99999) else nI a' := by
      show plN (plsN N S k) k S 4 = _
      rw [pl_4, e3, h1]
    by_cases c : cam (cur N k) S (N 3) ∧ ¬ N 3 = 1
    · have hm := min_beat (b := a') (k := 1) h3 (by decide)
      rw [hp, if_pos (show cam (cur (plsN N S k) k) S (N 3) ∧ ¬ N 3 = 1 from ⟨ec.mpr c.1, c.2⟩), show (1 : Int32) = nI 1 from rfl, hm]
      refine ⟨_, rfl, by omega, by omega, fun q => ?_, fun q => ?_⟩
      · exact Or.inr (Or.inl (by omega))
      · rcases q with q | q | q
        · exact absurd q c.2
        · omega
        · exact absurd c.1 (q k (by omega))
    · rw [hp, if_neg (show ¬ (cam (cur (plsN N S k) k) S (N 3) ∧ ¬ N 3 = 1) from fun z => c ⟨ec.mp z.1, z.2⟩)]
      refine ⟨a', rfl, h2, h3, fun q => ?_, fun q => ?_⟩
      · rcases h4.mp q with z | z | z
        · exact Or.inl z
        · exact Or.inr (Or.inl z)
        · by_cases f : N 3 = 1
          · exact Or.inl f
          · refine Or.inr (Or.inr (fun i hi => ?_))
            by_cases g : i = k
            · subst g; exact fun w => c ⟨w, f⟩
            · exact z i (by omega)
      · refine h4.mpr ?_
        rcases q with z | z | z
        · exact Or.inl z
        · exact Or.inr (Or.inl z)
        · exact Or.inr (Or.inr (fun i hi => z i (by omega)))
theorem bg4 {N : Nat → Int32} {a : Nat} (hI : Inv N) (ha : a ≤ 99999) (e : N 4 = nI a) : ∀ x, x ≤ 1000 → ∃ a', bgN N x 4 = nI a' ∧ a ≤ a' ∧ a' ≤ 99999 ∧ (a' = a ↔ (N 3 = 1 ∨ a = 99999 ∨ ∀ t, t < x → ∀ i, i < hg N → ¬ cam (prb N (cur N i) t) (scK N t) (N 3))) := by
  intro x
  induction x with
  | zero => intro _; exact ⟨a, e, Nat.le_refl _, ha, fun _ => Or.inr (Or.inr (fun i hi => by omega)), fun _ => rfl⟩
  | succ x ih =>
    intro hx
    obtain ⟨a', h1, h2, h3, h4⟩ := ih (by omega)
    have hIx := bg_Inv hI x
    have e3 : bgN N x 3 = N 3 := bg_lo (by decide) (by decide) (by decide) (by decide) x
    obtain ⟨a2, g1, g2, g3, g4⟩ := pls4 (S := scN (bgN N x)) hIx h3 h1 (hg (bgN N x))
    rw [bg_hg, e3, bg_sc hI (by omega)] at g4
    have ec : ∀ i, i < hg N → (cam (cur (bgN N x) i) (scK N x) (N 3) ↔ cam (prb N (cur N i) x) (scK N x) (N 3)) := fun i hi => cg_cam (bg_cur hI hi x (by omega))
    refine ⟨a2, ?_, by omega, g3, fun q => ?_, fun q => ?_⟩
    · show beN (bgN N x) 4 = _
      unfold beN
      rw [upd_n (by decide)]; exact g1
    · have q1 : a' = a := by omega
      have q2 : a2 = a' := by omega
      rcases g4.mp q2 with z | z | z
      · exact Or.inl z
      · exact Or.inr (Or.inl (by omega))
      · rcases h4.mp q1 with w | w | w
        · exact Or.inl w
        · exact Or.inr (Or.inl w)
        · refine Or.inr (Or.inr (fun t ht i hi => ?_))
          by_cases f : t = x
          · subst f; exact fun v => z i hi ((ec i hi).mpr v)
          · exact w t (by omega) i hi
    · have q1 : a' = a := h4.mpr (by
        rcases q with z | z | z
        · exact Or.inl z
        · exact Or.inr (Or.inl z)
        · exact Or.inr (Or.inr (fun t ht i hi => z t (by omega) i hi)))
      have q2 : a2 = a' := g4.mpr (by
        rcases q with z | z | z
        · exact Or.inl z
        · exact Or.inr (Or.inl (by omega))
        · exact Or.inr (Or.inr (fun i hi v => z x (by omega) i hi ((ec i hi).mp v))))
      omega
theorem pct_n {N c : Nat → Int32} : ∀ x, x ≤ 1000 → ∃ m, m ≤ x ∧ pct N c x = nI m ∧ (m = 0 ↔ ∀ t, t < x → ¬ (cam (prb N c t) (scK N t) (N 3) ∧ N 3 = 0)) := by
  intro x
  induction x with
  | zero => intro _; exact ⟨0, Nat.le_refl _, rfl, fun _ t ht => by omega, fun _ => rfl⟩
  | succ x ih =>
    intro hx
    obtain ⟨m, h1, h2, h3⟩ := ih (by omega)
    have hp : pct N c (x + 1) = if cam (prb N c x) (scK N x) (N 3) ∧ N 3 = 0 then pct N c x + 1 else pct N c x := rfl
    by_cases q : cam (prb N c x) (scK N x) (N 3) ∧ N 3 = 0
    · rw [hp, if_pos q, h2, show nI m + 1 = nI (m + 1) from nI_1 m]
      exact ⟨m + 1, by omega, rfl, fun z => by omega, fun z => absurd q (z x (by omega))⟩
    · rw [hp, if_neg q, h2]
      refine ⟨m, by omega, rfl, fun z t ht => ?_, fun z => h3.mpr (fun t ht => z t (by omega))⟩
      by_cases f : t = x
      · subst f; exact q
      · exact h3.mp z t (by omega)
/-- the set tied -/
def tyN (N : Nat → Int32) (s : Nat) : Nat → (Nat → Int32)
  | 0 => N
  | k + 1 => if s.testBit k = true then upd (tyN N s k) (22 + 6 * k + 4) 1 else tyN N s k
theorem ty_lo {N : Nat → Int32} {s p : Nat} (hp : p < 22) : ∀ k, tyN N s k p = N p := by
  intro k
  induction k with
  | zero => rfl
  | succ k ih =>
    show (if s.testBit k = true then upd (tyN N s k) (22 + 6 * k + 4) 1 else tyN N s k) p = N p
    split
    · rw [upd_n (by omega)]; exact ih
    · exact ih
theorem ty_cur {N : Nat → Int32} {s i : Nat} : ∀ k f, f < 6 → cur (tyN N s k) i f = if i < k ∧ s.testBit i = true then upd (cur N i) 4 1 f else cur N i f := by
  intro k
  induction k with
  | zero => intro f _; rw [if_neg (fun z => by omega)]; rfl
  | succ k ih =>
    intro f hf
    have hs : tyN N s (k + 1) = if s.testBit k = true then upd (tyN N s k) (22 + 6 * k + 4) 1 else tyN N s k := rfl
    by_cases q : s.testBit k = true
    · rw [hs, if_pos q]
      by_cases e : i = k
      · subst e
        rw [if_pos ⟨by omega, q⟩, cur_upd]
        by_cases f4 : f = 4
        · subst f4; rw [upd_s, upd_s]
        · rw [upd_n f4, upd_n f4, ih f hf, if_neg (fun z => by omega)]
      · rw [cur_ne e (by decide) hf, ih f hf]
        by_cases z : i < k ∧ s.testBit i = true
        · rw [if_pos z, if_pos ⟨by omega, z.2⟩]
        · rw [if_neg z, if_neg (fun w => z ⟨by omega, w.2⟩)]
    · rw [hs, if_neg q, ih f hf]
      by_cases z : i < k ∧ s.testBit i = true
      · rw [if_pos z, if_pos ⟨by omega, z.2⟩]
      · rw [if_neg z, if_neg (fun w => by
          by_cases e : i = k
          · subst e; exact q w.2
          · exact z ⟨by omega, w.2⟩)]
theorem ty_Inv {N : Nat → Int32} {s k : Nat} (hI : Inv N) : Inv (tyN N s k) := by
  refine Inv_row hI (fun p hp => ty_lo hp k) (fun c _ => ?_) (fun c _ => ?_)
  · rw [ty_cur k 0 (by decide)]
    split
    · rw [upd_n (by decide)]
    · rfl
  · rw [ty_cur k 2 (by decide)]
    split
    · rw [upd_n (by decide)]
    · rfl
theorem ty_Z {N : Nat → Int32} {s : Nat} (hZ : Z70 N) : ∀ k, k ≤ 8 → Z70 (tyN N s k) := by
  intro k
  induction k with
  | zero => intro _; exact hZ
  | succ k ih =>
    intro hk
    show Z70 (if s.testBit k = true then upd (tyN N s k) (22 + 6 * k + 4) 1 else tyN N s k)
    split
    · exact Z_upd (ih (by omega)) (by omega)
    · exact ih (by omega)
theorem tb_e : ∀ k, k < 8 → ∀ s, s < 256 → (((nI s >>> (nI k &&& 31)) &&& 1) = 1 ↔ s.testBit k = true) := by decide +kernel
/-- nothing is cut in x beats when s is tied -/
def Uncut (N : Nat → Int32) (x s : Nat) : Prop := N 3 = 1 ∨ N 4 = 99999 ∨ ∀ i, i < hg N → s.testBit i = true ∨ ∀ t, t < x → ¬ cam (prb N (cur N i) t) (scK N t) (N 3)
theorem uncut_iff {N : Nat → Int32} {x s a : Nat} (hI : Inv N) (hx : x ≤ 1000) (ha : a ≤ 99999) (e : N 4 = nI a) : bgN (tyN N s (hg N)) x 4 = N 4 ↔ Uncut N x s := by
  have eh : hg (tyN N s (hg N)) = hg N := by unfold hg; rw [ty_lo (by decide)]
  have e3 : tyN N s (hg N) 3 = N 3 := ty_lo (by decide) _
  obtain ⟨a', h1, h2, h3, h4⟩ := bg4 (ty_Inv (s := s) (k := hg N) hI) ha (by rw [ty_lo (by decide)]; exact e) x hx
  rw [eh, e3] at h4
  have ep : ∀ c t, prb (tyN N s (hg N)) c t = prb N c t := fun c t => prb_cg (ty_lo (by decide) _) e3 (fun j hj => ty_lo (by omega) _) t
  have es : ∀ t, scK (tyN N s (hg N)) t = scK N t := fun t => by
    unfold scK
    rw [ty_lo (p := 0) (by decide), ty_lo (by omega)]
  have ei : (bgN (tyN N s (hg N)) x 4 = N 4) ↔ a' = a := by
    rw [h1, e]
    exact nI_eq (by omega) (by omega)
  rw [ei, h4]
  unfold Uncut
  have ea : a = 99999 ↔ N 4 = 99999 := by
    rw [e, show (99999 : Int32) = nI 99999 from rfl, nI_eq (by omega) (by decide)]
  rw [ea]
  have tied : ∀ i t, i < hg N → s.testBit i = true → ¬ cam (prb N (cur (tyN N s (hg N)) i) t) (scK N t) (N 3) := by
    intro i t hi hs q
    refine q.1 ?_
    rw [prb_k (Or.inr (Or.inr rfl)), ty_cur _ 4 (by decide), if_pos ⟨hi, hs⟩, upd_s]
  have free : ∀ i t, i < hg N → ¬ s.testBit i = true → (cam (prb N (cur (tyN N s (hg N)) i) t) (scK N t) (N 3) ↔ cam (prb N (cur N i) t) (scK N t) (N 3)) := by
    intro i t hi hs
    refine cg_cam (prb_cc (fun f hf => ?_) t)
    rw [ty_cur _ f hf, if_neg (fun z => hs z.2)]
  constructor
  · rintro (q | q | q)
    · exact Or.inl q
    · exact Or.inr (Or.inl q)
    · refine Or.inr (Or.inr (fun i hi => ?_))
      by_cases hs : s.testBit i = true
      · exact Or.inl hs
      · refine Or.inr (fun t ht z => q t ht i hi ?_)
        rw [ep, es]
        exact (free i t hi hs).mpr z
  · rintro (q | q | q)
    · exact Or.inl q
    · exact Or.inr (Or.inl q)
    · refine Or.inr (Or.inr (fun t ht i hi z => ?_))
      rw [ep, es] at z
      by_cases hs : s.testBit i = true
      · exact tied i t hi hs z
      · rcases q i hi with w | w
        · exact hs w
        · exact w t ht ((free i t hi hs).mp z)
theorem nc_L {μ : Mem} {x s : Nat} (hI : Inv (μ 51)) (hZ : Z70 (μ 51)) (hs : s < 256) (hx : x ≤ 20) : ∀ n k, k ≤ hg (μ 51) → hg (μ 51) - k < n → ∃ v, f_X5_nothingIsCut_L21 n (nI s) (nI x) (μ 51 4) (nI k) (asN μ (tyN (μ 51) s k)) = some (v, setr μ 53 (μ 51)) ∧ ((v = 1 ∧ Uncut (μ 51) x s) ∨ (v = 0 ∧ ¬ Uncut (μ 51) x s)) := by
  intro n
  obtain ⟨hh, h8⟩ := hI.hung
  induction n with
  | zero => intro k _ h; omega
  | succ n ih =>
    intro k hk hn
    rw [f_X5_nothingIsCut_L21_s, vI_at (x := 1) (j := 1) rfl (by decide) (by decide), as_1, ty_lo (by decide), hh]
    unfold f_X5_nothingIsCut_J54 f_X5_nothingIsCut_J80
    simp only [vL_e, show nI k + 1 = nI (k + 1) from nI_1 k]
    rcases Nat.lt_or_ge k (hg (μ 51)) with q | q
    · rw [if_neg (nle_of q (by omega)), cAt4, vC_s, vI_at rfl (by omega) (by decide), vW_e]
      have hsx : tyN (μ 51) s (k + 1) = if s.testBit k = true then upd (tyN (μ 51) s k) (22 + 6 * k + 4) 1 else tyN (μ 51) s k := rfl
      have ih' := ih (k + 1) q (by omega)
      by_cases z : s.testBit k = true
      · rw [if_pos ((tb_e k (by omega) s hs).mpr z), up2_e, as_1, as_s]
        rw [hsx, if_pos z] at ih'
        exact ih'
      · rw [if_neg (fun w => z ((tb_e k (by omega) s hs).mp w))]
        rw [hsx, if_neg z] at ih'
        exact ih'
    · have : k = hg (μ 51) := by omega
      subst this
      obtain ⟨a, ha, e⟩ := hI.2.2.2.1
      have hIt := ty_Inv (s := s) (k := hg (μ 51)) hI
      have hZt := Z_bg (ty_Z (s := s) hZ (hg (μ 51)) h8) hIt x
      rw [if_pos (nI_le q (by omega)), as_bg hIt (by omega), vC_s, vI_at (x := 4) (j := 4) rfl (by decide) (by decide), as_1, as_bk hZ hZt, vC_s]
      have ui := uncut_iff (s := s) hI (show x ≤ 1000 by omega) ha e
      by_cases u : bgN (tyN (μ 51) s (hg (μ 51))) x 4 = μ 51 4
      · rw [if_pos u]
        exact ⟨1, rfl, Or.inl ⟨rfl, ui.mp u⟩⟩
      · rw [if_neg u]
        exact ⟨0, rfl, Or.inr ⟨rfl, fun w => u (ui.mpr w)⟩⟩
theorem nc_M {μ : Mem} {x s : Nat} (hI : Inv (μ 51)) (h1 : Z70 (μ 51)) (h3 : Z70 (μ 53)) (hs : s < 256) (hx : x ≤ 20) : ∃ v, f_X5_nothingIsCut (nI s) (nI x) μ = some (v, setr μ 53 (μ 51)) ∧ ((v = 1 ∧ Uncut (μ 51) x s) ∨ (v = 0 ∧ ¬ Uncut (μ 51) x s)) := by
  unfold f_X5_nothingIsCut
  rw [vI_at (x := 4) (j := 4) rfl (by decide) (by decide), vL_e, as_cr h1 h3, vC_s, vL_e]
  exact nc_L hI h1 hs hx FU 0 (Nat.zero_le _) (fu8 hI)
/-- the set of those that come down -/
def tN (N : Nat → Int32) (x : Nat) : Nat → Nat
  | 0 => 0
  | k + 1 => if pct N (cur N k) x ≤ 0 then tN N x k else tN N x k + 2 ^ k
theorem tN_lt {N : Nat → Int32} {x : Nat} : ∀ k, tN N x k < 2 ^ k := by
  intro k
  induction k with
  | zero => exact Nat.one_pos
  | succ k ih =>
    have h2 : 2 ^ (k + 1) = 2 ^ k + 2 ^ k := by rw [Nat.pow_succ]; omega
    show (if pct N (cur N k) x ≤ 0 then tN N x k else tN N x k + 2 ^ k) < _
    split <;> omega
theorem tN_bit {N : Nat → Int32} {x : Nat} : ∀ k i, (tN N x k).testBit i = true ↔ (i < k ∧ ¬ pct N (cur N i) x ≤ 0) := by
  intro k
  induction k with
  | zero =>
    intro i
    show (0 : Nat).testBit i = true ↔ _
    rw [Nat.zero_testBit]
    exact ⟨fun z => absurd z (by decide), fun z => by omega⟩
  | succ k ih =>
    intro i
    have hs : tN N x (k + 1) = if pct N (cur N k) x ≤ 0 then tN N x k else tN N x k + 2 ^ k := rfl
    have hl := tN_lt (N := N) (x := x) k
    by_cases q : pct N (cur N k) x ≤ 0
    · rw [hs, if_pos q, ih i]
      constructor
      · rintro ⟨a, b⟩; exact ⟨by omega, b⟩
      · rintro ⟨a, b⟩
        refine ⟨?_, b⟩
        rcases Nat.lt_or_ge i k with w | w
        · exact w
        · have : i = k := by omega
          subst this; exact absurd q b
    · rw [hs, if_neg q, Nat.add_comm]
      rcases Nat.lt_trichotomy i k with w | w | w
      · rw [Nat.testBit_two_pow_add_gt w, ih i]
        exact ⟨fun z => ⟨by omega, z.2⟩, fun z => ⟨w, z.2⟩⟩
      · subst w
        rw [Nat.testBit_two_pow_add_eq, Nat.testBit_lt_two_pow hl]
        exact ⟨fun _ => ⟨by omega, q⟩, fun _ => rfl⟩
      · have hlt : 2 ^ k + tN N x k < 2 ^ i := by
          have : 2 ^ (k + 1) ≤ 2 ^ i := Nat.pow_le_pow_right (by decide) (by omega)
          have h2 : 2 ^ (k + 1) = 2 ^ k + 2 ^ k := by rw [Nat.pow_succ]; omega
          omega
        rw [Nat.testBit_lt_two_pow hlt]
        exact ⟨fun z => absurd z (by decide), fun z => by omega⟩
theorem tie_C {μ : Mem} {x : Nat} (hx : x ≤ 20) : ∀ n k σ, Rel σ μ → k ≤ hg (μ 51) → hg (μ 51) - k < n → ∃ σ', f_X4_tie_L39 n (nI x) 1 (nI (tN (μ 51) x k)) (nI k) σ = some (nI (tN (μ 51) x (hg (μ 51))), σ') ∧ Rel σ' μ := by
  intro n
  induction n with
  | zero => intro k σ _ _ h; omega
  | succ n ih =>
    intro k σ h hk hn
    obtain ⟨hh, h8⟩ := h.2.1.hung
    rw [f_X4_tie_L39_s, if_neg n10, h.1.1.2.2.2.2.2, hh]
    unfold f_X4_tie_J87
    simp only [vL_e, show nI k + 1 = nI (k + 1) from nI_1 k]
    rcases Nat.lt_or_ge k (hg (μ 51)) with q | q
    · rw [if_neg (nle_of q (by omega)), vI_at rfl (by omega) (by decide), tk_C (by omega), vC_s]
      obtain ⟨r', g1, g2⟩ := pp_C (σ := setr σ 37 (tk6 (σ 37) (σ (1 + 3 + 1 + k)))) (c := cur (μ 51) k) (x := x) (h.probe).1 h.2.1 ((h.2.1.2.2.2.2.2.2 k q).1) (fun f hf => by rw [setr_same, tk6_e f hf]; exact h.1.2.2.2 k f q hf) (by omega)
      rw [g1, vC_s, setr_setr]
      have hs : tN (μ 51) x (k + 1) = if pct (μ 51) (cur (μ 51) k) x ≤ 0 then tN (μ 51) x k else tN (μ 51) x k + 2 ^ k := rfl
      have ih' := ih (k + 1) (setr σ 37 r') h.probe q (by omega)
      by_cases z : pct (μ 51) (cur (μ 51) k) x ≤ 0
      · rw [if_pos z]
        rw [hs, if_pos z] at ih'
        exact ih'
      · rw [if_neg z, or_bit k (by omega) _ (tN_lt k)]
        rw [hs, if_neg z] at ih'
        exact ih'
    · have : k = hg (μ 51) := by omega
      subst this
      rw [if_pos (nI_le q (by omega))]
      exact ⟨σ, rfl, h⟩
def sub8 (t s : Nat) : Prop := ∀ i, i < 8 → t.testBit i = true → s.testBit i = true
theorem sub_and {t s : Nat} (ht : t < 256) (h : sub8 t s) : t &&& s = t := by
  apply Nat.eq_of_testBit_eq
  intro i
  rw [Nat.testBit_and]
  rcases Nat.lt_or_ge i 8 with q | q
  · cases e : t.testBit i with
    | false => rfl
    | true => rw [h i q e]; rfl
  · have : t < 2 ^ i := Nat.lt_of_lt_of_le ht (Nat.pow_le_pow_right (n := 2) (by decide) q)
    rw [Nat.testBit_lt_two_pow this]
    rfl
theorem sub_le {t s : Nat} (ht : t < 256) (h : sub8 t s) : t ≤ s := by
  rw [← sub_and ht h]
  exact Nat.and_le_right
def b2n (b : Bool) : Nat := if b then 1 else 0
def pop8 (s : Nat) : Nat := b2n (s.testBit 0) + b2n (s.testBit 1) + b2n (s.testBit 2) + b2n (s.testBit 3) + b2n (s.testBit 4) + b2n (s.testBit 5) + b2n (s.testBit 6) + b2n (s.testBit 7)
theorem pop_e : ∀ s, s < 256 → bw s = pop8 s := by decide +kernel
theorem b2n_le {a b : Bool} (h : a = true → b = true) : b2n a ≤ b2n b := by
  cases a with
  | false => exact Nat.zero_le _
  | true => rw [h rfl]; exact Nat.le_refl _
theorem sub_bw {t s : Nat} (ht : t < 256) (hs : s < 256) (h : sub8 t s) : bw t ≤ bw s := by
  rw [pop_e t ht, pop_e s hs]
  unfold pop8
  have h0 := b2n_le (h 0 (by decide))
  have h1 := b2n_le (h 1 (by decide))
  have h2 := b2n_le (h 2 (by decide))
  have h3 := b2n_le (h 3 (by decide))
  have h4 := b2n_le (h 4 (by decide))
  have h5 := b2n_le (h 5 (by decide))
  have h6 := b2n_le (h 6 (by decide))
  have h7 := b2n_le (h 7 (by decide))
  omega
theorem tie_M {μ0 : Mem} {x t : Nat} (hI : Inv (μ0 51)) (hZ : Z70 (μ0 51)) (hx : x ≤ 20) (ht : t < 2 ^ hg (μ0 51)) (hU : ∀ s, s < 2 ^ hg (μ0 51) → (Uncut (μ0 51) x s ↔ sub8 t s)) : ∀ n j μ y, j ≤ 2 ^ hg (μ0 51) → j < n → (∀ i, i ≠ 53 → μ i = μ0 i) → Z70 (μ 53) → ((j ≤ t ∧ y = nI t) ∨ (t < j ∧ (y = -1 ∨ ∃ s, s < 256 ∧ sub8 t s ∧ y = nI s))) → ∃ μ', f_X5_tie_L30 n (nI x) y (nI j + (-1)) μ = some (nI t, μ') ∧ (∀ i, i ≠ 53 → μ' i = μ0 i) ∧ Z70 (μ' 53) := by
  intro n
  have h8 := hI.hung.2
  have hp8 : 2 ^ hg (μ0 51) ≤ 2 ^ 8 := Nat.pow_le_pow_right (by decide) h8
  induction n with
  | zero => intro j μ y _ h; omega
  | succ n ih =>
    intro j μ y hj hn hm hz hy
    rw [f_X5_tie_L30_s]
    cases j with
    | zero =>
      rw [if_pos (show nI 0 + (-1) < 0 by decide)]
      rcases hy with ⟨_, rfl⟩ | ⟨a, _⟩
      · rw [none_1 (by omega), vC_s]
        exact ⟨μ, rfl, hm, hz⟩
      · omega
    | succ j =>
      rw [pk_m1, if_neg (nI_pos (by omega))]
      have e51 := hm 51 (by decide)
      obtain ⟨v, g1, g2⟩ := nc_M (μ := μ) (x := x) (s := j) (by rw [e51]; exact hI) (by rw [e51]; exact hZ) hz (by omega) hx
      rw [e51] at g1 g2
      have hm' : ∀ i, i ≠ 53 → setr μ 53 (μ0 51) i = μ0 i := fun i hi => by rw [setr_ne hi]; exact hm i hi
      have hz' : Z70 (setr μ 53 (μ0 51) 53) := by rw [setr_same]; exact hZ
      have uj := hU j (by omega)
      have J49 : (t < j + 1) → (y = -1 ∨ ∃ s, s < 256 ∧ sub8 t s ∧ y = nI s) → ∃ μ', f_X5_tie_J49 (f_X5_tie_L30 n) (nI x) y (nI j) μ = some (nI t, μ') ∧ (∀ i, i ≠ 53 → μ' i = μ0 i) ∧ Z70 (μ' 53) := by
        intro htj hy2
        unfold f_X5_tie_J49 f_X5_tie_J62 f_X5_tie_J63
        simp only [vL_e]
        rw [g1, vC_s]
        rcases g2 with ⟨rfl, u⟩ | ⟨rfl, u⟩
        · rw [if_neg n10]
          have sj := uj.mp u
          by_cases e : j = t
          · subst e
            exact ih j _ _ (by omega) (by omega) hm' hz' (Or.inl ⟨Nat.le_refl _, rfl⟩)
          · exact ih j _ _ (by omega) (by omega) hm' hz' (Or.inr ⟨by omega, Or.inr ⟨j, by omega, sj, rfl⟩⟩)
        · rw [if_pos rfl]
          have : ¬ sub8 t j := fun z => u (uj.mpr z)
          have ne : j ≠ t := fun z => this (fun i _ w => by rw [z]; exact w)
          exact ih j _ _ (by omega) (by omega) hm' hz' (Or.inr ⟨by omega, hy2⟩)
      rcases hy with ⟨hjt, rfl⟩ | ⟨hjt, hy2⟩
      · rw [if_neg (nI_pos (by omega)), bitc_M ⟨j, by omega, rfl⟩, vC_s, bitc_M ⟨t, by omega, rfl⟩, vC_s]
        have nu : ¬ Uncut (μ0 51) x j := fun u => by have := sub_le (by omega) (uj.mp u); omega
        unfold f_X5_tie_J49 f_X5_tie_J62 f_X5_tie_J63
        simp only [vL_e]
        rw [g1, vC_s]
        rcases g2 with ⟨rfl, u⟩ | ⟨rfl, u⟩
        · exact absurd u nu
        · rw [if_pos rfl]
          split
          · exact ih j _ _ (by omega) (by omega) hm hz (Or.inl ⟨by omega, rfl⟩)
          · exact ih j _ _ (by omega) (by omega) hm' hz' (Or.inl ⟨by omega, rfl⟩)
      · rcases hy2 with rfl | ⟨s, hs, hts, rfl⟩
        · rw [if_pos (by decide)]
          exact J49 (by omega) (Or.inl rfl)
        · rw [if_neg (nI_pos (by omega)), bitc_M ⟨j, by omega, rfl⟩, vC_s, bitc_M ⟨s, by omega, rfl⟩, vC_s, (bw_e (show j < 4096 by omega)).1, (bw_e (show s < 4096 by omega)).1]
          have b1 := (bw_e (show j < 4096 by omega)).2
          have b2 := (bw_e (show s < 4096 by omega)).2
          by_cases c : bw s < bw j
          · rw [if_pos (nI_lt c (by omega))]
            unfold f_X5_tie_J62 f_X5_tie_J63
            simp only [vL_e]
            have bt := sub_bw (show t < 256 by omega) hs hts
            have ne : j ≠ t := fun z => by rw [z] at c; omega
            exact ih j _ _ (by omega) (by omega) hm hz (Or.inr ⟨by omega, Or.inr ⟨s, hs, hts, rfl⟩⟩)
          · rw [if_neg (nI_nlt (by omega) (by omega))]
            exact J49 (by omega) (Or.inr ⟨s, hs, hts, rfl⟩)
theorem pow_e : ∀ h, h ≤ 8 → ((1 : Int32) <<< (nI h &&& 31)) - 1 = nI (2 ^ h) + (-1) := by decide
theorem sim19 : Sim19 Rel := by
  intro σ μ x1 h
  unfold f_X4_tie f_X5_tie
  by_cases c : ¬ x1 < 0 ∧ ¬ 20 < x1
  · rw [wC1 c, wM1 c, vC_s, vC_s, if_neg n10, if_neg n10]
    obtain ⟨x, hx, rfl⟩ := rg_of (m := 20) (by decide) rfl c
    obtain ⟨hh, h8⟩ := h.2.1.hung
    obtain ⟨a, ha, e⟩ := h.2.1.2.2.2.1
    have hp8 : 2 ^ hg (μ 51) ≤ 2 ^ 8 := Nat.pow_le_pow_right (by decide) h8
    have hp0 : 0 < 2 ^ hg (μ 51) := Nat.pow_pos (by decide)
    unfold f_X4_tie_J33
    simp only [vL_e]
    rw [vI_at (x := 1) (j := 1) rfl (by decide) (by decide), hh, h.1.1.2.1, e, pow_e _ h8]
    have fin : ∀ t σ', t < 2 ^ hg (μ 51) → (∀ s, s < 2 ^ hg (μ 51) → (Uncut (μ 51) x s ↔ sub8 t s)) → Rel σ' μ → ∃ μ', f_X5_tie_L30 FU (nI x) (-1) (nI (2 ^ hg (μ 51)) + (-1)) μ = some (nI t, μ') ∧ Rel σ' μ' := by
      intro t σ' ht hU hR
      obtain ⟨μ', b1, b2, b3⟩ := tie_M h.2.1 h.2.2.1.1 hx ht hU FU (2 ^ hg (μ 51)) μ (-1) (Nat.le_refl _) (FU_gt (by omega)) (fun _ _ => rfl) h.2.2.1.2.2 (Or.inr ⟨ht, Or.inl rfl⟩)
      exact ⟨μ', b1, hR.scratch (fun _ _ => rfl) b2 b3⟩
    have e9 : μ 51 4 = 99999 ↔ a = 99999 := by
      rw [e, show (99999 : Int32) = nI 99999 from rfl, nI_eq (by omega) (by decide)]
    by_cases d : a = 99999
    · have d' : (99999 : Int32) ≤ nI a := by rw [d]; decide
      rw [if_pos d', show FU = 9999 + 1 from rfl, f_X4_tie_L39_s, if_pos rfl]
      obtain ⟨μ', g1, g2⟩ := fin 0 σ hp0 (fun s _ => ⟨fun _ i _ z => absurd z (by rw [Nat.zero_testBit]; decide), fun _ => Or.inr (Or.inl (e9.mpr d))⟩) h
      exact ⟨_, _, _, rfl, g1, g2⟩
    · have d' : ¬ (99999 : Int32) ≤ nI a := by rw [show (99999 : Int32) = nI 99999 from rfl]; exact nle_of (by omega) (by decide)
      rw [if_neg d']
      obtain ⟨σ', b1, b2⟩ := tie_C hx FU 0 σ h (Nat.zero_le _) (fu8 h.2.1)
      have b1' : f_X4_tie_L39 FU (nI x) 1 0 0 σ = some (nI (tN (μ 51) x (hg (μ 51))), σ') := b1
      obtain ⟨μ', g1, g2⟩ := fin (tN (μ 51) x (hg (μ 51))) σ' (tN_lt _) (fun s hs => by
        have cases3 := h.2.1.2.2.1
        constructor
        · intro u i hi z
          obtain ⟨z1, z2⟩ := (tN_bit _ _).mp z
          obtain ⟨m, m1, m2, m3⟩ := pct_n (N := μ 51) (c := cur (μ 51) i) x (by omega)
          have m0 : ¬ m = 0 := fun w => z2 (by rw [m2, w]; decide)
          rcases u with u | u | u
          · exact absurd (m3.mpr (fun t ht q => by rw [u] at q; exact absurd q.2 (by decide))) m0
          · exact absurd (e9.mp u) d
          · rcases u i z1 with w | w
            · exact w
            · exact absurd (m3.mpr (fun t ht q => w t ht q.1)) m0
        · intro u
          rcases cases3 with f | f
          · refine Or.inr (Or.inr (fun i hi => ?_))
            by_cases z : s.testBit i = true
            · exact Or.inl z
            · refine Or.inr (fun t ht q => z (u i (by omega) ((tN_bit _ _).mpr ⟨hi, fun w => ?_⟩)))
              obtain ⟨m, m1, m2, m3⟩ := pct_n (N := μ 51) (c := cur (μ 51) i) x (by omega)
              rw [m2] at w
              have m0 : m = 0 := by
                rcases Nat.eq_zero_or_pos m with k | k
                · exact k
                · exact absurd w (nI_nle k (by omega))
              exact m3.mp m0 t ht ⟨q, f⟩
          · exact Or.inl f) b2
      rw [b1']
      exact ⟨_, _, _, rfl, g1, g2⟩
  · rw [wC0 c, wM0 c, vC_s, vC_s, if_pos rfl, if_pos rfl]
    exact fin0 h
