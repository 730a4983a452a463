/-! THE TEXT's words and numbers -/
def Ch (w j : Nat) : Int32 := (((kByt.getD w []).getD j 0 &&& 255).toUInt32 % 65536).toInt32
abbrev Ln (w : Nat) : Nat := kLen.getD w 0
theorem Ch_tab : ∀ w, w < 14 → ∀ j, j < Ln w → ∃ c, c < 128 ∧ Ch w j = nI c := by decide +kernel
theorem Ln_tab : ∀ w, w < 14 → 3 ≤ Ln w ∧ Ln w ≤ 7 := by decide
theorem uniq_tab : ∀ w, w < 14 → ∀ v, v < 14 → Ln w = Ln v → Ch w 0 = Ch v 0 → w = v := by decide +kernel
section WRD
variable {σ μ : Mem} {n w s : Nat}
theorem len_e {τ : Mem} : f_J0_length_8abf5 w τ = some (nI (Ln w), τ) := rfl
theorem cha_e {τ : Mem} {j : Nat} (hj : j < Ln w) (hw : w < 14) : f_J0_charAt_5068e w (nI j) τ = some (Ch w j, τ) := by
  unfold f_J0_charAt_5068e
  have := Ln_tab w hw
  rw [vI_at rfl hj (by omega)]
  rfl
theorem wdC {τ : Nat → Int32} (hw : w < 14) (h3 : τ 3 = nI s) (hs : s + Ln w ≤ 120) : ∀ m j, j ≤ Ln w → Ln w - j < m → ((∀ t, j ≤ t → t < Ln w → σ 39 (s + t) = Ch w t) → f_X3_isWord_L27 m w (nI j) (setr σ 38 τ) = some (1, setr σ 38 τ)) ∧ ((∃ t, j ≤ t ∧ t < Ln w ∧ ¬ σ 39 (s + t) = Ch w t) → f_X3_isWord_L27 m w (nI j) (setr σ 38 τ) = some (0, setr σ 38 τ)) := by
  intro m
  have hl := Ln_tab w hw
  induction m with
  | zero => intro j _ h; omega
  | succ m ih =>
    intro j hj hm
    rw [f_X3_isWord_L27_s, len_e, vC_s, setr_same, h3, nI_add, setr_ne (show 39 ≠ 38 by decide)]
    rcases Nat.lt_or_ge j (Ln w) with q | q
    · rw [if_neg (nle_of q (by omega)), vI_at rfl (by omega) (by decide), cha_e q hw, vC_s, vL_e, show nI j + 1 = nI (j + 1) from nI_1 j]
      obtain ⟨i1, i2⟩ := ih (j + 1) q (by omega)
      by_cases e : σ 39 (s + j) = Ch w j
      · rw [if_pos e]
        refine ⟨fun h => i1 (fun t a b => h t (by omega) b), fun ⟨t, a, b, c⟩ => i2 ⟨t, ?_, b, c⟩⟩
        by_cases z : t = j
        · subst z; exact absurd e c
        · omega
      · rw [if_neg e]
        exact ⟨fun h => absurd (h j (Nat.le_refl _) q) e, fun _ => rfl⟩
    · rw [if_pos (nI_le q (by omega))]
      exact ⟨fun _ => rfl, fun ⟨t, a, b, c⟩ => by omega⟩
theorem wdM0 {ρ : Nat → Int32} {j m : Nat} (hw : w < 14) : f_X5_isWord_L32 (m + 1) w 0 (nI j) (setr μ 50 ρ) = some (0, setr μ 50 ρ) := by
  rw [f_X5_isWord_L32_s, len_e, vC_s]
  split
  · rfl
  · rfl
theorem wdM {ρ : Nat → Int32} (hw : w < 14) (h7 : ρ 7 = nI s) (hs : s + Ln w ≤ 120) : ∀ m j, j ≤ Ln w → Ln w - j + 1 < m → ((∀ t, j ≤ t → t < Ln w → μ 55 (s + t) = Ch w t) → f_X5_isWord_L32 m w 1 (nI j) (setr μ 50 ρ) = some (1, setr μ 50 ρ)) ∧ ((∃ t, j ≤ t ∧ t < Ln w ∧ ¬ μ 55 (s + t) = Ch w t) → f_X5_isWord_L32 m w 1 (nI j) (setr μ 50 ρ) = some (0, setr μ 50 ρ)) := by
  intro m
  have hl := Ln_tab w hw
  induction m with
  | zero => intro j _ h; omega
  | succ m ih =>
    intro j hj hm
    rw [f_X5_isWord_L32_s, len_e, vC_s, setr_same, h7, nI_add, setr_ne (show 55 ≠ 50 by decide)]
    rcases Nat.lt_or_ge j (Ln w) with q | q
    · rw [if_neg (nle_of q (by omega)), if_neg n10, vI_at rfl (by omega) (by decide), cha_e q hw, vC_s]
      unfold f_X5_isWord_J68
      simp only [vL_e, show nI j + 1 = nI (j + 1) from nI_1 j]
      obtain ⟨i1, i2⟩ := ih (j + 1) q (by omega)
      by_cases e : μ 55 (s + j) = Ch w j
      · rw [if_pos e]
        refine ⟨fun h => i1 (fun t a b => h t (by omega) b), fun ⟨t, a, b, c⟩ => i2 ⟨t, ?_, b, c⟩⟩
        by_cases z : t = j
        · subst z; exact absurd e c
        · omega
      · rw [if_neg e]
        obtain ⟨m, rfl⟩ : ∃ t, m = t + 1 := ⟨m - 1, by omega⟩
        exact ⟨fun h => absurd (h j (Nat.le_refl _) q) e, fun _ => wdM0 hw⟩
    · rw [if_pos (nI_le q (by omega))]
      exact ⟨fun _ => rfl, fun ⟨t, a, b, c⟩ => by omega⟩
theorem word_alike {τ ρ : Nat → Int32} {e : Nat} (hw : w < 14) (hn : n ≤ 120) (hB : ∀ k, k < n → BT (μ 55 k) (σ 39 k)) (T : TS n (μ 55) τ ρ s e) : (f_X3_isWord w (setr σ 38 τ) = some (1, setr σ 38 τ) ∧ f_X5_isWord w (setr μ 50 ρ) = some (1, setr μ 50 ρ) ∧ τ 2 = 0 ∧ e - s = Ln w ∧ μ 55 s = Ch w 0) ∨ (f_X3_isWord w (setr σ 38 τ) = some (0, setr σ 38 τ) ∧ f_X5_isWord w (setr μ 50 ρ) = some (0, setr μ 50 ρ)) := by
  obtain ⟨t1, t2, t3, t4, t5, t6, t7⟩ := T
  have hl := Ln_tab w hw
  have J28 : f_X5_isWord_J28 w (setr μ 50 ρ) = some (0, setr μ 50 ρ) := by
    unfold f_X5_isWord_J28 f_X5_isWord_J29
    rw [vL_e, vL_e, show FU = 9999 + 1 from rfl]
    exact wdM0 (j := 0) hw
  unfold f_X3_isWord f_X5_isWord
  rw [J28, setr_same, setr_same, t3, t4, t5, t6, len_e, len_e, vC_s, vC_s, pk_sub t1]
  by_cases c : τ 2 = 0
  · have c9 : ρ 9 = 1 := by
      rcases t7 with z | z | z | z | z
      · exact z.2.1
      · rw [z.1] at c; exact absurd c (by decide)
      · rw [z.1] at c; exact absurd c (by decide)
      · rw [z.1] at c; exact absurd c (by decide)
      · rw [z.1] at c; exact absurd c (by decide)
    rw [if_pos c, if_pos c9]
    by_cases d : e - s = Ln w
    · rw [d, if_pos rfl, if_pos rfl, vL_e]
      unfold f_X5_isWord_J29
      rw [vL_e, vL_e]
      have ec : ∀ t, t < Ln w → (σ 39 (s + t) = Ch w t ↔ μ 55 (s + t) = Ch w t) := fun t ht => by
        obtain ⟨k, hk, ek⟩ := Ch_tab w hw t ht
        rw [ek]
        exact (hB (s + t) (by omega)).ch k hk
      have gC := wdC (σ := σ) hw t3 (by omega) FU 0 (Nat.zero_le _) (FU_gt (by omega))
      have gM := wdM (μ := μ) hw t5 (by omega) FU 0 (Nat.zero_le _) (FU_gt (by omega))
      rcases Classical.em (∀ t, 0 ≤ t → t < Ln w → σ 39 (s + t) = Ch w t) with z | z
      · have z' : ∀ t, 0 ≤ t → t < Ln w → μ 55 (s + t) = Ch w t := fun t a b => (ec t b).mp (z t a b)
        have z0 := z' 0 (Nat.le_refl _) (by omega)
        exact Or.inl ⟨gC.1 z, gM.1 z', c, rfl, z0⟩
      · have z2 : ∃ t, 0 ≤ t ∧ t < Ln w ∧ ¬ σ 39 (s + t) = Ch w t := Classical.byContradiction (fun y => z (fun t a b => Classical.byContradiction (fun x => y ⟨t, a, b, x⟩)))
        obtain ⟨t, a, b, x⟩ := z2
        exact Or.inr ⟨gC.2 ⟨t, a, b, x⟩, gM.2 ⟨t, a, b, fun y => x ((ec t b).mpr y)⟩⟩
    · have d' : ¬ nI (e - s) = nI (Ln w) := fun z => d ((nI_eq (by omega) (by omega)).mp z)
      rw [if_neg d', if_neg d']
      exact Or.inr ⟨rfl, J28⟩
  · have c9 : ¬ ρ 9 = 1 := by
      rcases t7 with z | z | z | z | z
      · exact absurd z.1 c
      · rw [z.2.1]; decide
      · rw [z.2.1]; decide
      · rw [z.2.1]; decide
      · rw [z.2]; decide
    rw [if_neg c, if_neg c9]
    exact Or.inr ⟨rfl, rfl⟩
/-- a word or number taken, or not -/
theorem must_1 {ρ : Nat → Int32} {r : Nat → Int32} (h : ρ 11 = 0) (g : f_X5_token (setr μ 50 ρ) = some ((), setr μ 50 r)) : f_X5_must 1 (setr μ 50 ρ) = some ((), setr μ 50 r) := by
  unfold f_X5_must f_X5_must_J17
  rw [setr_same, h, if_pos rfl, if_neg n10]
  unfold vB
  rw [if_pos (Or.inl rfl), vW_e, up2_setr, ← h, upd_self, setr_same, h, if_pos rfl, g, vC_s]
theorem must_0 {ρ : Nat → Int32} (h : ρ 11 = 0) : f_X5_must 0 (setr μ 50 ρ) = some ((), setr μ 50 (upd ρ 11 1)) := by
  unfold f_X5_must f_X5_must_J12 f_X5_must_J17
  rw [setr_same, h, if_pos rfl, if_pos rfl]
  unfold vB
  rw [if_pos (Or.inr rfl), vW_e, up2_setr, setr_same, upd_s, if_neg n10]
theorem must_d {ρ : Nat → Int32} {x : Int32} (h : ρ 11 = 1) : f_X5_must x (setr μ 50 ρ) = some ((), setr μ 50 ρ) := by
  unfold f_X5_must f_X5_must_J12 f_X5_must_J17
  rw [setr_same, h, if_neg n10]
  unfold vB
  rw [if_pos (Or.inr rfl), vW_e, up2_setr, ← h, upd_self, setr_same, h, if_neg n10]
theorem take_d {ρ : Nat → Int32} (h : ρ 11 = 1) : f_X5_takesWord w (setr μ 50 ρ) = some (0, setr μ 50 ρ) := by
  unfold f_X5_takesWord f_X5_takesWord_J19 f_X5_takesWord_J20
  rw [setr_same, h, if_neg n10, vL_e, if_pos rfl]
  rfl
theorem num_d {ρ : Nat → Int32} {a b : Int32} (h : ρ 11 = 1) : ∃ x, f_X5_number a b (setr μ 50 ρ) = some (x, setr μ 50 ρ) := by
  refine ⟨ρ 10, ?_⟩
  unfold f_X5_number f_X5_number_J27 f_X5_number_J28
  rw [vL_e, setr_same, within_M, vC_s, must_d h, must_d h]
  simp only [vC_s]
  split
  · split <;> rfl
  · rfl
/-- what reading keeps: the length, and of the reference all but the token -/
def Kp (n : Nat) (τ ρ ρ0 : Nat → Int32) : Prop := τ 1 = nI n ∧ (∀ j, ¬ (7 ≤ j ∧ j ≤ 10) → ρ j = ρ0 j)
theorem tw {τ ρ : Nat → Int32} {e : Nat} (hw : w < 14) (hn : n ≤ 120) (hB : ∀ k, k < n → BT (μ 55 k) (σ 39 k)) (h1 : τ 1 = nI n) (h6 : ρ 6 = nI n) (h11 : ρ 11 = 0) (T : TS n (μ 55) τ ρ s e) : (f_X3_takeWord w (setr σ 38 τ) = some (0, setr σ 38 τ) ∧ f_X5_takesWord w (setr μ 50 ρ) = some (0, setr μ 50 ρ)) ∨ (∃ τ' ρ' s' e', f_X3_takeWord w (setr σ 38 τ) = some (1, setr σ 38 τ') ∧ f_X5_takesWord w (setr μ 50 ρ) = some (1, setr μ 50 ρ') ∧ Kp n τ' ρ' ρ ∧ s < s' ∧ TS n (μ 55) τ' ρ' s' e') := by
  unfold f_X3_takeWord f_X5_takesWord f_X5_takesWord_J19 f_X5_takesWord_J20
  rw [setr_same, h11, if_pos rfl]
  simp only [vL_e]
  rcases word_alike hw hn hB T with ⟨g1, g2, g3, g4, g5⟩ | ⟨g1, g2⟩
  · right
    have hl := Ln_tab w hw
    obtain ⟨τ', ρ', s', e', a1, a2, a3, a4, a5, a6⟩ := step_alike (σ := σ) (μ := μ) hn hB h1 T.2.2.2.1 h6 T.2.2.2.2.2.1 T.2.1
    rw [g1, g2, vC_s, vC_s, if_neg n10, if_neg n10, if_neg n10, a1, vC_s, must_1 h11 a2, vC_s]
    exact ⟨τ', ρ', s', e', rfl, rfl, ⟨a3, a4⟩, by omega, a6⟩
  · left
    rw [g1, g2, vC_s, vC_s, if_pos rfl, if_pos rfl, if_pos trivial]
    exact ⟨rfl, rfl⟩
theorem tn {τ ρ : Nat → Int32} {e H : Nat} (hn : n ≤ 120) (hH : H ≤ 4095) (hB : ∀ k, k < n → BT (μ 55 k) (σ 39 k)) (h1 : τ 1 = nI n) (h6 : ρ 6 = nI n) (h11 : ρ 11 = 0) (T : TS n (μ 55) τ ρ s e) : (f_X3_takeNumber (nI H) (setr σ 38 τ) = some (-1, setr σ 38 τ) ∧ ∃ x, f_X5_number 0 (nI H) (setr μ 50 ρ) = some (x, setr μ 50 (upd ρ 11 1))) ∨ (∃ v τ' ρ' s' e', v ≤ H ∧ f_X3_takeNumber (nI H) (setr σ 38 τ) = some (nI v, setr σ 38 τ') ∧ f_X5_number 0 (nI H) (setr μ 50 ρ) = some (nI v, setr μ 50 ρ') ∧ Kp n τ' ρ' ρ ∧ s < s' ∧ TS n (μ 55) τ' ρ' s' e') := by
  obtain ⟨t1, t2, t3, t4, t5, t6, t7⟩ := id T
  unfold f_X3_takeNumber f_X5_number f_X5_number_J27 f_X5_number_J28
  rw [vL_e, vL_e, setr_same, setr_same, must_0 h11, vC_s]
  have bad : ∀ x, (¬ τ 2 = 1 ∧ ¬ ρ 9 = 2) → ((if τ 2 = 1 then x else some (-1, setr σ 38 τ)) = some (-1, setr σ 38 τ)) := fun x h => if_neg h.1
  rcases t7 with z | z | z | z | z
  · rw [if_neg (show ¬ τ 2 = 1 by rw [z.1]; decide), if_neg (show ¬ ρ 9 = 2 by rw [z.2.1]; decide)]
    exact Or.inl ⟨rfl, _, rfl⟩
  · obtain ⟨z1, z2, z3, z4, v, hv, z5⟩ := z
    rw [if_pos z1, if_pos z2, ← z4, z5]
    by_cases c : v ≤ H
    · right
      obtain ⟨τ', ρ', s', e', a1, a2, a3, a4, a5, a6⟩ := step_alike (σ := σ) (μ := μ) hn hB h1 T.2.2.2.1 h6 T.2.2.2.2.2.1 T.2.1
      rw [if_pos (nI_le c (by omega)), a1, vC_s, wM1 ⟨nI_pos (by omega), nI_nlt c (by omega)⟩, vC_s, if_neg n10, must_1 h11 a2, vC_s]
      exact ⟨v, τ', ρ', s', e', c, rfl, rfl, ⟨a3, a4⟩, by omega, a6⟩
    · left
      rw [if_neg (nle_of (by omega) (by omega)), wM0 (fun q => q.2 (nI_lt (by omega) (by omega))), vC_s, if_pos rfl, must_0 h11, vC_s]
      exact ⟨rfl, _, rfl⟩
  · rw [if_neg (show ¬ τ 2 = 1 by rw [z.1]; decide), if_neg (show ¬ ρ 9 = 2 by rw [z.2.1]; decide)]
    exact Or.inl ⟨rfl, _, rfl⟩
  · rw [if_neg (show ¬ τ 2 = 1 by rw [z.1]; decide), if_neg (show ¬ ρ 9 = 2 by rw [z.2.1]; decide)]
    exact Or.inl ⟨rfl, _, rfl⟩
  · rw [if_neg (show ¬ τ 2 = 1 by rw [z.1]; decide), if_neg (show ¬ ρ 9 = 2 by rw [z.2]; decide)]
    exact Or.inl ⟨rfl, _, rfl⟩
theorem up2_in {a f : Nat} {τ : Nat → Int32} {v : Int32} (h : a ≠ 38) : up2 (setr σ 38 τ) a f v = setr (up2 σ a f v) 38 τ := by
  funext i
  rw [up2_e, setr_ne h, up2_e]
  by_cases i1 : i = 38
  · subst i1; rw [setr_same, setr_ne (fun z => h z.symm), setr_same]
  · rw [setr_ne i1]
    by_cases i2 : i = a
    · subst i2; rw [setr_same, setr_same]
    · rw [setr_ne i2, setr_ne i2, setr_ne i1]
theorem up2_self {a f : Nat} {v : Int32} (h : σ a f = v) : up2 σ a f v = σ := by
  rw [up2_e, ← h, upd_self, setr_self]
/-- one part of a curtain's description -/
theorem part {τ ρ : Nat → Int32} {e a f H : Nat} {d : Int32} (hw : w < 14) (hn : n ≤ 120) (hH : H ≤ 4095) (hf : f < 6) (hm : mostOf f = nI H) (ha : a ≠ 38) (ha9 : a ≠ 39) (hd : σ a f = d) (hdr : rg d H) (hB : ∀ k, k < n → BT (μ 55 k) (σ 39 k)) (h1 : τ 1 = nI n) (h6 : ρ 6 = nI n) (h11 : ρ 11 = 0) (T : TS n (μ 55) τ ρ s e) {K : Int32 → Mem → Option (Unit × Mem)} : (∃ x τ' ρ', f_X3_readPart a w (nI f) (setr σ 38 τ) = some (0, setr σ 38 τ') ∧ vC (f_X5_takesWord w (setr μ 50 ρ)) (fun r23 σ22 => if r23 = 0 then K d σ22 else vC (f_X5_number 0 (nI H) σ22) (fun r40 σ39 => K r40 σ39)) = K x (setr μ 50 ρ') ∧ ρ' 11 = 1 ∧ ρ' 7 = τ' 3 ∧ τ' 1 = nI n ∧ (∀ j, ¬ (7 ≤ j ∧ j ≤ 11) → ρ' j = ρ j) ∧ (∃ t, t ≤ n ∧ τ' 3 = nI t)) ∨ (∃ v τ' ρ' s' e', rg v H ∧ f_X3_readPart a w (nI f) (setr σ 38 τ) = some (1, setr (up2 σ a f v) 38 τ') ∧ vC (f_X5_takesWord w (setr μ 50 ρ)) (fun r23 σ22 => if r23 = 0 then K d σ22 else vC (f_X5_number 0 (nI H) σ22) (fun r40 σ39 => K r40 σ39)) = K v (setr μ 50 ρ') ∧ Kp n τ' ρ' ρ ∧ s ≤ s' ∧ TS n (μ 55) τ' ρ' s' e') := by
  unfold f_X3_readPart
  have em : (sTab 6).getD f 0 = nI H := hm
  rcases tw hw hn hB h1 h6 h11 T with ⟨g1, g2⟩ | ⟨τ', ρ', s', e', g1, g2, g3, g4, g5⟩
  · right
    rw [g1, g2, vC_s, vC_s, if_pos rfl, if_pos rfl]
    exact ⟨d, τ, ρ, s, e, hdr, by rw [up2_self hd], rfl, ⟨h1, fun _ _ => rfl⟩, Nat.le_refl _, T⟩
  · rw [g1, g2, vC_s, vC_s, if_neg n10, if_neg n10, vI_at rfl hf (by decide), em]
    have h11' : ρ' 11 = 0 := by rw [g3.2 11 (by decide)]; exact h11
    have h6' : ρ' 6 = nI n := by rw [g3.2 6 (by decide)]; exact h6
    rcases tn (σ := σ) (μ := μ) (H := H) hn hH hB g3.1 h6' h11' g5 with ⟨k1, x, k2⟩ | ⟨v, τ2, ρ2, s2, e2, k0, k1, k2, k3, k4, k5⟩
    · left
      rw [k1, k2, vC_s, vC_s, vL_e, if_pos rfl]
      refine ⟨x, τ', upd ρ' 11 1, rfl, rfl, upd_s, ?_, g3.1, fun j hj => ?_, ⟨s', Nat.le_trans g5.1 g5.2.1, g5.2.2.1⟩⟩
      · rw [upd_n (by decide), g5.2.2.2.2.1, g5.2.2.1]
      · rw [upd_n (by omega)]; exact g3.2 j (by omega)
    · right
      rw [k1, k2, vC_s, vC_s, vL_e]
      have hv : ¬ nI v = -1 := fun z => by
        have := nI_pos (n := v) (by omega)
        rw [z] at this
        exact this (by decide)
      rw [if_neg hv, set_C hf, vC_s, up2_in ha]
      exact ⟨nI v, τ2, ρ2, s2, e2, ⟨v, k0, rfl⟩, rfl, rfl, ⟨k3.1, fun j hj => (k3.2 j hj).trans (g3.2 j hj)⟩, by omega, k5⟩
end WRD
