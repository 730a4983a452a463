/-! 31 sheet, 32 write, 33 copy, 34 load, 35 judge -/
theorem Rel.sht {σ σ' μ μ' : Mem} (h : Rel σ μ) (a : ∀ i, ¬ (41 ≤ i ∧ i < 49) → σ' i = σ i) (b : ∀ i, 50 ≤ i → i < 58 → μ' i = μ i) (t : RS σ' μ') : Rel σ' μ' := by
  obtain ⟨r1, r2, z, rk, rf, rt, rs⟩ := h
  have e50 := b 50 (by decide) (by decide)
  have e51 := b 51 (by decide) (by decide)
  have e52 := b 52 (by decide) (by decide)
  have e53 := b 53 (by decide) (by decide)
  exact ⟨by rw [e51]; exact Rh_fr r1 r2 (fun i x y => a i (by omega)), by rw [e51]; exact r2, by rw [e51, e52, e53]; exact z, RK_fr rk (a 0 (by decide)) (fun i x y => a i (by omega)) (by rw [e50]) e52, RF_fr rf (a 49 (by decide)) (b 54 (by decide) (by decide)), RT_fr rt (by rw [a 38 (by decide)]) (a 39 (by decide)) (by rw [e50]) (b 55 (by decide) (by decide)), t⟩
theorem miss_C {a : Nat} {σ : Mem} : f_X2_isMissing a σ = some (if σ a 0 = 0 then 1 else 0, σ) := by
  unfold f_X2_isMissing
  split <;> rfl
theorem lay_L {b n : Nat} (hn : n ≤ 40) : ∀ (m k : Nat) (σ : Mem), k ≤ n → n - k < m → (∀ j, j < k → σ (b + 1) j = 0) → ∃ σ', f_X2_lay_L12 m b (nI n) (nI k) σ = some ((), σ') ∧ (∀ j, j < n → σ' (b + 1) j = 0) ∧ (∀ i, i ≠ b + 1 → σ' i = σ i) := by
  intro m
  induction m with
  | zero => intro k σ _ q; omega
  | succ m ih =>
    intro k σ hk hm hz
    rw [f_X2_lay_L12_s]
    rcases Nat.lt_or_ge k n with q | q
    · rw [if_neg (nle_of q (by omega)), vI_at rfl (by omega) (by decide), vW_e, vL_e, show nI k + 1 = nI (k + 1) from nI_1 k]
      obtain ⟨σ', h1, h2, h3⟩ := ih (k + 1) (up2 σ (b + 1) k 0) q (by omega) (fun j hj => by
        rw [up2_s]
        by_cases e : j = k
        · subst e; rw [upd_s]
        · rw [upd_n e]; exact hz j (by omega))
      exact ⟨σ', h1, h2, fun i hi => (h3 i hi).trans (up2_n hi)⟩
    · rw [if_pos (nI_le q (by omega))]
      exact ⟨σ, rfl, fun j hj => hz j (by omega), fun _ _ => rfl⟩
theorem lay_C {b n : Nat} {x1 : Int32} {σ : Mem} (hn : n ≤ 40) : ∃ σ', f_X2_lay b x1 (nI n) σ = some ((), σ') ∧ σ' b = upd (upd (σ b) 0 x1) 1 (nI n) ∧ (∀ j, j < n → σ' (b + 1) j = 0) ∧ (∀ i, i ≠ b → i ≠ b + 1 → σ' i = σ i) := by
  unfold f_X2_lay
  rw [vW_e, vW_e, vL_e]
  obtain ⟨σ', h1, h2, h3⟩ := lay_L (b := b) hn FU 0 (up2 (up2 σ b 0 x1) b 1 (nI n)) (Nat.zero_le _) (FU_gt (by omega)) (fun j hj => by omega)
  refine ⟨σ', h1, ?_, h2, fun i h4 h5 => ?_⟩
  · rw [h3 b (by omega), up2_s, up2_s]
  · rw [h3 i h5, up2_n h4, up2_n h4]
theorem ix160 {s k : Nat} : (40 * nI s) + nI k = nI (40 * s + k) := by
  rw [show (40 : Int32) = nI 40 from rfl, pk_mul, nI_add]
theorem shz_L {s : Nat} (hs : s < 4) : ∀ (m k : Nat) (μ : Mem), k ≤ 40 → 40 - k < m → (∀ j, j < k → μ 60 (40 * s + j) = 0) → ∃ μ', f_X5_sheet_L86 m (nI s) (nI k) μ = some (μ 59 s, μ') ∧ (∀ j, j < 40 → μ' 60 (40 * s + j) = 0) ∧ (∀ p, (p < 40 * s ∨ 40 * s + 40 ≤ p) → μ' 60 p = μ 60 p) ∧ (∀ i, i ≠ 60 → μ' i = μ i) := by
  intro m
  induction m with
  | zero => intro k μ _ q; omega
  | succ m ih =>
    intro k μ hk hm hz
    rw [f_X5_sheet_L86_s, ix160]
    have e40 : (40 : Int32) = nI 40 := rfl
    rcases Nat.lt_or_ge k 40 with q | q
    · rw [e40, if_neg (nle_of q (by omega)), vI_at rfl (by omega) (by decide), vW_e, vL_e, show nI k + 1 = nI (k + 1) from nI_1 k]
      obtain ⟨μ', h1, h2, h3, h4⟩ := ih (k + 1) (up2 μ 60 (40 * s + k) 0) q (by omega) (fun j hj => by
        rw [up2_s]
        by_cases e : j = k
        · subst e; rw [upd_s]
        · rw [upd_n (by omega)]; exact hz j (by omega))
      refine ⟨μ', ?_, h2, fun p hp => ?_, fun i hi => (h4 i hi).trans (up2_n hi)⟩
      · rw [h1, up2_n (by decide)]
      · rw [h3 p hp, up2_s, upd_n (by omega)]
    · rw [e40, if_pos (nI_le q (by omega)), vI_at rfl hs (by decide)]
      exact ⟨μ, rfl, fun j hj => hz j (by omega), fun _ _ => rfl, fun _ _ => rfl⟩
theorem sheet_core {σ μ : Mem} {s n : Nat} {x2 : Int32} (h : Rel σ μ) (hs : s < 4) (hn : n ≤ 40) (h2 : x2 = 0 ∨ x2 = 8 ∨ x2 = 16 ∨ x2 = 32) : ∃ (r : Int32) (σ' μ' : Mem), f_X4_sheet_J74 (nI s) (40 + 1 + 2 * s) x2 (nI n) σ = some (r, σ') ∧ f_X5_sheet_J82 (nI s) (nI s) (nI n) (up2 μ 58 s x2) = some (r, μ') ∧ Rel σ' μ' := by
  unfold f_X4_sheet_J74 f_X5_sheet_J82
  obtain ⟨σ', a1, a2, a3, a4⟩ := lay_C (b := 40 + 1 + 2 * s) (x1 := x2) (σ := σ) hn
  rw [a1, vC_s, vI_at rfl hs (by decide), a2, upd_s, vI_at rfl hs (by decide), vW_e, vL_e]
  obtain ⟨μ', b1, b2, b3, b4⟩ := shz_L hs FU 0 (up2 (up2 μ 58 s x2) 59 s (nI n)) (by decide) (FU_gt (by decide)) (fun j hj => by omega)
  have b1' : f_X5_sheet_L86 FU (nI s) 0 (up2 (up2 μ 58 s x2) 59 s (nI n)) = some (up2 (up2 μ 58 s x2) 59 s (nI n) 59 s, μ') := b1
  rw [b1', up2_s, upd_s]
  refine ⟨_, _, _, rfl, rfl, h.sht (fun i hi => a4 i (by omega) (by omega)) (fun i h1 h2 => by rw [b4 i (by omega), up2_n (by omega), up2_n (by omega)]) ?_⟩
  intro t ht
  rw [b4 58 (by decide), b4 59 (by decide), up2_n (show 58 ≠ 59 by decide), up2_s, up2_s, up2_n (show 59 ≠ 58 by decide)]
  by_cases e : t = s
  · subst e
    rw [a2, upd_s, upd_s]
    refine ⟨by rw [upd_n (by decide), upd_s], h2, n, hn, rfl, by rw [upd_s], fun k hk => ?_⟩
    rw [a3 k hk, b2 k (by omega)]
  · rw [upd_n e, upd_n e, a4 _ (by omega) (by omega), a4 _ (by omega) (by omega)]
    obtain ⟨c1, c2, n', c3, c4, c5, c6⟩ := h.2.2.2.2.2.2 t ht
    refine ⟨c1, c2, n', c3, c4, c5, fun k hk => ?_⟩
    rw [b3 _ (by omega), up2_n (show 60 ≠ 59 by decide), up2_n (show 60 ≠ 58 by decide)]
    exact c6 k hk
theorem sim31 : Sim31 Rel := by
  intro σ μ x1 x2 x3 h
  unfold f_X4_sheet f_X5_sheet
  by_cases c : ¬ x1 < 0 ∧ ¬ 3 < x1
  · rw [isSheet_C1 c, isSheet_M1 c, vC_s, vC_s, if_neg n10, if_neg n10]
    have core : (x2 = 0 ∨ x2 = 8 ∨ x2 = 16 ∨ x2 = 32) → ∃ (r : Int32) (σ' μ' : Mem), f_X4_sheet_J35 x1 x2 x3 σ = some (r, σ') ∧ f_X5_sheet_J36 x1 x2 x3 μ = some (r, μ') ∧ Rel σ' μ' := by
      intro h2
      obtain ⟨s, hs, rfl⟩ := rg_of (m := 3) (by decide) rfl c
      unfold f_X4_sheet_J35 f_X5_sheet_J36
      by_cases d : (0 : Int32) ≤ x3
      · rw [if_pos d, if_pos d]
        by_cases e : x3 ≤ 40
        · rw [if_pos e, if_pos e, vI_at rfl (by omega) (by decide), vI_at rfl (by omega) (by decide), vW_e]
          obtain ⟨n, hn, rfl⟩ := nI_of2 (n := 40) (M := 40) rfl (fun q => Int32.not_lt.mpr d q) e
          by_cases f : x2 = 0
          · rw [if_pos f, if_pos f]
            exact sheet_core (n := 0) h (by omega) (by decide) h2
          · rw [if_neg f, if_neg f]
            exact sheet_core h (by omega) hn h2
        · rw [if_neg e, if_neg e]
          exact fin0 h
      · rw [if_neg d, if_neg d]
        exact fin6 h
    by_cases c0 : x2 = 0
    · rw [if_pos c0, if_pos c0]; exact core (Or.inl c0)
    rw [if_neg c0, if_neg c0]
    by_cases c1 : x2 = 8
    · rw [if_pos c1, if_pos c1]; exact core (Or.inr (Or.inl c1))
    rw [if_neg c1, if_neg c1]
    by_cases c2 : x2 = 16
    · rw [if_pos c2, if_pos c2]; exact core (Or.inr (Or.inr (Or.inl c2)))
    rw [if_neg c2, if_neg c2]
    by_cases c3 : x2 = 32
    · rw [if_pos c3, if_pos c3]; exact core (Or.inr (Or.inr (Or.inr c3)))
    rw [if_neg c3, if_neg c3]
    exact fin0 h
  · rw [isSheet_C0 c, isSheet_M0 c, vC_s, vC_s, if_pos rfl, if_pos rfl]
    exact fin0 h
theorem sub_toInt {n c : Nat} (hn : n ≤ 1000) (hc : c < 2 ^ 31) : (nI n - nI c).toInt = (n : Int) - c := by
  rw [Int32.toInt_sub, nI_toInt (by omega), nI_toInt hc]
  refine Int.bmod_eq_of_le ?_ ?_ <;> omega
theorem idx_of {x : Int32} {n : Nat} (hn : n ≤ 1000) (h : ¬ x < 0 ∧ ¬ (nI n - 1) < x) : ∃ c, c < n ∧ x = nI c := by
  obtain ⟨j, hj, rfl⟩ := nI_of h.1
  refine ⟨j, ?_, rfl⟩
  rcases Nat.lt_or_ge j n with q | q
  · exact q
  · refine absurd ?_ h.2
    rw [Int32.lt_iff_toInt_lt, show (1 : Int32) = nI 1 from rfl, sub_toInt hn (by decide), nI_toInt hj]
    omega
theorem put_C {b k : Nat} {x : Int32} {σ : Mem} (hk : k < 40) : f_X2_put b (nI k) x σ = some ((), up2 σ (b + 1) k (if σ b 0 = 8 then x.toInt8.toInt32 else if σ b 0 = 16 then x.toInt16.toInt32 else x)) := by
  unfold f_X2_put
  rw [vI_at rfl hk (by decide), vI_at rfl hk (by decide), vI_at rfl hk (by decide)]
  simp only [vW_e]
  split
  · rfl
  · split <;> rfl
theorem cut_M {x w : Int32} {μ : Mem} : f_X5_cutTo x w μ = some (if w = 8 then x.toInt8.toInt32 else if w = 16 then x.toInt16.toInt32 else x, μ) := by
  unfold f_X5_cutTo
  split
  · rfl
  · split <;> rfl
theorem sim32 : Sim32 Rel := by
  intro σ μ x1 x2 x3 h
  unfold f_X4_write f_X5_write
  by_cases c : ¬ x1 < 0 ∧ ¬ 3 < x1
  · rw [isSheet_C1 c, isSheet_M1 c, vC_s, vC_s, if_neg n10, if_neg n10]
    obtain ⟨s, hs, rfl⟩ := rg_of (m := 3) (by decide) rfl c
    obtain ⟨c1, c2, n, c3, c4, c5, c6⟩ := h.2.2.2.2.2.2 s (by omega)
    simp only [vI_at (j := s) (x := nI s) rfl (show s < 4 by omega) (by decide), miss_C, vC_s, c1, c4, c5]
    by_cases d : μ 58 s = 0
    · rw [if_pos d, if_neg n10, if_pos d]
      exact fin5 h
    · rw [if_neg d, if_pos rfl, if_neg d]
      by_cases e : ¬ x2 < 0 ∧ ¬ (nI n - 1) < x2
      · rw [wC1 e, wM1 e, vC_s, vC_s, if_neg n10, if_neg n10]
        obtain ⟨k, hk, rfl⟩ := idx_of (by omega) e
        rw [put_C (by omega), vC_s, cut_M, vC_s, ix160, vI_at rfl (by omega) (by decide), vW_e, c1]
        refine ⟨_, _, _, rfl, rfl, h.sht (fun i hi => up2_n (by omega)) (fun i h1 h2 => up2_n (by omega)) ?_⟩
        intro t ht
        rw [up2_n (show 58 ≠ 60 by decide), up2_n (show 59 ≠ 60 by decide), up2_s, up2_n (show 40 + 1 + 2 * t ≠ 40 + 1 + 2 * s + 1 by omega)]
        obtain ⟨q1, q2, n', q3, q4, q5, q6⟩ := h.2.2.2.2.2.2 t ht
        refine ⟨q1, q2, n', q3, q4, q5, fun j hj => ?_⟩
        by_cases f : t = s
        · subst f
          rw [up2_s]
          by_cases g : j = k
          · subst g; rw [upd_s, upd_s]
          · rw [upd_n g, upd_n (by omega)]; exact q6 j hj
        · rw [up2_n (by omega), upd_n (by omega)]; exact q6 j hj
      · rw [wC0 e, wM0 e, vC_s, vC_s, if_pos rfl, if_pos rfl]
        exact fin0 h
  · rw [isSheet_C0 c, isSheet_M0 c, vC_s, vC_s, if_pos rfl, if_pos rfl]
    exact fin0 h
theorem has_C {b n : Nat} {x1 x2 : Int32} {σ : Mem} (hn : n ≤ 40) (e : σ b 1 = nI n) : f_X2_has b x1 x2 σ = some (if ¬ x1 < 0 ∧ ¬ x2 < 0 ∧ x1.toNatClampNeg + x2.toNatClampNeg ≤ n then 1 else 0, σ) := by
  unfold f_X2_has
  rw [e]
  by_cases c : x2 < 0
  · rw [if_pos c, if_neg (fun q => q.2.1 c)]
  · rw [if_neg c]
    by_cases d : x1 < 0
    · rw [if_pos d, if_neg (fun q => q.1 d)]
    · rw [if_neg d]
      obtain ⟨a, ha, rfl⟩ := nI_of d
      obtain ⟨b, hb, rfl⟩ := nI_of c
      rw [nI_clamp ha, nI_clamp hb]
      have key : nI n - nI b < nI a ↔ ¬ (a + b ≤ n) := by
        rw [Int32.lt_iff_toInt_lt, sub_toInt (by omega) hb, nI_toInt ha]
        omega
      by_cases f : a + b ≤ n
      · rw [if_neg (fun q => key.mp q f), if_pos ⟨d, c, f⟩]
      · rw [if_pos (key.mpr f), if_neg (fun q => f q.2.2)]
theorem has_C1 {b n : Nat} {x1 x2 : Int32} {σ : Mem} (hn : n ≤ 40) (e : σ b 1 = nI n) (h : ¬ x1 < 0 ∧ ¬ x2 < 0 ∧ x1.toNatClampNeg + x2.toNatClampNeg ≤ n) : f_X2_has b x1 x2 σ = some (1, σ) := by rw [has_C hn e, if_pos h]
theorem has_C0 {b n : Nat} {x1 x2 : Int32} {σ : Mem} (hn : n ≤ 40) (e : σ b 1 = nI n) (h : ¬ (¬ x1 < 0 ∧ ¬ x2 < 0 ∧ x1.toNatClampNeg + x2.toNatClampNeg ≤ n)) : f_X2_has b x1 x2 σ = some (0, σ) := by rw [has_C hn e, if_neg h]
theorem lg1 {a b : Nat} (ha : a < 2 ^ 63) (hb : b < 2 ^ 63) : 0 < lg_cmp (lN a) (lN b) ↔ ¬ a ≤ b := by
  unfold lg_cmp
  by_cases c : b < a
  · rw [if_pos ((pk_lLT hb ha).mpr c)]
    exact ⟨fun _ => by omega, fun _ => by decide⟩
  · have c1 : ¬ lN a > lN b := fun q => c ((pk_lLT hb ha).mp q)
    rw [if_neg c1]
    refine ⟨fun q => ?_, fun q => by omega⟩
    split at q
    · exact absurd q (by decide)
    · exact absurd q (by decide)
theorem lg2 {a b : Nat} (ha : a < 2 ^ 63) (hb : b < 2 ^ 63) : lg_cmp (lN a) (lN b) ≤ 0 ↔ a ≤ b := by
  rw [← Int32.not_lt, lg1 ha hb]
  omega
theorem cp1_L {s a t b c : Nat} (hs : s < 4) (ha : a + c ≤ 40) : ∀ (m k : Nat) (μ : Mem), k ≤ c → c - k < m → (∀ j, j < k → μ 61 j = μ 60 (40 * s + a + j)) → ∃ μ', f_X5_copy_L128 m (nI s) (nI a) (nI t) (nI b) (nI c) (nI k) μ = f_X5_copy_L165 FU (nI t) (nI b) (nI c) 0 μ' ∧ (∀ j, j < c → μ' 61 j = μ 60 (40 * s + a + j)) ∧ (∀ i, i ≠ 61 → μ' i = μ i) := by
  intro m
  induction m with
  | zero => intro k μ _ q; omega
  | succ m ih =>
    intro k μ hk hm hz
    rw [f_X5_copy_L128_s, ix160, nI_add]
    rcases Nat.lt_or_ge k c with q | q
    · rw [if_neg (nle_of q (by omega)), vI_at rfl (by omega) (by decide), vI_at rfl (by omega) (by decide), vW_e, vL_e, show nI k + 1 = nI (k + 1) from nI_1 k]
      obtain ⟨μ', h1, h2, h3⟩ := ih (k + 1) (up2 μ 61 k (μ 60 (40 * s + a + k))) q (by omega) (fun j hj => by
        rw [up2_s, up2_n (by decide)]
        by_cases e : j = k
        · subst e; rw [upd_s]
        · rw [upd_n e]; exact hz j (by omega))
      refine ⟨μ', h1, fun j hj => ?_, fun i hi => (h3 i hi).trans (up2_n hi)⟩
      rw [h2 j hj, up2_n (by decide)]
    · rw [if_pos (nI_le q (by omega)), vL_e]
      exact ⟨μ, rfl, fun j hj => hz j (by omega), fun _ _ => rfl⟩
theorem cp2_L {t b c : Nat} (ht : t < 4) (hb : b + c ≤ 40) {f : Nat → Int32} : ∀ (m k : Nat) (μ : Mem), k ≤ c → c - k < m → (∀ j, j < c → μ 61 j = f j) → ∃ μ', f_X5_copy_L165 m (nI t) (nI b) (nI c) (nI k) μ = some (nI c, μ') ∧ (∀ j, k ≤ j → j < c → μ' 60 (40 * t + b + j) = f j) ∧ (∀ p, (p < 40 * t + b + k ∨ 40 * t + b + c ≤ p) → μ' 60 p = μ 60 p) ∧ (∀ i, i ≠ 60 → μ' i = μ i) := by
  intro m
  induction m with
  | zero => intro k μ _ q; omega
  | succ m ih =>
    intro k μ hk hm hz
    rw [f_X5_copy_L165_s, ix160, nI_add]
    rcases Nat.lt_or_ge k c with q | q
    · rw [if_neg (nle_of q (by omega)), vI_at rfl (by omega) (by decide), vI_at rfl (by omega) (by decide), vW_e, vL_e, show nI k + 1 = nI (k + 1) from nI_1 k]
      obtain ⟨μ', h1, h2, h3, h4⟩ := ih (k + 1) (up2 μ 60 (40 * t + b + k) (μ 61 k)) q (by omega) (fun j hj => by
        rw [up2_n (by decide)]; exact hz j hj)
      refine ⟨μ', h1, fun j h5 h6 => ?_, fun p hp => ?_, fun i hi => (h4 i hi).trans (up2_n hi)⟩
      · by_cases e : j = k
        · subst e
          rw [h3 _ (by omega), up2_s, upd_s]; exact hz j h6
        · exact h2 j (by omega) h6
      · rw [h3 p (by omega), up2_s, upd_n (by omega)]
    · rw [if_pos (nI_le q (by omega))]
      exact ⟨μ, rfl, fun j h1 h2 => by omega, fun _ _ => rfl, fun _ _ => rfl⟩
theorem sim33 : Sim33 Rel := by
  intro σ μ x1 x2 x3 x4 x5 h
  unfold f_X4_copy f_X5_copy f_X4_copy_J14 f_X4_copy_J52 f_X4_copy_J100 f_X5_copy_J14 f_X5_copy_J39 f_X5_copy_J118
  by_cases c : ¬ x1 < 0 ∧ ¬ 3 < x1
  · rw [isSheet_C1 c, isSheet_M1 c, vC_s, vC_s, if_neg n10, if_neg n10]
    by_cases d : ¬ x3 < 0 ∧ ¬ 3 < x3
    · rw [isSheet_C1 d, isSheet_M1 d, vC_s, vC_s, if_neg n10, if_neg n10]
      obtain ⟨s, hs, rfl⟩ := rg_of (m := 3) (by decide) rfl c
      obtain ⟨t, ht, rfl⟩ := rg_of (m := 3) (by decide) rfl d
      obtain ⟨c1, c2, n, c3, c4, c5, c6⟩ := h.2.2.2.2.2.2 s (by omega)
      obtain ⟨d1, d2, m, d3, d4, d5, d6⟩ := h.2.2.2.2.2.2 t (by omega)
      simp only [vI_at (j := s) (x := nI s) rfl (show s < 4 by omega) (by decide), vI_at (j := t) (x := nI t) rfl (show t < 4 by omega) (by decide), miss_C, vC_s, c1, d1, c5, d5]
      by_cases e : μ 58 s = 0
      · rw [if_pos e, if_neg n10, if_pos e]; exact fin5 h
      rw [if_neg e, if_pos rfl, if_neg e]
      by_cases f : μ 58 t = 0
      · rw [if_pos f, if_neg n10, if_pos f]; exact fin5 h
      rw [if_neg f, if_pos rfl, if_neg f]
      by_cases g : μ 58 s = μ 58 t
      · rw [if_pos g, if_pos g]
        by_cases g2 : x2 < 0
        · rw [has_C0 c3 c4 (fun q => q.1 g2), vC_s, if_pos rfl, if_pos g2]; exact fin0 h
        rw [if_neg g2]
        by_cases g5 : x5 < 0
        · rw [has_C0 c3 c4 (fun q => q.2.1 g5), vC_s, if_pos rfl, if_pos g5]
          split <;> exact fin0 h
        by_cases g6 : x2.toNatClampNeg + x5.toNatClampNeg ≤ n
        · rw [has_C1 c3 c4 ⟨g2, g5, g6⟩, vC_s, if_neg n10]
          by_cases g4 : x4 < 0
          · rw [has_C0 d3 d4 (fun q => q.1 g4), vC_s, if_pos rfl, if_pos g4]; exact fin0 h
          rw [if_neg g4, if_neg g5]
          obtain ⟨a, ha, rfl⟩ := nI_of g2
          obtain ⟨b, hb, rfl⟩ := nI_of g4
          obtain ⟨w, hw, rfl⟩ := nI_of g5
          rw [nI_clamp ha, nI_clamp hw] at g6
          rw [nI_l ha, nI_l hb, nI_l hw, nI_l (show n < 2 ^ 31 by omega), nI_l (show m < 2 ^ 31 by omega), lN_add, lN_add]
          have l1 : ¬ 0 < lg_cmp (lN (a + w)) (lN n) := fun q => (lg1 (by omega) (by omega)).mp q g6
          rw [if_neg l1]
          by_cases g7 : b + w ≤ m
          · have g7' : ¬ nI b < 0 ∧ ¬ nI w < 0 ∧ (nI b).toNatClampNeg + (nI w).toNatClampNeg ≤ m := ⟨g4, g5, by rw [nI_clamp hb, nI_clamp hw]; exact g7⟩
            rw [has_C1 d3 d4 g7', vC_s, if_neg n10, if_pos ((lg2 (by omega) (by omega)).mpr g7), vL_e]
            unfold vY
            rw [nI_clamp ha, nI_clamp hb, nI_clamp hw, if_pos ⟨g2, g4, g5, by omega, by omega⟩]
            obtain ⟨μ1, a1, a2, a3⟩ := cp1_L (t := t) (b := b) (show s < 4 by omega) (show a + w ≤ 40 by omega) FU 0 μ (Nat.zero_le _) (FU_gt (by omega)) (fun j hj => by omega)
            have a1' : f_X5_copy_L128 FU (nI s) (nI a) (nI t) (nI b) (nI w) 0 μ = f_X5_copy_L165 FU (nI t) (nI b) (nI w) 0 μ1 := a1
            obtain ⟨μ2, b1, b2, b3, b4⟩ := cp2_L (show t < 4 by omega) (show b + w ≤ 40 by omega) (f := fun j => μ 60 (40 * s + a + j)) FU 0 μ1 (Nat.zero_le _) (FU_gt (by omega)) a2
            have b1' : f_X5_copy_L165 FU (nI t) (nI b) (nI w) 0 μ1 = some (nI w, μ2) := b1
            rw [a1', b1']
            refine ⟨_, _, _, rfl, rfl, h.sht (fun i hi => setr_ne (by omega)) (fun i h1 h2 => by rw [b4 i (by omega), a3 i (by omega)]) ?_⟩
            intro v hv
            rw [b4 58 (by decide), b4 59 (by decide), a3 58 (by decide), a3 59 (by decide)]
            obtain ⟨q1, q2, n', q3, q4, q5, q6⟩ := h.2.2.2.2.2.2 v hv
            unfold cpy2
            rw [setr_ne (show 40 + 1 + 2 * v ≠ 40 + 1 + 2 * t + 1 by omega)]
            refine ⟨q1, q2, n', q3, q4, q5, fun j hj => ?_⟩
            by_cases k : v = t
            · subst k
              rw [setr_same]
              by_cases k2 : b ≤ j ∧ j < b + w
              · rw [pk_cpy_in k2.1 k2.2, c6 _ (by omega)]
                have := b2 (j - b) (by omega) (by omega)
                rw [show 40 * v + j = 40 * v + b + (j - b) by omega, this]
                congr 1
                omega
              · rw [pk_cpy_out (by omega), b3 _ (by omega), a3 60 (by decide)]
                exact q6 j hj
            · rw [setr_ne (by omega), b3 _ (by omega), a3 60 (by decide)]
              exact q6 j hj
          · have g7' : ¬ (¬ nI b < 0 ∧ ¬ nI w < 0 ∧ (nI b).toNatClampNeg + (nI w).toNatClampNeg ≤ m) := fun q => g7 (by have := q.2.2; rw [nI_clamp hb, nI_clamp hw] at this; exact this)
            have l2 : ¬ lg_cmp (lN (b + w)) (lN m) ≤ 0 := fun q => g7 ((lg2 (by omega) (by omega)).mp q)
            rw [has_C0 d3 d4 g7', vC_s, if_pos rfl, if_neg l2]
            exact fin0 h
        · rw [has_C0 c3 c4 (fun q => g6 q.2.2), vC_s, if_pos rfl]
          by_cases g4 : x4 < 0
          · rw [if_pos g4]; exact fin0 h
          rw [if_neg g4, if_neg g5]
          obtain ⟨a, ha, rfl⟩ := nI_of g2
          obtain ⟨w, hw, rfl⟩ := nI_of g5
          rw [nI_clamp ha, nI_clamp hw] at g6
          rw [nI_l ha, nI_l hw, nI_l (show n < 2 ^ 31 by omega), lN_add, if_pos ((lg1 (by omega) (by omega)).mpr g6)]
          exact fin0 h
      · rw [if_neg g, if_neg g]
        exact fin2 h
    · rw [isSheet_C0 d, isSheet_M0 d, vC_s, vC_s, if_pos rfl, if_pos rfl]
      exact fin0 h
  · rw [isSheet_C0 c, isSheet_M0 c, vC_s, vC_s, if_pos rfl, if_pos rfl]
    exact fin0 h
theorem load_L {s n : Nat} (hs : s < 4) (hn : n ≤ 40) : ∀ (m k : Nat) (σ μ : Mem), Rel σ μ → k ≤ n → n - k < m → μ 59 s = nI n → ∃ (r : Int32) (σ' μ' : Mem), f_X4_load_L35 m (40 + 1 + 2 * s) (nI k) σ = some (r, σ') ∧ f_X5_load_L22 m (nI s) (nI k) μ = some (r, μ') ∧ Rel σ' μ' := by
  intro m
  induction m with
  | zero => intro k σ μ _ _ q; omega
  | succ m ih =>
    intro k σ μ h hk hm hn'
    obtain ⟨c1, c2, n', c3, c4, c5, c6⟩ := h.2.2.2.2.2.2 s hs
    have en : n' = n := by
      rw [hn'] at c5
      exact ((nI_eq (by omega) (by omega)).mp c5).symm
    subst en
    rw [f_X4_load_L35_s, f_X5_load_L22_s, vI_at rfl hs (by decide), c4, c5]
    rcases Nat.lt_or_ge k n' with q | q
    · rw [if_neg (nle_of q (by omega)), if_neg (nle_of q (by omega))]
      by_cases c : ¬ nI k < 0 ∧ ¬ (μ 51 1 - 1) < nI k
      · rw [isCurtain_C1 h.1.1.2.2.2.2.2 c, isCurtain_M1 c, vC_s, vC_s, if_neg n10, if_neg n10]
        obtain ⟨k', hk', e⟩ := cur_of h.2.1 c
        have h8 := h.2.1.hung.2
        have ek : k = k' := (nI_eq (by omega) (by omega)).mp e
        subst ek
        rw [ix160, vI_at rfl (by omega) (by decide), vI_at rfl (by omega) (by decide), c6 k q]
        by_cases d : ¬ μ 60 (40 * s + k) < 0 ∧ ¬ 4095 < μ 60 (40 * s + k)
        · rw [wC1 d, isSet_M1 d, vC_s, vC_s, if_neg n10, if_neg n10, vI_at rfl (by omega) (by decide), vI_at rfl (by omega) (by decide), vW_e, vL_e, cAt2, vC_s, vI_at rfl (by omega) (by decide), vI_at rfl (by omega) (by decide), vW_e, vL_e, c6 k q, show nI k + 1 = nI (k + 1) from nI_1 k]
          refine ih (k + 1) _ _ (h.one (by omega) (by omega) (Rh_cur h.1 (by omega) (by decide)) (Inv_cur h.2.1 (by omega) (by decide) (fun q => by omega) (fun _ => (rg_iff (m := 4095) (by decide)).mpr d))) q (by omega) ?_
          show up2 μ 51 _ _ 59 s = _
          rw [up2_n (by decide)]; exact c5
        · rw [wC0 d, isSet_M0 d, vC_s, vC_s, if_pos rfl, if_pos rfl]
          exact ⟨_, _, _, rfl, rfl, h⟩
      · rw [isCurtain_C0 h.1.1.2.2.2.2.2 c, isCurtain_M0 c, vC_s, vC_s, if_pos rfl, if_pos rfl]
        exact ⟨_, _, _, rfl, rfl, h⟩
    · rw [if_pos (nI_le q (by omega)), if_pos (nI_le q (by omega)), show k = n' by omega]
      exact ⟨_, _, _, rfl, rfl, h⟩
theorem lk0 {x1 x2 : Int32} {μ : Mem} (c : ¬ (¬ x1 < 0 ∧ ¬ 3 < x1)) : f_X5_lacks x1 x2 μ = some (-1000001, μ) := by
  unfold f_X5_lacks
  rw [isSheet_M0 c, vC_s, if_pos rfl]
theorem lk5 {s : Nat} {x2 : Int32} {μ : Mem} (hs : s < 4) (d : μ 58 s = 0) : f_X5_lacks (nI s) x2 μ = some (-1000006, μ) := by
  unfold f_X5_lacks
  rw [isSheet_M1 ((rg_iff (m := 3) (by decide)).mp ⟨s, by omega, rfl⟩), vC_s, if_neg n10, vI_at rfl hs (by decide), if_pos d]
theorem lk1 {s : Nat} {μ : Mem} (hs : s < 4) (d : ¬ μ 58 s = 0) : f_X5_lacks (nI s) 1 μ = some (0, μ) := by
  unfold f_X5_lacks
  rw [isSheet_M1 ((rg_iff (m := 3) (by decide)).mp ⟨s, by omega, rfl⟩), vC_s, if_neg n10, vI_at rfl hs (by decide), if_neg d, if_neg n10]
theorem lk2 {s : Nat} {μ : Mem} (hs : s < 4) (d : ¬ μ 58 s = 0) : f_X5_lacks (nI s) 0 μ = some (-1000001, μ) := by
  unfold f_X5_lacks
  rw [isSheet_M1 ((rg_iff (m := 3) (by decide)).mp ⟨s, by omega, rfl⟩), vC_s, if_neg n10, vI_at rfl hs (by decide), if_neg d, if_pos rfl]
theorem sim34 : Sim34 Rel := by
  intro σ μ x1 h
  unfold f_X4_load f_X5_load
  by_cases c : ¬ x1 < 0 ∧ ¬ 3 < x1
  · rw [isSheet_C1 c, vC_s, if_neg n10]
    obtain ⟨s, hs, rfl⟩ := rg_of (m := 3) (by decide) rfl c
    obtain ⟨c1, c2, n, c3, c4, c5, c6⟩ := h.2.2.2.2.2.2 s (by omega)
    rw [vI_at rfl (by omega) (by decide), miss_C, vC_s, c1]
    by_cases d : μ 58 s = 0
    · rw [if_pos d, lk5 (by omega) d, vC_s, if_neg n10, if_neg (show ¬ (-1000006 : Int32) = 0 by decide), lk5 (by omega) d, vC_s]
      exact fin5 h
    · rw [if_neg d, lk1 (by omega) d, vC_s, if_pos rfl, if_pos rfl, vL_e, vL_e]
      exact load_L (by omega) c3 FU 0 σ μ h (Nat.zero_le _) (FU_gt (by omega)) c5
  · rw [isSheet_C0 c, vC_s, if_pos rfl, lk0 c, vC_s, if_neg (show ¬ (-1000001 : Int32) = 0 by decide), lk0 c, vC_s]
    exact fin0 h
theorem judge_L {s n : Nat} (hs : s < 4) (hn : n ≤ 40) {σ μ : Mem} (h : Rel σ μ) (hn' : μ 59 s = nI n) : ∀ (m k : Nat), k ≤ n → n - k < m → ∃ (r : Int32), f_X4_judge_L35 m (40 + 1 + 2 * s) (nI k) σ = some (r, σ) ∧ f_X5_judge_L22 m (nI s) (nI k) μ = some (r, μ) := by
  intro m
  obtain ⟨c1, c2, n', c3, c4, c5, c6⟩ := h.2.2.2.2.2.2 s hs
  have en : n' = n := by
    rw [hn'] at c5
    exact ((nI_eq (by omega) (by omega)).mp c5).symm
  subst en
  have J66 : ∀ k, k < n' → f_X5_judge_J66 (nI s) (nI k) μ = some (1 + nI k, μ) := by
    intro k hk
    unfold f_X5_judge_J66
    rw [vI_at rfl hs (by decide), c5, if_neg (fun q => by have := (nI_eq (by omega) (by omega)).mp q; omega)]
  have J66' : f_X5_judge_J66 (nI s) (nI n') μ = some (0, μ) := by
    unfold f_X5_judge_J66
    rw [vI_at rfl hs (by decide), c5, if_pos rfl]
  induction m with
  | zero => intro k _ q; omega
  | succ m ih =>
    intro k hk hm
    rw [f_X4_judge_L35_s, f_X5_judge_L22_s, vI_at rfl hs (by decide), c4, c5]
    unfold f_X4_judge_J72
    rcases Nat.lt_or_ge k n' with q | q
    · rw [if_neg (nle_of q (by omega)), if_neg (nle_of q (by omega))]
      by_cases c : ¬ nI k < 0 ∧ ¬ (μ 51 1 - 1) < nI k
      · rw [isCurtain_C1 h.1.1.2.2.2.2.2 c, isCurtain_M1 c, vC_s, vC_s, if_neg n10, if_neg n10]
        obtain ⟨k', hk', e⟩ := cur_of h.2.1 c
        have h8 := h.2.1.hung.2
        have ek : k = k' := (nI_eq (by omega) (by omega)).mp e
        subst ek
        rw [ix160, vI_at rfl (by omega) (by decide), vI_at rfl (by omega) (by decide), vI_at rfl (by omega) (by decide), cIs3 (by omega), vC_s, c6 k q, h.1.2.2.2 k 3 hk' (by decide), vL_e, vL_e, show nI k + 1 = nI (k + 1) from nI_1 k, J66 k q]
        by_cases d : μ 60 (40 * s + k) = cur (μ 51) k 3
        · rw [if_pos d, if_pos d]
          exact ih (k + 1) q (by omega)
        · rw [if_neg d, if_neg d]
          exact ⟨_, rfl, rfl⟩
      · rw [isCurtain_C0 h.1.1.2.2.2.2.2 c, isCurtain_M0 c, vC_s, vC_s, if_pos rfl, if_pos rfl, J66 k q]
        exact ⟨_, rfl, rfl⟩
    · rw [if_pos (nI_le q (by omega)), if_pos (nI_le q (by omega)), show k = n' by omega, J66']
      exact ⟨_, rfl, rfl⟩
theorem sim35 : Sim35 Rel := by
  intro σ μ x1 h
  unfold f_X4_judge f_X5_judge
  by_cases c : ¬ x1 < 0 ∧ ¬ 3 < x1
  · rw [isSheet_C1 c, vC_s, if_neg n10]
    obtain ⟨s, hs, rfl⟩ := rg_of (m := 3) (by decide) rfl c
    obtain ⟨c1, c2, n, c3, c4, c5, c6⟩ := h.2.2.2.2.2.2 s (by omega)
    rw [vI_at rfl (by omega) (by decide), miss_C, vC_s, c1]
    by_cases d : μ 58 s = 0
    · rw [if_pos d, lk5 (by omega) d, vC_s, if_neg n10, if_neg (show ¬ (-1000006 : Int32) = 0 by decide), lk5 (by omega) d, vC_s]
      exact fin5 h
    · rw [if_neg d, lk1 (by omega) d, vC_s, if_pos rfl, if_pos rfl, vL_e, vL_e]
      obtain ⟨r, g1, g2⟩ := judge_L (by omega) c3 h c5 FU 0 (Nat.zero_le _) (FU_gt (by omega))
      exact ⟨r, σ, μ, g1, g2, h⟩
  · rw [isSheet_C0 c, vC_s, if_pos rfl, lk0 c, vC_s, if_neg (show ¬ (-1000001 : Int32) = 0 by decide), lk0 c, vC_s]
    exact fin0 h
