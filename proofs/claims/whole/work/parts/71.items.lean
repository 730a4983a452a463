/-! THE TEXT's items -/
def itm (ι : Nat → Int32) (k : Nat) (a b c d e : Int32) : Nat → Int32 := upd (upd (upd (upd (upd ι (5 * k) a) (5 * k + 1) b) (5 * k + 2) c) (5 * k + 3) d) (5 * k + 4) e
def apV (a b c d e : Int32) (M : Nat → Int32) : Nat → Int32 := if a = 10 then upd M (6 + b.toNatClampNeg) c else if a = 11 then upd M 3 b else upd (upd (upd (cmN M (hg M) a c) (22 + 6 * hg M + 1) b) (22 + 6 * hg M + 3) d) (22 + 6 * hg M + 4) e
def apI (ι : Nat → Int32) (k : Nat) (M : Nat → Int32) : Nat → Int32 := apV (ι (5 * k)) (ι (5 * k + 1)) (ι (5 * k + 2)) (ι (5 * k + 3)) (ι (5 * k + 4)) M
def apAll (ι N : Nat → Int32) : Nat → (Nat → Int32)
  | 0 => N
  | k + 1 => apI ι k (apAll ι N k)
def vOK (a b : Int32) (M : Nat → Int32) : Prop := (a = 10 ∧ ∃ p, p < 6 ∧ b = nI p) ∨ a = 11 ∨ (¬ a = 10 ∧ ¬ a = 11 ∧ hg M < 8)
def AOK (ι N : Nat → Int32) (k : Nat) : Prop := ∀ j, j ≤ k → Inv (apAll ι N j) ∧ Z70 (apAll ι N j) ∧ (j < k → vOK (ι (5 * j)) (ι (5 * j + 1)) (apAll ι N j))
section ITM
variable {ι N ρ : Nat → Int32} {k : Nat} {a b c d e : Int32}
theorem itm_lo {p : Nat} (hp : p < 5 * k) : itm ι k a b c d e p = ι p := by
  unfold itm
  rw [upd_n (by omega), upd_n (by omega), upd_n (by omega), upd_n (by omega), upd_n (by omega)]
theorem itm_0 : itm ι k a b c d e (5 * k) = a := by
  unfold itm
  rw [upd_n (by omega), upd_n (by omega), upd_n (by omega), upd_n (by omega), upd_s]
theorem itm_1 : itm ι k a b c d e (5 * k + 1) = b := by
  unfold itm
  rw [upd_n (by omega), upd_n (by omega), upd_n (by omega), upd_s]
theorem itm_2 : itm ι k a b c d e (5 * k + 2) = c := by
  unfold itm
  rw [upd_n (by omega), upd_n (by omega), upd_s]
theorem itm_3 : itm ι k a b c d e (5 * k + 3) = d := by
  unfold itm
  rw [upd_n (by omega), upd_s]
theorem itm_4 : itm ι k a b c d e (5 * k + 4) = e := upd_s
theorem ap_lo : ∀ j, j ≤ k → apAll (itm ι k a b c d e) N j = apAll ι N j := by
  intro j
  induction j with
  | zero => intro _; rfl
  | succ j ih =>
    intro hj
    show apI (itm ι k a b c d e) j (apAll (itm ι k a b c d e) N j) = apI ι j (apAll ι N j)
    unfold apI
    rw [ih (by omega), itm_lo (by omega), itm_lo (by omega), itm_lo (by omega), itm_lo (by omega), itm_lo (by omega)]
theorem ap_s : apAll (itm ι k a b c d e) N (k + 1) = apV a b c d e (apAll ι N k) := by
  show apI (itm ι k a b c d e) k (apAll (itm ι k a b c d e) N k) = _
  unfold apI
  rw [ap_lo k (Nat.le_refl _), itm_0, itm_1, itm_2, itm_3, itm_4]
theorem AOK_s (h : AOK ι N k) (hv : vOK a b (apAll ι N k)) (hI : Inv (apV a b c d e (apAll ι N k))) (hZ : Z70 (apV a b c d e (apAll ι N k))) : AOK (itm ι k a b c d e) N (k + 1) := by
  intro j hj
  by_cases q : j = k + 1
  · subst q
    rw [ap_s]
    exact ⟨hI, hZ, fun z => by omega⟩
  · rw [ap_lo j (by omega)]
    obtain ⟨h1, h2, h3⟩ := h j (by omega)
    refine ⟨h1, h2, fun _ => ?_⟩
    by_cases q2 : j = k
    · subst q2
      rw [itm_0, itm_1]; exact hv
    · rw [itm_lo (by omega), itm_lo (by omega)]
      exact h3 (by omega)
theorem up2_57 {μ : Mem} {j : Nat} {v : Int32} : up2 (setr (setr μ 57 ι) 50 ρ) 57 j v = setr (setr μ 57 (upd ι j v)) 50 ρ := by
  funext i
  rw [up2_e, setr_ne (show 57 ≠ 50 by decide), setr_same]
  by_cases i1 : i = 57
  · subst i1; rw [setr_same, setr_ne (by decide), setr_same]
  · rw [setr_ne i1]
    by_cases i2 : i = 50
    · subst i2; rw [setr_same, setr_same]
    · rw [setr_ne i2, setr_ne i2, setr_ne i1, setr_ne i1]
theorem add_M {μ : Mem} (h14 : ρ 14 = nI k) (hk : k < 120) : f_X5_addItem a b c d e (setr (setr μ 57 ι) 50 ρ) = some ((), setr (setr μ 57 (itm ι k a b c d e)) 50 (upd ρ 14 (nI (k + 1)))) := by
  unfold f_X5_addItem
  have e5 : 5 * nI k = nI (5 * k) := pk_mul 5 k
  have e1 : nI (5 * k) + 1 = nI (5 * k + 1) := nI_1 _
  have e2 : nI (5 * k) + 2 = nI (5 * k + 2) := nI_add _ 2
  have e3 : nI (5 * k) + 3 = nI (5 * k + 3) := nI_add _ 3
  have e4 : nI (5 * k) + 4 = nI (5 * k + 4) := nI_add _ 4
  rw [setr_same, h14, vL_e, e5, e1, e2, e3, e4, vI_at rfl (by omega) (by decide), vW_e, up2_57, vI_at rfl (by omega) (by decide), vW_e, up2_57, vI_at rfl (by omega) (by decide), vW_e, up2_57, vI_at rfl (by omega) (by decide), vW_e, up2_57, vI_at rfl (by omega) (by decide), vW_e, up2_57, vW_e, up2_setr, setr_same, h14, show nI k + 1 = nI (k + 1) from nI_1 k]
  rfl
theorem told_so {μ : Mem} (hι : μ 57 = ι) (hk : k < 120) (hI : Inv (μ 51)) (hv : vOK (ι (5 * k)) (ι (5 * k + 1)) (μ 51)) : f_X5_isToldSo (nI (5 * k)) μ = some ((), setr μ 51 (apI ι k (μ 51))) := by
  unfold f_X5_isToldSo apI apV
  have e1 : nI (5 * k) + 1 = nI (5 * k + 1) := nI_1 _
  have e2 : nI (5 * k) + 2 = nI (5 * k + 2) := nI_add _ 2
  have e3 : nI (5 * k) + 3 = nI (5 * k + 3) := nI_add _ 3
  have e4 : nI (5 * k) + 4 = nI (5 * k + 4) := nI_add _ 4
  rw [e1, e2, e3, e4, vI_at rfl (by omega) (by decide), vL_e, vI_at rfl (by omega) (by decide), vI_at rfl (by omega) (by decide), vI_at rfl (by omega) (by decide), hι]
  rcases hv with ⟨h10, p, hp, hb⟩ | h11 | ⟨n10', n11, h8⟩
  · rw [if_pos h10, if_pos h10, hb, vI_at (j := 6 + p) (by rw [← nI_add]; rfl) (by omega) (by decide), vW_e, up2_e, nI_clamp (by omega)]
  · have n10' : ¬ ι (5 * k) = 10 := by rw [h11]; decide
    rw [if_neg n10', if_neg n10', if_pos h11, if_pos h11, vI_at (x := 3) (j := 3) rfl (by decide) (by decide), vW_e, up2_e]
  · rw [if_neg n10', if_neg n10', if_neg n11, if_neg n11, vI_at rfl (by omega) (by decide), cm_M hI h8, vC_s, vL_e, cAt1, vC_s, vI_at rfl (by omega) (by decide), vW_e, up2_setr, cAt3, vC_s, vI_at rfl (by omega) (by decide), vI_at rfl (by omega) (by decide), vW_e, up2_setr, cAt4, vC_s, vI_at rfl (by omega) (by decide), vI_at rfl (by omega) (by decide), vW_e, up2_setr, setr_ne (show 57 ≠ 51 by decide), setr_ne (show 57 ≠ 51 by decide), hι]
theorem told_all {K : Nat} (hK : K < 120) (hA : AOK ι N K) : ∀ m j μ, j ≤ K → K - j < m → μ 57 = ι → μ 50 14 = nI K → μ 51 = apAll ι N j → f_X5_text_L111 m (nI j) μ = some (nI K, setr μ 51 (apAll ι N K)) := by
  intro m
  induction m with
  | zero => intro j μ _ h; omega
  | succ m ih =>
    intro j μ hj hm h57 h14 h51
    rw [f_X5_text_L111_s, h14]
    rcases Nat.lt_or_ge j K with q | q
    · obtain ⟨i1, i2, i3⟩ := hA j (by omega)
      have e5 : 5 * nI j = nI (5 * j) := pk_mul 5 j
      rw [if_neg (nle_of q (by omega)), e5, told_so h57 (by omega) (by rw [h51]; exact i1) (by rw [h51]; exact i3 q), vC_s, vL_e, show nI j + 1 = nI (j + 1) from nI_1 j]
      rw [ih (j + 1) (setr μ 51 (apI ι j (μ 51))) q (by omega) (by rw [setr_ne (by decide)]; exact h57) (by rw [setr_ne (by decide)]; exact h14) (by rw [setr_same, h51]; rfl), setr_setr]
    · have : j = K := by omega
      subst this
      rw [if_pos (nI_le q (by omega)), ← h51, setr_self]
/-! the rest of a curtain once the text has failed -/
theorem J109_M {μ : Mem} (h14 : ρ 14 = nI k) (hk : k < 120) : f_X5_readCurtain_J109 a b c d e (setr (setr μ 57 ι) 50 ρ) = some ((), setr (setr μ 57 (itm ι k a b c d e)) 50 (upd (upd ρ 14 (nI (k + 1))) 15 (ρ 15 + 1))) := by
  unfold f_X5_readCurtain_J109
  rw [add_M h14 hk, vC_s, vW_e, up2_setr, setr_same, upd_n (show 15 ≠ 14 by decide)]
def DeadTo (μ : Mem) (ρ : Nat → Int32) (o : Option (Unit × Mem)) : Prop := ∃ ι' ρ', o = some ((), setr (setr μ 57 ι') 50 ρ') ∧ ρ' 11 = 1 ∧ ρ' 7 = ρ 7 ∧ ρ' 3 = ρ 3
theorem J86_d {μ : Mem} (h14 : ρ 14 = nI k) (hk : k < 120) (h11 : ρ 11 = 1) : DeadTo μ ρ (f_X5_readCurtain_J86 a b c d (setr (setr μ 57 ι) 50 ρ)) := by
  unfold f_X5_readCurtain_J86
  rw [vL_e, take_d h11, vC_s, if_pos rfl, J109_M h14 hk]
  exact ⟨_, _, rfl, by rw [upd_n (by decide), upd_n (by decide)]; exact h11, by rw [upd_n (by decide), upd_n (by decide)], by rw [upd_n (by decide), upd_n (by decide)]⟩
theorem J63_d {μ : Mem} (h14 : ρ 14 = nI k) (hk : k < 120) (h11 : ρ 11 = 1) : DeadTo μ ρ (f_X5_readCurtain_J63 a b c (setr (setr μ 57 ι) 50 ρ)) := by
  unfold f_X5_readCurtain_J63
  rw [vL_e, take_d h11, vC_s, if_pos rfl]
  exact J86_d h14 hk h11
theorem J40_d {μ : Mem} (h14 : ρ 14 = nI k) (hk : k < 120) (h11 : ρ 11 = 1) : DeadTo μ ρ (f_X5_readCurtain_J40 a b (setr (setr μ 57 ι) 50 ρ)) := by
  unfold f_X5_readCurtain_J40
  rw [vL_e, take_d h11, vC_s, if_pos rfl]
  exact J63_d h14 hk h11
theorem DeadTo.mono {μ : Mem} {ρ1 : Nat → Int32} {o : Option (Unit × Mem)} (h : DeadTo μ ρ1 o) (h7 : ρ1 7 = ρ 7) (h3 : ρ1 3 = ρ 3) : DeadTo μ ρ o := by
  obtain ⟨ι', ρ', g1, g2, g3, g4⟩ := h
  exact ⟨ι', ρ', g1, g2, g3.trans h7, g4.trans h3⟩
end ITM
/-- both alive, k items read -/
def Al (n : Nat) (μ : Mem) (N : Nat → Int32) (σ : Mem) (τ ι ρ : Nat → Int32) (s e k : Nat) : Prop := τ 1 = nI n ∧ ρ 6 = nI n ∧ ρ 11 = 0 ∧ TS n (μ 55) τ ρ s e ∧ ρ 14 = nI k ∧ ρ 15 = nI (hg (apAll ι N k)) ∧ Rh 25 σ (apAll ι N k) ∧ AOK ι N k ∧ ρ 3 = μ 50 3
/-- only the trial house has changed -/
def Tr (σ σ' : Mem) : Prop := ∀ i, ¬ (25 ≤ i ∧ i < 37) → σ' i = σ i
/-- what comes of reading one item -/
def Out (n : Nat) (μ : Mem) (N : Nat → Int32) (σ : Mem) (s k : Nat) (cl : Option (Int32 × Mem)) (rf : Option (Unit × Mem)) : Prop := (∃ σ' τ' ι' ρ', cl = some (0, setr σ' 38 τ') ∧ rf = some ((), setr (setr μ 57 ι') 50 ρ') ∧ ρ' 11 = 1 ∧ ρ' 7 = τ' 3 ∧ ρ' 3 = μ 50 3 ∧ Tr σ σ' ∧ (∃ s', s' ≤ n ∧ τ' 3 = nI s')) ∨ (∃ σ' τ' ι' ρ' s' e', cl = some (1, setr σ' 38 τ') ∧ rf = some ((), setr (setr μ 57 ι') 50 ρ') ∧ Tr σ σ' ∧ s < s' ∧ Al n μ N σ' τ' ι' ρ' s' e' (k + 1))
theorem Out.rf {n : Nat} {μ : Mem} {N : Nat → Int32} {σ : Mem} {s k : Nat} {cl : Option (Int32 × Mem)} {o o' : Option (Unit × Mem)} (h : o = o') (g : Out n μ N σ s k cl o') : Out n μ N σ s k cl o := by rw [h]; exact g
theorem TS_cg {n : Nat} {U τ ρ ρ' : Nat → Int32} {s e : Nat} (h : TS n U τ ρ s e) (g : ∀ j, 7 ≤ j → j ≤ 10 → ρ' j = ρ j) : TS n U τ ρ' s e := by
  unfold TS
  rw [g 7 (by decide) (by decide), g 8 (by decide) (by decide), g 9 (by decide) (by decide), g 10 (by decide) (by decide)]
  exact h
/-- a curtain read to its end -/
theorem cur_done {n : Nat} {μ : Mem} {N : Nat → Int32} {σ σ' : Mem} {τ ι ρ : Nat → Int32} {s e k q a : Nat} {v1 v2 v3 v4 : Int32} (hk : k < 100) (hq : q < 7) (hA : AOK ι N k) (hR : Rh 25 σ (apAll ι N k)) (f8 : hg (apAll ι N k) < 8) (ha : a = 25 + 3 + 1 + hg (apAll ι N k)) (h1 : τ 1 = nI n) (h6 : ρ 6 = nI n) (h11 : ρ 11 = 0) (T : TS n (μ 55) τ ρ s e) (h14 : ρ 14 = nI k) (h15 : ρ 15 = nI (hg (apAll ι N k))) (h3 : ρ 3 = μ 50 3) (r2 : rg v2 4095)
    (g25 : σ' 25 = upd (σ 25) 5 (nI (hg (apAll ι N k) + 1))) (ga : ∀ f, f < 6 → σ' a f = upd (upd (upd (upd (bnr (nI q)) 1 v1) 2 v2) 3 v3) 4 v4 f) (go : ∀ i, 25 < i → i < 37 → i ≠ a → σ' i = σ i) : f_X5_readCurtain_J109 (nI q) v1 v2 v3 v4 (setr (setr μ 57 ι) 50 ρ) = some ((), setr (setr μ 57 (itm ι k (nI q) v1 v2 v3 v4)) 50 (upd (upd ρ 14 (nI (k + 1))) 15 (ρ 15 + 1))) ∧ Al n μ N σ' τ (itm ι k (nI q) v1 v2 v3 v4) (upd (upd ρ 14 (nI (k + 1))) 15 (ρ 15 + 1)) s e (k + 1) := by
  refine ⟨J109_M h14 (by omega), ?_⟩
  obtain ⟨hI, hZ, _⟩ := hA k (Nat.le_refl _)
  have n10' : ¬ nI q = 10 := by rw [show (10 : Int32) = nI 10 from rfl, nI_eq (by omega) (by decide)]; omega
  have n11' : ¬ nI q = 11 := by rw [show (11 : Int32) = nI 11 from rfl, nI_eq (by omega) (by decide)]; omega
  have eM : apV (nI q) v1 v2 v3 v4 (apAll ι N k) = upd (upd (upd (cmN (apAll ι N k) (hg (apAll ι N k)) (nI q) v2) (22 + 6 * hg (apAll ι N k) + 1) v1) (22 + 6 * hg (apAll ι N k) + 3) v3) (22 + 6 * hg (apAll ι N k) + 4) v4 := by
    unfold apV
    rw [if_neg n10', if_neg n11']
  generalize hM : apAll ι N k = M at *
  have nl : ∀ p, p < 22 → p ≠ 1 → apV (nI q) v1 v2 v3 v4 M p = M p := fun p a b => by rw [eM, upd_n (by omega), upd_n (by omega), upd_n (by omega), cm_lo a b]
  have nn1 : apV (nI q) v1 v2 v3 v4 M 1 = nI (hg M + 1) := by rw [eM, upd_n (by omega), upd_n (by omega), upd_n (by omega), cm_1]
  have nc : ∀ c f, c < hg M → f < 6 → cur (apV (nI q) v1 v2 v3 v4 M) c f = cur M c f := fun c f a b => by rw [eM, cur_ne (by omega) (by decide) b, cur_ne (by omega) (by decide) b, cur_ne (by omega) (by decide) b, cm_ne a b]
  have nn : ∀ f, f < 6 → cur (apV (nI q) v1 v2 v3 v4 M) (hg M) f = upd (upd (upd (upd (bnr (nI q)) 1 v1) 2 v2) 3 v3) 4 v4 f := by
    intro f hf
    rw [eM, cur_upd, cur_upd, cur_upd]
    have cf := fun f hf => cm_e (N := M) (n := hg M) (x1 := nI q) (x2 := v2) (f := f) hf
    rcases (show f = 0 ∨ f = 1 ∨ f = 2 ∨ f = 3 ∨ f = 4 ∨ f = 5 by omega) with rfl | rfl | rfl | rfl | rfl | rfl
    · rw [upd_n (by decide), upd_n (by decide), upd_n (by decide), cf 0 (by decide)]; rfl
    · rw [upd_n (by decide), upd_n (by decide), upd_s]; rfl
    · rw [upd_n (by decide), upd_n (by decide), upd_n (by decide), cf 2 (by decide)]; rfl
    · rw [upd_n (by decide), upd_s]; rfl
    · rw [upd_s]; rfl
    · rw [upd_n (by decide), upd_n (by decide), upd_n (by decide), cf 5 (by decide)]; rfl
  have hI' : Inv (apV (nI q) v1 v2 v3 v4 M) := Inv_new hI rfl f8 nl nn1 nc nn ⟨q, by omega, rfl⟩ r2
  have hZ' : Z70 (apV (nI q) v1 v2 v3 v4 M) := by
    rw [eM]
    exact Z_upd (Z_upd (Z_upd (cm_Z hZ f8) (by omega)) (by omega)) (by omega)
  have hR' : Rh 25 σ' (apV (nI q) v1 v2 v3 v4 M) := Rh_new hR hI rfl f8 g25 (go 26 (by decide) (by decide) (by omega)) (go 27 (by decide) (by decide) (by omega)) (fun c hc => go _ (by omega) (by omega) (by omega)) (fun f hf => by rw [← ha]; exact ga f hf) nl nn1 nc nn
  have eA : apAll (itm ι k (nI q) v1 v2 v3 v4) N (k + 1) = apV (nI q) v1 v2 v3 v4 M := by rw [ap_s, hM]
  refine ⟨h1, ?_, ?_, TS_cg T (fun j a b => by rw [upd_n (by omega), upd_n (by omega)]), ?_, ?_, ?_, ?_, ?_⟩
  · rw [upd_n (by decide), upd_n (by decide)]; exact h6
  · rw [upd_n (by decide), upd_n (by decide)]; exact h11
  · rw [upd_n (by decide), upd_s]
  · rw [upd_s, eA, h15, show nI (hg M) + 1 = nI (hg M + 1) from nI_1 _]
    have : hg (apV (nI q) v1 v2 v3 v4 M) = hg M + 1 := by
      show (apV (nI q) v1 v2 v3 v4 M 1).toNatClampNeg = _
      rw [nn1, nI_clamp (by omega)]
    rw [this]
  · rw [eA]; exact hR'
  · exact AOK_s hA (Or.inr (Or.inr ⟨n10', n11', by rw [hM]; exact f8⟩)) (by rw [hM]; exact hI') (by rw [hM]; exact hZ')
  · rw [upd_n (by decide), upd_n (by decide)]; exact h3
theorem cur_alike {n : Nat} {μ : Mem} {N : Nat → Int32} {σ : Mem} {τ ι ρ : Nat → Int32} {s e k q : Nat} (hn : n ≤ 120) (hB : ∀ k, k < n → BT (μ 55 k) (σ 39 k)) (hk : k < 100) (hq : q < 7) (h : Al n μ N σ τ ι ρ s e k) (hse : s < e) : Out n μ N σ s k (f_X3_readCurtain 25 (nI q) (setr σ 38 τ)) (f_X5_readCurtain (nI q) (setr (setr μ 57 ι) 50 ρ)) := by
  obtain ⟨h1, h6, h11, T, h14, h15, hR, hA, h3⟩ := h
  obtain ⟨hI, hZ, _⟩ := hA k (Nat.le_refl _)
  have h8 := hI.hung.2
  have hRs : Rh 25 (setr σ 38 τ) (apAll ι N k) := Rh_fr hR hI (fun i _ _ => setr_ne (by omega))
  have eU : (setr μ 57 ι) 55 = μ 55 := setr_ne (by decide)
  unfold f_X3_readCurtain f_X5_readCurtain
  rw [full_C hRs hI, vC_s, setr_same, h15]
  have ts0 : ∃ s', s' ≤ n ∧ τ 3 = nI s' := ⟨s, by have := T.1; have := T.2.1; omega, T.2.2.1⟩
  by_cases f8 : hg (apAll ι N k) < 8
  · rw [if_pos f8, if_pos rfl, if_neg (show ¬ (8 : Int32) ≤ nI (hg (apAll ι N k)) from nle_of (b := 8) f8 (by decide))]
    obtain ⟨τ1, ρ1, s1, e1, a1, a2, a3, a4, a5, a6⟩ := step_alike (σ := σ) (μ := setr μ 57 ι) hn (by rw [eU]; exact hB) h1 T.2.2.2.1 h6 T.2.2.2.2.2.1 T.2.1
    rw [eU] at a6
    unfold f_X5_readCurtain_J15
    rw [a1, vC_s, must_1 h11 a2, vC_s]
    have hR1 : Rh 25 (setr σ 38 τ1) (apAll ι N k) := Rh_fr hR hI (fun i _ _ => setr_ne (by omega))
    obtain ⟨σ2, b1, b2, b3, b4⟩ := hang_C (x := nI q) hR1 hI f8
    have e38 : σ2 38 = τ1 := by rw [b4 38 (by decide) (by omega), setr_same]
    have es : setr σ2 38 τ1 = σ2 := by rw [← e38, setr_self]
    have b39 : σ2 39 = σ 39 := by rw [b4 39 (by decide) (by omega), setr_ne (by decide)]
    rw [b1, vC_s, ← es]
    generalize ha : 25 + 3 + 1 + hg (apAll ι N k) = a at b1 b3 b4 ⊢
    have ha2 : 29 ≤ a ∧ a < 37 := by omega
    have h11a : ρ1 11 = 0 := by rw [a4 11 (by decide)]; exact h11
    have h6a : ρ1 6 = nI n := by rw [a4 6 (by decide)]; exact h6
    have T1 : TS n ((setr μ 57 ι) 55) τ1 ρ1 s1 e1 := by rw [eU]; exact a6
    have trx : ∀ σ' : Mem, (∀ i, i ≠ a → i ≠ 38 → σ' i = σ2 i) → σ' 38 = σ 38 → Tr σ σ' := by
      intro σ' g g38 i hi
      by_cases i38 : i = 38
      · subst i38; exact g38
      · rw [g i (by omega) i38, b4 i (by omega) (by omega), setr_ne i38]
    have set38 : ∀ (σ' : Mem) (t : Nat → Int32), setr σ' 38 t = setr (setr σ' 38 (σ 38)) 38 t := fun σ' t => setr_setr.symm
    have keep : ∀ (ρ' : Nat → Int32), (∀ j, ¬ (7 ≤ j ∧ j ≤ 10) → ρ' j = ρ1 j) → ρ' 6 = nI n ∧ ρ' 11 = 0 ∧ ρ' 14 = nI k ∧ ρ' 15 = nI (hg (apAll ι N k)) ∧ ρ' 3 = μ 50 3 := by
      intro ρ' g
      refine ⟨by rw [g 6 (by decide)]; exact h6a, by rw [g 11 (by decide)]; exact h11a, ?_, ?_, ?_⟩
      · rw [g 14 (by decide), a4 14 (by decide)]; exact h14
      · rw [g 15 (by decide), a4 15 (by decide)]; exact h15
      · rw [g 3 (by decide), a4 3 (by decide)]; exact h3
    -- a part that fails
    have fail : ∀ (σ' : Mem) (τ' ρ' : Nat → Int32) (o : Option (Unit × Mem)), (∀ i, i ≠ a → i ≠ 38 → σ' i = σ2 i) → ρ' 7 = τ' 3 → ρ' 3 = μ 50 3 → (∃ s', s' ≤ n ∧ τ' 3 = nI s') → DeadTo μ ρ' o → Out n μ N σ s k (some (0, setr σ' 38 τ')) o := by
      intro σ' τ' ρ' o g g7 g3 gs gd
      obtain ⟨ι', ρ'', d1, d2, d3, d4⟩ := gd
      rw [set38 σ' τ']
      exact Or.inl ⟨_, τ', ι', ρ'', rfl, d1, d2, d3.trans g7, d4.trans g3, trx _ (fun i x y => by rw [setr_ne y]; exact g i x y) setr_same, gs⟩
    rcases part (w := 10) (f := 1) (H := 99) (a := a) (d := 60) (μ := setr μ 57 ι) (K := f_X5_readCurtain_J40 (nI q)) (by decide) hn (by decide) (by decide) rfl (by omega) (by omega) (b3 1 (by decide)) ⟨60, by decide, rfl⟩ (by rw [eU, b39]; exact hB) a3 h6a h11a T1 with ⟨x, τ', ρ', c1, c2, c3, c4, c5, c6, c7⟩ | ⟨v1, τ2, ρ2, s2, e2, c0, c1, c2, c3, c4, c5⟩
    · have c1' : f_X3_readPart a 10 1 (setr σ2 38 τ1) = some (0, setr σ2 38 τ') := c1
      rw [c1', vC_s, if_pos rfl]
      have dd := J40_d (μ := μ) (ι := ι) (a := nI q) (b := x) (ρ := ρ') (k := k) (by rw [c6 14 (by decide), a4 14 (by decide)]; exact h14) (by omega) c3
      rw [← c2] at dd
      exact fail σ2 τ' ρ' _ (fun _ _ _ => rfl) c4 (by rw [c6 3 (by decide), a4 3 (by decide)]; exact h3) c7 dd
    have c1' : f_X3_readPart a 10 1 (setr σ2 38 τ1) = some (1, setr (up2 σ2 a 1 v1) 38 τ2) := c1
    rw [c1', vC_s, if_neg n10]
    refine Out.rf c2 ?_
    unfold f_X5_readCurtain_J40
    rw [vL_e]
    obtain ⟨k6, k11, k14, k15, k3⟩ := keep ρ2 c3.2
    have a38 : a ≠ 38 := by omega
    have a39 : a ≠ 39 := by omega
    rcases part (w := 11) (f := 2) (H := 4095) (a := a) (d := 0) (σ := up2 σ2 a 1 v1) (μ := setr μ 57 ι) (K := f_X5_readCurtain_J63 (nI q) v1) (by decide) hn (by decide) (by decide) rfl a38 a39 (by rw [up2_s, upd_n (by decide)]; exact b3 2 (by decide)) ⟨0, by decide, rfl⟩ (by rw [eU, up2_n (fun z => a39 z.symm), b39]; exact hB) c3.1 k6 k11 c5 with ⟨x, τ', ρ', d1, d2, d3, d4, d5, d6, d7⟩ | ⟨v2, τ3, ρ3, s3, e3, d0, d1, d2, d3, d4, d5⟩
    · have d1' : f_X3_readPart a 11 2 (setr (up2 σ2 a 1 v1) 38 τ2) = some (0, setr (up2 σ2 a 1 v1) 38 τ') := d1
      rw [d1', vC_s, if_pos rfl]
      have dd := J63_d (μ := μ) (ι := ι) (a := nI q) (b := v1) (c := x) (ρ := ρ') (k := k) (by rw [d6 14 (by decide)]; exact k14) (by omega) d3
      rw [← d2] at dd
      exact fail _ τ' ρ' _ (fun i z _ => up2_n z) d4 (by rw [d6 3 (by decide)]; exact k3) d7 dd
    have d1' : f_X3_readPart a 11 2 (setr (up2 σ2 a 1 v1) 38 τ2) = some (1, setr (up2 (up2 σ2 a 1 v1) a 2 v2) 38 τ3) := d1
    rw [d1', vC_s, if_neg n10]
    refine Out.rf d2 ?_
    unfold f_X5_readCurtain_J63
    rw [vL_e]
    have kp3 : ∀ j, ¬ (7 ≤ j ∧ j ≤ 10) → ρ3 j = ρ1 j := fun j hj => (d3.2 j hj).trans (c3.2 j hj)
    obtain ⟨l6, l11, l14, l15, l3⟩ := keep ρ3 kp3
    rcases part (w := 12) (f := 3) (H := 20) (a := a) (d := 20) (σ := up2 (up2 σ2 a 1 v1) a 2 v2) (μ := setr μ 57 ι) (K := f_X5_readCurtain_J86 (nI q) v1 v2) (by decide) hn (by decide) (by decide) rfl a38 a39 (by rw [up2_s, upd_n (by decide), up2_s, upd_n (by decide)]; exact b3 3 (by decide)) ⟨20, by decide, rfl⟩ (by rw [eU, up2_n (fun z => a39 z.symm), up2_n (fun z => a39 z.symm), b39]; exact hB) d3.1 l6 l11 d5 with ⟨x, τ', ρ', f1, f2, f3, f4, f5, f6, f7⟩ | ⟨v3, τ4, ρ4, s4, e4, f0, f1, f2, f3, f4, f5⟩
    · have f1' : f_X3_readPart a 12 3 (setr (up2 (up2 σ2 a 1 v1) a 2 v2) 38 τ3) = some (0, setr (up2 (up2 σ2 a 1 v1) a 2 v2) 38 τ') := f1
      rw [f1', vC_s, if_pos rfl]
      have dd := J86_d (μ := μ) (ι := ι) (a := nI q) (b := v1) (c := v2) (d := x) (ρ := ρ') (k := k) (by rw [f6 14 (by decide)]; exact l14) (by omega) f3
      rw [← f2] at dd
      exact fail _ τ' ρ' _ (fun i z _ => by rw [up2_n z, up2_n z]) f4 (by rw [f6 3 (by decide)]; exact l3) f7 dd
    have f1' : f_X3_readPart a 12 3 (setr (up2 (up2 σ2 a 1 v1) a 2 v2) 38 τ3) = some (1, setr (up2 (up2 (up2 σ2 a 1 v1) a 2 v2) a 3 v3) 38 τ4) := f1
    rw [f1', vC_s, if_neg n10]
    refine Out.rf f2 ?_
    unfold f_X5_readCurtain_J86
    rw [vL_e]
    have kp4 : ∀ j, ¬ (7 ≤ j ∧ j ≤ 10) → ρ4 j = ρ1 j := fun j hj => (f3.2 j hj).trans (kp3 j hj)
    obtain ⟨m6, m11, m14, m15, m3⟩ := keep ρ4 kp4
    unfold f_X3_readCurtain_J69
    have done : ∀ (v4 : Int32) (τ5 ρ5 : Nat → Int32) (s5 e5 : Nat), τ5 1 = nI n → (∀ j, ¬ (7 ≤ j ∧ j ≤ 10) → ρ5 j = ρ1 j) → s < s5 → TS n (μ 55) τ5 ρ5 s5 e5 → Out n μ N σ s k (vW (setr (up2 (up2 (up2 σ2 a 1 v1) a 2 v2) a 3 v3) 38 τ5) a 4 v4 (fun σ34 => some (1, σ34))) (f_X5_readCurtain_J109 (nI q) v1 v2 v3 v4 (setr (setr μ 57 ι) 50 ρ5)) := by
      intro v4 τ5 ρ5 s5 e5 t1 kp5 hs5 T5
      obtain ⟨o6, o11, o14, o15, o3⟩ := keep ρ5 kp5
      rw [vW_e, up2_in a38, set38]
      generalize hσ6 : setr (up2 (up2 (up2 (up2 σ2 a 1 v1) a 2 v2) a 3 v3) a 4 v4) 38 (σ 38) = σ6
      have o6a : ∀ i, i ≠ a → i ≠ 38 → σ6 i = σ2 i := fun i x y => by rw [← hσ6, setr_ne y, up2_n x, up2_n x, up2_n x, up2_n x]
      have oa : σ6 a = upd (upd (upd (upd (σ2 a) 1 v1) 2 v2) 3 v3) 4 v4 := by rw [← hσ6, setr_ne a38, up2_s, up2_s, up2_s, up2_s]
      have fin := cur_done (μ := μ) (N := N) (σ := σ) (σ' := σ6) (a := a) (q := q) (v1 := v1) (v2 := v2) (v3 := v3) (v4 := v4) hk hq hA hR f8 ha.symm t1 o6 o11 T5 o14 o15 o3 d0 (by rw [o6a 25 (by omega) (by decide), b2, setr_ne (by decide)]) (fun f hf => by
        rw [oa]
        rcases (show f = 0 ∨ f = 1 ∨ f = 2 ∨ f = 3 ∨ f = 4 ∨ f = 5 by omega) with rfl | rfl | rfl | rfl | rfl | rfl
        · exact b3 0 (by decide)
        · rfl
        · rfl
        · rfl
        · rfl
        · exact b3 5 (by decide)) (fun i x y z => by rw [o6a i z (by omega), b4 i (by omega) z, setr_ne (by omega)])
      refine Or.inr ⟨σ6, τ5, _, _, s5, e5, rfl, fin.1, trx σ6 o6a (by rw [← hσ6, setr_same]), hs5, fin.2⟩
    rcases tw (w := 13) (σ := up2 (up2 (up2 σ2 a 1 v1) a 2 v2) a 3 v3) (μ := setr μ 57 ι) (by decide) hn (by rw [eU, up2_n (fun z => a39 z.symm), up2_n (fun z => a39 z.symm), up2_n (fun z => a39 z.symm), b39]; exact hB) f3.1 m6 m11 f5 with ⟨g1, g2⟩ | ⟨τ5, ρ5, s5, e5, g1, g2, g3, g4, g5⟩
    · rw [g1, g2, vC_s, vC_s, if_pos rfl, if_pos rfl]
      exact done 0 τ4 ρ4 s4 e4 f3.1 kp4 (by omega) (by rw [eU] at f5; exact f5)
    · rw [g1, g2, vC_s, vC_s, if_neg n10, if_neg n10]
      exact done 1 τ5 ρ5 s5 e5 g3.1 (fun j hj => (g3.2 j hj).trans (kp4 j hj)) (by omega) (by rw [eU] at g5; exact g5)
  · have e8 : hg (apAll ι N k) = 8 := by omega
    rw [if_neg f8, if_neg n10, e8, if_pos (show (8 : Int32) ≤ nI 8 by decide)]
    unfold f_X5_readCurtain_J15
    rw [must_0 h11, vC_s, take_d upd_s, vC_s, if_pos rfl]
    obtain ⟨ι', ρ', d1, d2, d3, d4⟩ := J40_d (μ := μ) (ι := ι) (a := nI q) (b := 60) (ρ := upd ρ 11 1) (k := k) (by rw [upd_n (by decide)]; exact h14) (by omega) upd_s
    rw [d1]
    refine Or.inl ⟨σ, τ, ι', ρ', rfl, rfl, d2, ?_, ?_, fun _ _ => rfl, ts0⟩
    · rw [d3, upd_n (by decide), T.2.2.2.2.1, T.2.2.1]
    · rw [d4, upd_n (by decide)]; exact h3
