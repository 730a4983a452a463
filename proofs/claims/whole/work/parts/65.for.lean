/-! 15 sceneFor, 16 kindFor, 17 moodFor, 18 handsFor -/
theorem upd_upd {f : Nat → Int32} {k : Nat} {v w : Int32} : upd (upd f k v) k w = upd f k w := by
  funext j
  simp only [upd]
  split <;> rfl
theorem upd_self {f : Nat → Int32} {k : Nat} : upd f k (f k) = f := by
  funext j
  simp only [upd]
  split
  · rename_i e; rw [e]
  · rfl
/-- the reference's state while one number of its row is tried -/
def Try (μ0 μ : Mem) (p : Nat) : Prop := (∀ j, j ≠ 51 → j ≠ 53 → μ j = μ0 j) ∧ (∃ v, μ 51 = upd (μ0 51) p v) ∧ Z70 (μ 53)
theorem Try.ini {μ : Mem} {p : Nat} (h : Z70 (μ 53)) : Try μ μ p := ⟨fun _ _ _ => rfl, ⟨_, upd_self.symm⟩, h⟩
theorem Try.set {μ0 μ : Mem} {p : Nat} {v : Int32} (h : Try μ0 μ p) : up2 μ 51 p v = setr μ 51 (upd (μ0 51) p v) ∧ Try μ0 (setr μ 51 (upd (μ0 51) p v)) p := by
  obtain ⟨h1, ⟨w, h2⟩, h3⟩ := h
  refine ⟨by rw [up2_e, h2, upd_upd], fun j a b => by rw [setr_ne a]; exact h1 j a b, ⟨v, setr_same⟩, by rw [setr_ne (by decide)]; exact h3⟩
theorem Try.asi {μ0 μ : Mem} {p : Nat} (h : Try μ0 μ p) (hZ : Z70 (μ 51)) : Try μ0 (setr μ 53 (μ 51)) p := by
  obtain ⟨h1, ⟨w, h2⟩, h3⟩ := h
  exact ⟨fun j a b => by rw [setr_ne b]; exact h1 j a b, ⟨w, by rw [setr_ne (by decide)]; exact h2⟩, by rw [setr_same]; exact hZ⟩
theorem Try.fin {σ μ0 μ : Mem} {p : Nat} (h : Try μ0 μ p) (hR : Rel σ μ0) : Rel σ (up2 μ 51 p (μ0 51 p)) := by
  obtain ⟨h1, ⟨w, h2⟩, h3⟩ := h
  have e : up2 μ 51 p (μ0 51 p) 51 = μ0 51 := by rw [up2_s, h2, upd_upd, upd_self]
  refine hR.scratch (fun _ _ => rfl) (fun i hi => ?_) (by rw [up2_n (by decide)]; exact h3)
  by_cases q : i = 51
  · subst q; exact e
  · rw [up2_n q]; exact h1 i q hi
theorem sf_L {μ0 : Mem} {i x : Nat} (hi : i < 6) (hx : x ≤ 60) (hI : Inv (μ0 51)) (hZ : Z70 (μ0 51)) : ∀ (n k : Nat) (σ μ : Mem) (y3 y4 : Int32), k ≤ 12 → 12 - k < n → Rel σ μ0 → Try μ0 μ (6 + i) → ∃ (r : Int32) (σ' μ' : Mem), f_X4_sceneFor_L32 n (nI i) (nI x) y3 y4 (nI k) σ = some (r, σ') ∧ f_X5_sceneFor_L41 n (nI i) (nI x) (μ0 51 (6 + i)) y3 y4 (nI k) μ = some (r, μ') ∧ Rel σ' μ' := by
  intro n
  induction n with
  | zero => intro k σ μ y3 y4 _ q; omega
  | succ n ih =>
    intro k σ μ y3 y4 hk hn hR hT
    rw [f_X4_sceneFor_L32_s, f_X5_sceneFor_L41_s, vI_at (x := 6 + nI i) (j := 6 + i) (by rw [← nI_add]; rfl) (by omega) (by decide), vI_at (x := 6 + nI i) (j := 6 + i) (by rw [← nI_add]; rfl) (by omega) (by decide), vW_e, vW_e, show (12 : Int32) = nI 12 from rfl]
    rcases Nat.lt_or_ge k 12 with q | q
    · rw [if_neg (nle_of q (by decide)), if_neg (nle_of q (by decide))]
      obtain ⟨e1, e2⟩ := hT.set (v := nI k)
      have hIk : Inv (upd (μ0 51) (6 + i) (nI k)) := Inv_list hI hi
      have hZk : Z70 (upd (μ0 51) (6 + i) (nI k)) := Z_upd hZ (by omega)
      obtain ⟨σ1, a1, a2, a3⟩ := take_C (a := 25) hR.1 hI (by decide)
      have a4 := Rh_list (v := nI k) a2 hi
      obtain ⟨σ2, b1, b2, b3⟩ := pbs_C a4 hIk (x := x) (by omega)
      have fr1 : frH 25 σ1 (up2 σ1 (25 + 1) i (nI k)) := fun j hj => up2_n (by omega)
      rw [a1, vC_s, vI_at rfl hi (by decide), vW_e, b1, vC_s, b2.1.2.1, e1]
      have bh := bh_M (x := x) (y := 4) (p := 4) (μ := setr μ 51 (upd (μ0 51) (6 + i) (nI k))) (by rw [setr_same]; exact hIk) (by rw [setr_same]; exact hZk) (by rw [setr_ne (by decide)]; exact hT.2.2) (by omega) (by decide) rfl
      rw [bh, vC_s, vL_e, setr_same]
      have hT' := e2.asi (by rw [setr_same]; exact hZk)
      rw [setr_same] at hT'
      have hR' : Rel σ2 μ0 := hR.trial ((a3.tr fr1).tr b3)
      unfold f_X4_sceneFor_J93 f_X5_sceneFor_J82
      simp only [vL_e, show nI k + 1 = nI (k + 1) from nI_1 k]
      split
      · exact ih (k + 1) σ2 _ y3 y4 q (by omega) hR' hT'
      · exact ih (k + 1) σ2 _ _ _ q (by omega) hR' hT'
    · rw [if_pos (nI_le q (by omega)), if_pos (nI_le q (by omega))]
      exact ⟨_, _, _, rfl, rfl, hT.fin hR⟩
theorem sim15 : Sim15 Rel := by
  intro σ μ x1 x2 h
  unfold f_X4_sceneFor f_X5_sceneFor f_X4_sceneFor_J17 f_X5_sceneFor_J14
  by_cases c : ¬ x1 < 0 ∧ ¬ 5 < x1
  · rw [isPlace_C1 c, isPlace_M1 c, vC_s, vC_s, if_neg n10, if_neg n10]
    by_cases d : ¬ x2 < 0 ∧ ¬ 60 < x2
    · rw [wC1 d, isThought_M1 d, vC_s, vC_s, if_neg n10, if_neg n10]
      obtain ⟨i, hi, rfl⟩ := rg_of (m := 5) (by decide) rfl c
      obtain ⟨x, hx, rfl⟩ := rg_of (m := 60) (by decide) rfl d
      rw [vI_at (x := 6 + nI i) (j := 6 + i) (by rw [← nI_add]; rfl) (by omega) (by decide)]
      simp only [vL_e]
      exact sf_L (by omega) hx h.2.1 h.2.2.1.1 FU 0 σ μ 0 100000 (by decide) (FU_gt (by decide)) h (Try.ini h.2.2.1.2.2)
    · rw [wC0 d, isThought_M0 d, vC_s, vC_s, if_pos rfl, if_pos rfl]
      exact fin0 h
  · rw [isPlace_C0 c, isPlace_M0 c, vC_s, vC_s, if_pos rfl, if_pos rfl]
    exact fin0 h
/-- behind, with one number of a curtain changed -/
theorem bg_try {N : Nat → Int32} {i g f x : Nat} {v : Int32} (hI : Inv (upd N (22 + 6 * i + g) v)) (hi : i < hg N) (hx : x ≤ 1000) (hf : f < 6) : bgN (upd N (22 + 6 * i + g) v) x (22 + 6 * i + f) = prb N (upd (cur N i) g v) x f := by
  have h1 : bgN (upd N (22 + 6 * i + g) v) x (22 + 6 * i + f) = prb (upd N (22 + 6 * i + g) v) (cur (upd N (22 + 6 * i + g) v) i) x f := bg_cur hI (by rw [hg_upd (by omega)]; exact hi) x hx f hf
  rw [h1, cur_upd, prb_cg (upd_n (by omega)) (upd_n (by omega)) (fun j hj => upd_n (by omega))]
theorem kf_L {μ0 : Mem} {i x : Nat} (hi : i < hg (μ0 51)) (hx : x ≤ 60) (hI : Inv (μ0 51)) (hZ : Z70 (μ0 51)) : ∀ (n k : Nat) (σ μ : Mem) (y3 y4 : Int32), k ≤ 7 → 7 - k < n → Rel σ μ0 → Try μ0 μ (22 + 6 * i + 0) → ∃ (r : Int32) (σ' μ' : Mem), f_X4_kindFor_L32 n (nI i) (nI x) y3 y4 (nI k) σ = some (r, σ') ∧ f_X5_kindFor_L45 n (nI i) (nI x) (nI (22 + 6 * i + 0)) (μ0 51 (22 + 6 * i + 0)) y3 y4 (nI k) μ = some (r, μ') ∧ Rel σ' μ' := by
  intro n
  have h8 := hI.hung.2
  induction n with
  | zero => intro k σ μ y3 y4 _ q; omega
  | succ n ih =>
    intro k σ μ y3 y4 hk hn hR hT
    rw [f_X4_kindFor_L32_s, f_X5_kindFor_L45_s, vI_at (j := 22 + 6 * i + 0) rfl (by omega) (by decide), vI_at (j := 22 + 6 * i + 0) rfl (by omega) (by decide), vW_e, vW_e, show (7 : Int32) = nI 7 from rfl, show (6 : Int32) = nI 6 from rfl]
    rcases Nat.lt_or_ge k 7 with q | q
    · rw [if_neg (nle_of q (by decide)), if_neg (nI_nlt (by omega) (by decide))]
      obtain ⟨e1, e2⟩ := hT.set (v := nI k)
      have hIk : Inv (upd (μ0 51) (22 + 6 * i + 0) (nI k)) := Inv_cur hI (by omega) (by decide) (fun _ => ⟨k, by omega, rfl⟩) (fun z => by omega)
      have hZk : Z70 (upd (μ0 51) (22 + 6 * i + 0) (nI k)) := Z_upd hZ (by omega)
      rw [vI_at rfl (by omega) (by decide), tk_C (by omega), vC_s, vW_e, up2_setr]
      obtain ⟨r', g1, g2⟩ := pp_C (σ := setr σ 37 (upd (tk6 (σ 37) (σ (1 + 3 + 1 + i))) 0 (nI k))) (c := upd (cur (μ0 51) i) 0 (nI k)) (hR.probe).1 hI (by rw [upd_s]; exact ⟨k, by omega, rfl⟩) (fun f hf => by
        rw [setr_same]
        by_cases w : f = 0
        · subst w; rw [upd_s, upd_s]
        · rw [upd_n w, upd_n w, tk6_e f hf]; exact hR.1.2.2.2 i f hi hf) (show x ≤ 1000 by omega)
      rw [g1, vC_s, setr_setr, setr_same, g2 1 (by decide), e1, cAt1, vC_s]
      have bh := bh_M (x := x) (y := nI (22 + 6 * i + 1)) (p := 22 + 6 * i + 1) (μ := setr μ 51 (upd (μ0 51) (22 + 6 * i + 0) (nI k))) (by rw [setr_same]; exact hIk) (by rw [setr_same]; exact hZk) (by rw [setr_ne (by decide)]; exact hT.2.2) (by omega) (by omega) rfl
      rw [bh, vC_s, vL_e, setr_same, bg_try hIk hi (by omega) (by decide)]
      have hT' := e2.asi (by rw [setr_same]; exact hZk)
      rw [setr_same] at hT'
      unfold f_X4_kindFor_J94 f_X5_kindFor_J87
      simp only [vL_e, show nI k + 1 = nI (k + 1) from nI_1 k]
      split
      · exact ih (k + 1) _ _ y3 y4 q (by omega) hR.probe hT'
      · exact ih (k + 1) _ _ _ _ q (by omega) hR.probe hT'
    · rw [if_pos (nI_le q (by omega)), if_pos (nI_lt (by omega) (by omega))]
      exact ⟨_, _, _, rfl, rfl, hT.fin hR⟩
theorem sim16 : Sim16 Rel := by
  intro σ μ x1 x2 h
  unfold f_X4_kindFor f_X5_kindFor f_X4_kindFor_J18 f_X5_kindFor_J15
  by_cases c : ¬ x1 < 0 ∧ ¬ (μ 51 1 - 1) < x1
  · rw [isCurtain_C1 h.1.1.2.2.2.2.2 c, isCurtain_M1 c, vC_s, vC_s, if_neg n10, if_neg n10]
    by_cases d : ¬ x2 < 0 ∧ ¬ 60 < x2
    · rw [wC1 d, isThought_M1 d, vC_s, vC_s, if_neg n10, if_neg n10]
      obtain ⟨i, hi, rfl⟩ := cur_of h.2.1 c
      have h8 := h.2.1.hung.2
      obtain ⟨x, hx, rfl⟩ := rg_of (m := 60) (by decide) rfl d
      rw [cAt0, vC_s]
      simp only [vL_e]
      rw [vI_at rfl (by omega) (by decide)]
      exact kf_L hi hx h.2.1 h.2.2.1.1 FU 0 σ μ 0 (-1) (by decide) (FU_gt (by decide)) h (Try.ini h.2.2.1.2.2)
    · rw [wC0 d, isThought_M0 d, vC_s, vC_s, if_pos rfl, if_pos rfl]
      exact fin0 h
  · rw [isCurtain_C0 h.1.1.2.2.2.2.2 c, isCurtain_M0 c, vC_s, vC_s, if_pos rfl, if_pos rfl]
    exact fin0 h
/-! 17 moodFor -/
/-- the last found when one searches down to j -/
def Low (Q : Nat → Prop) (m j : Nat) (y : Int32) : Prop := (y = -1 ∧ ∀ t, j ≤ t → t < m → ¬ Q t) ∨ (∃ k, j ≤ k ∧ k < m ∧ Q k ∧ (∀ t, j ≤ t → t < k → ¬ Q t) ∧ y = nI k)
theorem Low.ini {Q : Nat → Prop} {m : Nat} : Low Q m m (-1) := Or.inl ⟨rfl, fun t h1 h2 => by omega⟩
theorem Low.yes {Q : Nat → Prop} {m j : Nat} {y : Int32} (_ : Low Q m (j + 1) y) (hj : j < m) (q : Q j) : Low Q m j (nI j) := Or.inr ⟨j, Nat.le_refl _, hj, q, fun t h1 h2 => by omega, rfl⟩
theorem Low.no {Q : Nat → Prop} {m j : Nat} {y : Int32} (h : Low Q m (j + 1) y) (q : ¬ Q j) : Low Q m j y := by
  rcases h with ⟨h1, h2⟩ | ⟨k, h1, h2, h3, h4, h5⟩
  · refine Or.inl ⟨h1, fun t a b => ?_⟩
    by_cases e : t = j
    · subst e; exact q
    · exact h2 t (by omega) b
  · refine Or.inr ⟨k, by omega, h2, h3, fun t a b => ?_, h5⟩
    by_cases e : t = j
    · subst e; exact q
    · exact h4 t (by omega) b
section MF
variable {μ0 : Mem} {i x : Nat}
abbrev Qm (N : Nat → Int32) (i x k : Nat) : Prop := prb N (upd (cur N i) 1 (nI k)) x 5 = cur N i 5
theorem mfM_L (hi : i < hg (μ0 51)) (hx : x ≤ 60) (hI : Inv (μ0 51)) (hZ : Z70 (μ0 51)) : ∀ (n j : Nat) (μ : Mem) (y : Int32), j ≤ 100 → j < n → Try μ0 μ (22 + 6 * i + 1) → Low (Qm (μ0 51) i x) 100 j y → ∃ (y' : Int32) (μ' : Mem), f_X5_moodFor_L51 n (nI i) (nI x) (nI (22 + 6 * i + 1)) (cur (μ0 51) i 5) (μ0 51 (22 + 6 * i + 1)) y (nI j + (-1)) μ = vC (f_X5_orNone y' (up2 μ' 51 (22 + 6 * i + 1) (μ0 51 (22 + 6 * i + 1)))) (fun r τ => some (r, τ)) ∧ Try μ0 μ' (22 + 6 * i + 1) ∧ Low (Qm (μ0 51) i x) 100 0 y' := by
  intro n
  have h8 := hI.hung.2
  induction n with
  | zero => intro j μ y _ h; omega
  | succ n ih =>
    intro j μ y hj hn hT hL
    rw [f_X5_moodFor_L51_s, vI_at (j := 22 + 6 * i + 1) rfl (by omega) (by decide), vI_at (j := 22 + 6 * i + 1) rfl (by omega) (by decide), vW_e, vW_e]
    cases j with
    | zero =>
      rw [if_pos (show nI 0 + (-1) < 0 by decide)]
      exact ⟨y, μ, rfl, hT, hL⟩
    | succ j =>
      rw [pk_m1, if_neg (nI_pos (by omega))]
      obtain ⟨e1, e2⟩ := hT.set (v := nI j)
      have hIk : Inv (upd (μ0 51) (22 + 6 * i + 1) (nI j)) := Inv_cur hI (by omega) (by decide) (fun z => by omega) (fun z => by omega)
      have hZk : Z70 (upd (μ0 51) (22 + 6 * i + 1) (nI j)) := Z_upd hZ (by omega)
      have bh := bh_M (x := x) (y := nI (22 + 6 * i + 5)) (p := 22 + 6 * i + 5) (μ := setr μ 51 (upd (μ0 51) (22 + 6 * i + 1) (nI j))) (by rw [setr_same]; exact hIk) (by rw [setr_same]; exact hZk) (by rw [setr_ne (by decide)]; exact hT.2.2) (by omega) (by omega) rfl
      rw [e1, cAt5, vC_s, bh, vC_s, setr_same, bg_try hIk hi (by omega) (by decide)]
      have hT' := e2.asi (by rw [setr_same]; exact hZk)
      rw [setr_same] at hT'
      unfold f_X5_moodFor_J86
      simp only [vL_e]
      by_cases q : Qm (μ0 51) i x j
      · rw [if_pos q]
        exact ih j _ _ (by omega) (by omega) hT' (hL.yes (by omega) q)
      · rw [if_neg q]
        exact ih j _ _ (by omega) (by omega) hT' (hL.no q)
theorem mf_step {σ μ : Mem} (h : Rel σ μ) (hi : i < hg (μ 51)) (hx : x ≤ 60) {n k : Nat} (hk : k ≤ 99) : ∃ r', f_X4_moodFor_L37 (n + 1) (nI x) (1 + 3 + 1 + i) (nI k) σ = if Qm (μ 51) i x k then some (nI k, setr σ 37 r') else f_X4_moodFor_L37 n (nI x) (1 + 3 + 1 + i) (nI (k + 1)) (setr σ 37 r') := by
  have h8 := h.2.1.hung.2
  rw [f_X4_moodFor_L37_s, show (99 : Int32) = nI 99 from rfl, if_neg (nI_nlt hk (by decide)), tk_C (by omega), vC_s, vW_e, up2_setr]
  obtain ⟨r', g1, g2⟩ := pp_C (σ := setr σ 37 (upd (tk6 (σ 37) (σ (1 + 3 + 1 + i))) 1 (nI k))) (c := upd (cur (μ 51) i) 1 (nI k)) (x := x) (h.probe).1 h.2.1 ((h.2.1.2.2.2.2.2.2 i hi).1) (fun f hf => by
    rw [setr_same]
    by_cases w : f = 1
    · subst w; rw [upd_s, upd_s]
    · rw [upd_n w, upd_n w, tk6_e f hf]; exact h.1.2.2.2 i f hi hf) (by omega)
  refine ⟨r', ?_⟩
  rw [g1, vC_s, setr_setr, setr_same, g2 5 (by decide), setr_ne (show 1 + 3 + 1 + i ≠ 37 by omega), h.1.2.2.2 i 5 hi (by decide), vL_e, show nI k + 1 = nI (k + 1) from nI_1 k]
theorem mf1 {σ μ : Mem} (h : Rel σ μ) (hi : i < hg (μ 51)) (hx : x ≤ 60) {K : Nat} (hK : K < 100) (q : Qm (μ 51) i x K) (nq : ∀ j, j < K → ¬ Qm (μ 51) i x j) : ∀ n k σ, Rel σ μ → k ≤ K → K - k < n → ∃ r σ', f_X4_moodFor_L37 n (nI x) (1 + 3 + 1 + i) (nI k) σ = some (nI K, setr σ' 37 r) ∧ Rel σ' μ := by
  intro n
  induction n with
  | zero => intro k σ _ _ h; omega
  | succ n ih =>
    intro k σ hR hk hn
    obtain ⟨r', g⟩ := mf_step hR hi hx (n := n) (show k ≤ 99 by omega)
    rw [g]
    by_cases e : k = K
    · subst e
      rw [if_pos q]
      exact ⟨r', σ, rfl, hR⟩
    · rw [if_neg (nq k (by omega))]
      exact ih (k + 1) _ hR.probe (by omega) (by omega)
theorem mf0 {μ : Mem} (hi : i < hg (μ 51)) (hx : x ≤ 60) (nq : ∀ j, j < 100 → ¬ Qm (μ 51) i x j) : ∀ n k σ, Rel σ μ → k ≤ 100 → 100 - k < n → ∃ σ', f_X4_moodFor_L37 n (nI x) (1 + 3 + 1 + i) (nI k) σ = vC (f_X4_find 3 σ') (fun r τ => some (r, τ)) ∧ Rel σ' μ := by
  intro n
  induction n with
  | zero => intro k σ _ _ h; omega
  | succ n ih =>
    intro k σ hR hk hn
    by_cases e : k = 100
    · subst e
      rw [f_X4_moodFor_L37_s, if_pos (by decide)]
      exact ⟨σ, rfl, hR⟩
    · obtain ⟨r', g⟩ := mf_step hR hi hx (n := n) (show k ≤ 99 by omega)
      rw [g, if_neg (nq k (by omega))]
      exact ih (k + 1) _ hR.probe (by omega) (by omega)
end MF
theorem sim17 : Sim17 Rel := by
  intro σ μ x1 x2 h
  unfold f_X4_moodFor f_X5_moodFor f_X4_moodFor_J18 f_X5_moodFor_J15
  by_cases c : ¬ x1 < 0 ∧ ¬ (μ 51 1 - 1) < x1
  · rw [isCurtain_C1 h.1.1.2.2.2.2.2 c, isCurtain_M1 c, vC_s, vC_s, if_neg n10, if_neg n10]
    by_cases d : ¬ x2 < 0 ∧ ¬ 60 < x2
    · rw [wC1 d, isThought_M1 d, vC_s, vC_s, if_neg n10, if_neg n10]
      obtain ⟨i, hi, rfl⟩ := cur_of h.2.1 c
      have h8 := h.2.1.hung.2
      obtain ⟨x, hx, rfl⟩ := rg_of (m := 60) (by decide) rfl d
      rw [vI_at rfl (by omega) (by decide), cAt1, vC_s, vL_e, vL_e, cIs5 (by omega), vC_s]
      simp only [vL_e]
      rw [vI_at rfl (by omega) (by decide)]
      obtain ⟨y', μ', g1, g2, g3⟩ := mfM_L hi hx h.2.1 h.2.2.1.1 FU 100 μ (-1) (by decide) (FU_gt (by decide)) (Try.ini h.2.2.1.2.2) Low.ini
      have g1' : f_X5_moodFor_L51 FU (nI i) (nI x) (nI (22 + 6 * i + 1)) (cur (μ 51) i 5) (μ 51 (22 + 6 * i + 1)) (-1) 99 μ = vC (f_X5_orNone y' (up2 μ' 51 (22 + 6 * i + 1) (μ 51 (22 + 6 * i + 1)))) (fun r τ => some (r, τ)) := g1
      rw [g1']
      rcases g3 with ⟨a1, a2⟩ | ⟨K, a1, a2, a3, a4, a5⟩
      · obtain ⟨σ', b1, b2⟩ := mf0 hi hx (fun j hj => a2 j (Nat.zero_le _) hj) FU 0 σ h (Nat.zero_le _) (FU_gt (by omega))
        have b1' : f_X4_moodFor_L37 FU (nI x) (1 + 3 + 1 + i) 0 σ = vC (f_X4_find 3 σ') (fun r τ => some (r, τ)) := b1
        rw [a1, b1', none_0]
        obtain ⟨r, σ2, μ2, c1, c2, c3⟩ := fin3 (g2.fin b2)
        exact ⟨r, σ2, μ2, c1, by rw [c2, vC_s], c3⟩
      · obtain ⟨r, σ', b1, b2⟩ := mf1 h hi hx a2 a3 (fun j hj => a4 j (Nat.zero_le _) hj) FU 0 σ h (Nat.zero_le _) (FU_gt (by omega))
        have b1' : f_X4_moodFor_L37 FU (nI x) (1 + 3 + 1 + i) 0 σ = some (nI K, setr σ' 37 r) := b1
        rw [a5, b1', none_1 (by omega), vC_s]
        exact ⟨_, _, _, rfl, rfl, g2.fin b2.probe⟩
    · rw [wC0 d, isThought_M0 d, vC_s, vC_s, if_pos rfl, if_pos rfl]
      exact fin0 h
  · rw [isCurtain_C0 h.1.1.2.2.2.2.2 c, isCurtain_M0 c, vC_s, vC_s, if_pos rfl, if_pos rfl]
    exact fin0 h
