/-! 3 curtain, 30 as, 39 count, 40 status, 26 feed -/
theorem Rh_new {h n : Nat} {σ σ' : Mem} {N N' : Nat → Int32} {r : Nat → Int32} (hR : Rh h σ N) (hI : Inv N) (hn : n = hg N) (h8 : n < 8) (sh : σ' h = upd (σ h) 5 (nI (n + 1))) (sl : σ' (h + 1) = σ (h + 1)) (ss : σ' (h + 2) = σ (h + 2)) (sc : ∀ c, c < n → σ' (h + 3 + 1 + c) = σ (h + 3 + 1 + c)) (sn : ∀ f, f < 6 → σ' (h + 3 + 1 + n) f = r f)
    (nl : ∀ p, p < 22 → p ≠ 1 → N' p = N p) (n1 : N' 1 = nI (n + 1)) (nc : ∀ c f, c < n → f < 6 → cur N' c f = cur N c f) (nn : ∀ f, f < 6 → cur N' n f = r f) : Rh h σ' N' := by
  obtain ⟨⟨r0, r1, r2, r3, r4, r5⟩, rl, rs, rc⟩ := hR
  have e1 : hg N' = n + 1 := by unfold hg; rw [n1, nI_clamp (by omega)]
  refine ⟨?_, fun j hj => ?_, fun s hs => ?_, fun c f hc hf => ?_⟩
  · rw [sh, nl 3 (by decide) (by decide), nl 4 (by decide) (by decide), nl 5 (by decide) (by decide), nl 0 (by decide) (by decide), nl 2 (by decide) (by decide), n1]
    exact ⟨r0, r1, r2, r3, r4, rfl⟩
  · rw [sl, nl _ (by omega) (by omega)]; exact rl j hj
  · rw [ss, nl _ (by omega) (by omega)]; exact rs s hs
  · rw [e1] at hc
    by_cases e : c = n
    · subst e; rw [sn f hf, nn f hf]
    · rw [sc c (by omega), nc c f (by omega) hf]; exact rc c f (by omega) hf
theorem Inv_new {n : Nat} {N N' : Nat → Int32} {r : Nat → Int32} (hI : Inv N) (hn : n = hg N) (h8 : n < 8) (nl : ∀ p, p < 22 → p ≠ 1 → N' p = N p) (n1 : N' 1 = nI (n + 1)) (nc : ∀ c f, c < n → f < 6 → cur N' c f = cur N c f) (nn : ∀ f, f < 6 → cur N' n f = r f) (h0 : rg (r 0) 6) (h2 : rg (r 2) 4095) : Inv N' := by
  have e1 : hg N' = n + 1 := by unfold hg; rw [n1, nI_clamp (by omega)]
  obtain ⟨i0, i1, i3, i4, i5, is, ic⟩ := hI
  refine ⟨?_, ?_, ?_, ?_, ?_, fun s hs => ?_, fun c hc => ?_⟩
  · rw [nl 0 (by decide) (by decide)]; exact i0
  · rw [n1]; exact ⟨n + 1, by omega, rfl⟩
  · rw [nl 3 (by decide) (by decide)]; exact i3
  · rw [nl 4 (by decide) (by decide)]; exact i4
  · rw [nl 5 (by decide) (by decide)]; exact i5
  · rw [nl _ (by omega) (by omega), e1]
    rcases is s hs with q | ⟨c, hc, q⟩
    · exact Or.inl q
    · exact Or.inr ⟨c, by omega, q⟩
  · rw [e1] at hc
    by_cases e : c = n
    · subst e; rw [nn 0 (by decide), nn 2 (by decide)]; exact ⟨h0, h2⟩
    · rw [nc c 0 (by omega) (by decide), nc c 2 (by omega) (by decide)]; exact ic c (by omega)
def bnr (x : Int32) : Nat → Int32 := fun f => if f = 0 then x else if f = 1 then 60 else if f = 3 then 20 else 0
theorem bn_C {a : Nat} {x : Int32} {σ : Mem} : ∃ r, f_X0_beNew a x σ = some ((), setr σ a r) ∧ ∀ f, f < 6 → r f = bnr x f := by
  refine ⟨upd (upd (upd (upd (upd (upd (σ a) 0 x) 1 60) 2 0) 3 20) 4 0) 5 0, ?_, ?_⟩
  · unfold f_X0_beNew
    simp only [vW_e, up2_e, setr_same, setr_setr]
  · intro f hf
    rcases (show f = 0 ∨ f = 1 ∨ f = 2 ∨ f = 3 ∨ f = 4 ∨ f = 5 by omega) with rfl | rfl | rfl | rfl | rfl | rfl <;> rfl
def zN (N : Nat → Int32) (n : Nat) : Nat → (Nat → Int32)
  | 0 => N
  | k + 1 => upd (zN N n k) (22 + 6 * n + k) 0
def cmN (N : Nat → Int32) (n : Nat) (x1 x2 : Int32) : Nat → Int32 := upd (upd (upd (upd (upd (zN N n 6) (22 + 6 * n + 0) x1) (22 + 6 * n + 1) 60) (22 + 6 * n + 2) x2) (22 + 6 * n + 3) 20) 1 (nI (n + 1))
theorem zN_lo {N : Nat → Int32} {n p : Nat} (hp : p < 22 + 6 * n) : ∀ k, zN N n k p = N p := by
  intro k
  induction k with
  | zero => rfl
  | succ k ih => exact (upd_n (by omega)).trans ih
theorem zN_Z {N : Nat → Int32} {n : Nat} (hZ : Z70 N) (hn : n < 8) : ∀ k, k ≤ 6 → Z70 (zN N n k) := by
  intro k
  induction k with
  | zero => intro _; exact hZ
  | succ k ih => intro hk; exact Z_upd (ih (by omega)) (by omega)
theorem cm_lo {N : Nat → Int32} {n p : Nat} {x1 x2 : Int32} (hp : p < 22) (h1 : p ≠ 1) : cmN N n x1 x2 p = N p := by
  unfold cmN
  rw [upd_n h1, upd_n (by omega), upd_n (by omega), upd_n (by omega), upd_n (by omega), zN_lo (by omega)]
theorem cm_1 {N : Nat → Int32} {n : Nat} {x1 x2 : Int32} : cmN N n x1 x2 1 = nI (n + 1) := upd_s
theorem cm_ne {N : Nat → Int32} {n c f : Nat} {x1 x2 : Int32} (hc : c < n) (hf : f < 6) : cur (cmN N n x1 x2) c f = cur N c f := by
  unfold cmN
  rw [cur_lo (by decide), cur_ne (by omega) (by decide) hf, cur_ne (by omega) (by decide) hf, cur_ne (by omega) (by decide) hf, cur_ne (by omega) (by decide) hf]
  exact zN_lo (by omega) 6
theorem cm_e {N : Nat → Int32} {n f : Nat} {x1 x2 : Int32} (hf : f < 6) : cur (cmN N n x1 x2) n f = upd (bnr x1) 2 x2 f := by
  have z : cur (zN N n 6) n = upd (upd (upd (upd (upd (upd (cur N n) 0 0) 1 0) 2 0) 3 0) 4 0) 5 0 := by
    simp only [zN, cur_upd]
  unfold cmN
  rw [cur_lo (by decide), cur_upd, cur_upd, cur_upd, cur_upd, z]
  rcases (show f = 0 ∨ f = 1 ∨ f = 2 ∨ f = 3 ∨ f = 4 ∨ f = 5 by omega) with rfl | rfl | rfl | rfl | rfl | rfl <;> rfl
theorem cm_Z {N : Nat → Int32} {n : Nat} {x1 x2 : Int32} (hZ : Z70 N) (hn : n < 8) : Z70 (cmN N n x1 x2) := Z_upd (Z_upd (Z_upd (Z_upd (Z_upd (zN_Z hZ hn 6 (by decide)) (by omega)) (by omega)) (by omega)) (by omega)) (by decide)
theorem cm_L {x1 x2 : Int32} {N : Nat → Int32} {n : Nat} (hn : n < 8) (hN : N 1 = nI n) : ∀ (m k : Nat) (μ : Mem), k ≤ 6 → 6 - k < m → μ 51 = zN N n k → f_X5_comes_L10 m x1 x2 (nI n) (nI k) μ = some (nI n, setr μ 51 (cmN N n x1 x2)) := by
  intro m
  induction m with
  | zero => intro k μ _ h; omega
  | succ m ih =>
    intro k μ hk hm hμ
    rw [f_X5_comes_L10_s, show (6 : Int32) = nI 6 from rfl]
    rcases Nat.lt_or_ge k 6 with q | q
    · rw [if_neg (nle_of q (by decide)), cAt rfl, vC_s, vI_at rfl (by omega) (by decide), vW_e, vL_e, show nI k + 1 = nI (k + 1) from nI_1 k]
      rw [ih (k + 1) _ q (by omega) (by rw [up2_s, hμ]; rfl), up2_e, setr_setr]
    · have hke : k = 6 := by omega
      subst hke
      rw [if_pos (nI_le (Nat.le_refl _) (by decide)), cAt0, vC_s, vI_at rfl (by omega) (by decide), vW_e, cAt1, vC_s, vI_at rfl (by omega) (by decide), vW_e, cAt2, vC_s, vI_at rfl (by omega) (by decide), vW_e, cAt3, vC_s, vI_at rfl (by omega) (by decide), vW_e, vI_at (x := 1) (j := 1) rfl (by decide) (by decide), vI_at (x := 1) (j := 1) rfl (by decide) (by decide), vW_e]
      simp only [up2_e, setr_same, setr_setr]
      rw [hμ, upd_n (show 1 ≠ 22 + 6 * n + 3 by omega), upd_n (show 1 ≠ 22 + 6 * n + 2 by omega), upd_n (show 1 ≠ 22 + 6 * n + 1 by omega), upd_n (show 1 ≠ 22 + 6 * n + 0 by omega), zN_lo (by omega), hN, show nI n + 1 = nI (n + 1) from nI_1 n]
      rfl
theorem cm_M {x1 x2 : Int32} {μ : Mem} (hI : Inv (μ 51)) (hn : hg (μ 51) < 8) : f_X5_comes x1 x2 μ = some (nI (hg (μ 51)), setr μ 51 (cmN (μ 51) (hg (μ 51)) x1 x2)) := by
  unfold f_X5_comes
  rw [vI_at (x := 1) (j := 1) rfl (by decide) (by decide), vL_e, vL_e, hI.hung.1]
  exact cm_L hn hI.hung.1 FU 0 μ (by decide) (FU_gt (by decide)) rfl
theorem full_C {h : Nat} {σ : Mem} {N : Nat → Int32} (hR : Rh h σ N) (hI : Inv N) : f_X1_isFull h σ = some (if hg N < 8 then 0 else 1, σ) := by
  unfold f_X1_isFull
  rw [hR.1.2.2.2.2.2, hI.hung.1, show (8 : Int32) = nI 8 from rfl]
  have h8 := hI.hung.2
  by_cases c : hg N < 8
  · rw [if_pos (nI_lt c (by decide)), if_pos c]
  · rw [if_neg (nI_nlt (by omega) (by omega)), if_neg c]
theorem hang_C {h : Nat} {σ : Mem} {N : Nat → Int32} {x : Int32} (hR : Rh h σ N) (hI : Inv N) (hn : hg N < 8) : ∃ σ', f_X1_hang h x σ = some (h + 3 + 1 + hg N, σ') ∧ σ' h = upd (σ h) 5 (nI (hg N + 1)) ∧ (∀ f, f < 6 → σ' (h + 3 + 1 + hg N) f = bnr x f) ∧ (∀ i, i ≠ h → i ≠ h + 3 + 1 + hg N → σ' i = σ i) := by
  obtain ⟨r, g1, g2⟩ := bn_C (a := h + 3 + 1 + hg N) (x := x) (σ := σ)
  unfold f_X1_hang
  rw [hR.1.2.2.2.2.2, hI.hung.1, vI_at rfl hn (by decide), g1, vC_s, vW_e]
  have e : setr σ (h + 3 + 1 + hg N) r h = σ h := setr_ne (by omega)
  refine ⟨_, rfl, ?_, fun f hf => ?_, fun i h1 h2 => ?_⟩
  · rw [up2_s, e, hR.1.2.2.2.2.2, hI.hung.1, show nI (hg N) + 1 = nI (hg N + 1) from nI_1 _]
  · rw [up2_n (by omega), setr_same]; exact g2 f hf
  · rw [up2_n h1, setr_ne h2]
theorem sim3 : Sim3 Rel := by
  intro σ μ x1 x2 h
  unfold f_X4_curtain f_X5_curtain f_X4_curtain_J18 f_X5_curtain_J14
  by_cases c : ¬ x1 < 0 ∧ ¬ 6 < x1
  · rw [isKind_C1 c, isKind_M1 c, vC_s, vC_s, if_neg n10, if_neg n10]
    by_cases d : ¬ x2 < 0 ∧ ¬ 4095 < x2
    · rw [wC1 d, isSet_M1 d, vC_s, vC_s, if_neg n10, if_neg n10, full_C h.1 h.2.1, vC_s, vI_at (x := 1) (j := 1) rfl (by decide) (by decide), h.2.1.hung.1]
      have h8 := h.2.1.hung.2
      by_cases e : hg (μ 51) < 8
      · have ne8 : ¬ nI (hg (μ 51)) = 8 := by
          rw [show (8 : Int32) = nI 8 from rfl, nI_eq (by omega) (by decide)]; omega
        obtain ⟨σ1, g1, g2, g3, g4⟩ := hang_C (x := x1) h.1 h.2.1 e
        rw [if_pos e, if_pos rfl, if_neg ne8, g1, vC_s, vW_e, cm_M h.2.1 e, vC_s]
        have e1 : up2 σ1 (1 + 3 + 1 + hg (μ 51)) 2 x2 1 = upd (σ 1) 5 (nI (hg (μ 51) + 1)) := (up2_n (by omega)).trans g2
        have e2 : ∀ f, f < 6 → up2 σ1 (1 + 3 + 1 + hg (μ 51)) 2 x2 (1 + 3 + 1 + hg (μ 51)) f = upd (bnr x1) 2 x2 f := by
          intro f hf
          rw [up2_s]
          by_cases q : f = 2
          · subst q; rw [upd_s, upd_s]
          · rw [upd_n q, upd_n q]; exact g3 f hf
        have e3 : ∀ i, i ≠ 1 → i ≠ 1 + 3 + 1 + hg (μ 51) → up2 σ1 (1 + 3 + 1 + hg (μ 51)) 2 x2 i = σ i := fun i h1 h2 => (up2_n h2).trans (g4 i h1 h2)
        have e4 : up2 σ1 (1 + 3 + 1 + hg (μ 51)) 2 x2 1 5 - 1 = nI (hg (μ 51)) := by
          rw [e1, upd_s]; exact nI_pred _
        rw [e4]
        refine ⟨_, _, _, rfl, rfl, h.house (fun i a b => e3 i (by omega) (by omega)) (fun i a b => setr_ne a) ?_ ?_ ?_ ?_⟩
        · rw [setr_same]
          exact Rh_new h.1 h.2.1 rfl e e1 (e3 _ (by omega) (by omega)) (e3 _ (by omega) (by omega)) (fun c hc => e3 _ (by omega) (by omega)) e2 (fun p h1 h2 => cm_lo h1 h2) cm_1 (fun c f h1 h2 => cm_ne h1 h2) (fun f hf => cm_e hf)
        · rw [setr_same]
          exact Inv_new h.2.1 rfl e (fun p h1 h2 => cm_lo h1 h2) cm_1 (fun c f h1 h2 => cm_ne h1 h2) (fun f hf => cm_e hf) ((rg_iff (m := 6) (by decide)).mpr c) ((rg_iff (m := 4095) (by decide)).mpr d)
        · rw [setr_same]; exact cm_Z h.2.2.1.1 e
        · rw [setr_ne (by decide)]; exact h.2.2.1.2.2
      · have e8 : nI (hg (μ 51)) = 8 := by rw [show hg (μ 51) = 8 by omega]; rfl
        rw [if_neg e, if_neg n10, if_pos e8]
        exact fin1 h
    · rw [wC0 d, isSet_M0 d, vC_s, vC_s, if_pos rfl, if_pos rfl]
      exact fin0 h
  · rw [isKind_C0 c, isKind_M0 c, vC_s, vC_s, if_pos rfl, if_pos rfl]
    exact fin0 h
/-! 30 as -/
def iu : Nat → Int32 → Int32 → Option Int32
  | 0 => fun _ _ => none
  | n + 1 => fun y1 y2 => if y2 < 0 then some 0 else if y2 = y1 then some 1 else iu n y1 (if y2 = 0 then -1 else if y2 = 3 then 2 else if y2 = 4 then 3 else if y2 = 6 then 1 else 0)
theorem iu_L {μ : Mem} : ∀ (n : Nat) (y1 y2 : Int32), f_X5_isUnder_L2 n y1 y2 μ = (iu n y1 y2).map (fun v => (v, μ)) := by
  intro n
  induction n with
  | zero => intro y1 y2; rfl
  | succ n ih =>
    intro y1 y2
    rw [f_X5_isUnder_L2_s]
    have ea : f_X5_above y2 μ = some ((if y2 = 0 then -1 else if y2 = 3 then 2 else if y2 = 4 then 3 else if y2 = 6 then 1 else 0), μ) := by
      unfold f_X5_above
      repeat' split
      all_goals rfl
    show _ = (if y2 < 0 then some 0 else if y2 = y1 then some 1 else iu n y1 (if y2 = 0 then -1 else if y2 = 3 then 2 else if y2 = 4 then 3 else if y2 = 6 then 1 else 0)).map _
    unfold f_X5_isUnder_J19
    rw [ea, vC_s, vL_e]
    by_cases c : y2 < 0
    · rw [if_pos c, if_pos c, if_pos c]; rfl
    · rw [if_neg c, if_neg c, if_neg c]
      by_cases d : y2 = y1
      · rw [if_pos d, if_pos d]; rfl
      · rw [if_neg d, if_neg d]
        exact ih _ _
theorem iu_more : ∀ (n m : Nat) (y1 y2 v : Int32), iu n y1 y2 = some v → iu (n + m) y1 y2 = some v := by
  intro n
  induction n with
  | zero => intro m y1 y2 v h; cases h
  | succ n ih =>
    intro m y1 y2 v h
    rw [show n + 1 + m = (n + m) + 1 by omega]
    change (if y2 < 0 then some 0 else if y2 = y1 then some 1 else iu n y1 _) = some v at h
    show (if y2 < 0 then some 0 else if y2 = y1 then some 1 else iu (n + m) y1 _) = some v
    by_cases c : y2 < 0
    · rw [if_pos c] at h ⊢; exact h
    · rw [if_neg c] at h ⊢
      by_cases d : y2 = y1
      · rw [if_pos d] at h ⊢; exact h
      · rw [if_neg d] at h ⊢; exact ih m _ _ _ h
theorem iu_tab : ∀ k, k < 7 → ∀ a, a < 7 → iu 6 (nI a) (nI k) = some (if ((((sTab 5).getD k 0) >>> (nI a &&& 31)) &&& 1) = 1 then 1 else 0) := by decide +kernel
theorem under_M {k a : Nat} {μ : Mem} (hk : k < 7) (ha : a < 7) : f_X5_isUnder (nI k) (nI a) μ = some (if ((((sTab 5).getD k 0) >>> (nI a &&& 31)) &&& 1) = 1 then 1 else 0, μ) := by
  unfold f_X5_isUnder
  rw [vL_e, iu_L, show FU = 6 + 9994 from rfl, iu_more 6 9994 _ _ _ (iu_tab k hk a ha)]
  rfl
theorem sim30 : Sim30 Rel := by
  intro σ μ x1 x2 h
  unfold f_X4_as f_X5_as f_X4_as_J14 f_X5_as_J14
  by_cases c : ¬ x1 < 0 ∧ ¬ 9 < x1
  · rw [isSpot_C1 c, isSpot_M1 c, vC_s, vC_s, if_neg n10, if_neg n10]
    by_cases d : ¬ x2 < 0 ∧ ¬ 6 < x2
    · rw [isKind_C1 d, isKind_M1 d, vC_s, vC_s, if_neg n10, if_neg n10]
      obtain ⟨k, hk, rfl⟩ := rg_of (m := 9) (by decide) rfl c
      obtain ⟨a, ha, rfl⟩ := rg_of (m := 6) (by decide) rfl d
      rw [vI_at rfl (by omega) (by decide), vL_e, vI_at (j := 12 + k) (by rw [← nI_add]; rfl) (by omega) (by decide), vL_e, h.1.2.2.1 k (by omega)]
      have h8 := h.2.1.hung.2
      rcases h.2.1.2.2.2.2.2.1 k (by omega) with e | ⟨v, hv, e⟩
      · rw [e, isCurtain_C0 h.1.1.2.2.2.2.2 (fun q => q.1 (by decide)), vC_s, if_pos rfl, if_neg (show ¬ (0 : Int32) ≤ -1 by decide)]
        exact fin5 h
      · rw [e, isCurtain_C1 h.1.1.2.2.2.2.2 (cur_is h.2.1 hv), vC_s, if_neg n10, vI_at rfl (by omega) (by decide), if_pos (show (0 : Int32) ≤ nI v from nI_pos' (by omega)), cIs0 (by omega), vC_s]
        obtain ⟨w, hw, ew⟩ := (h.2.1.2.2.2.2.2.2 v hv).1
        unfold f_X0_countsAs
        rw [h.1.2.2.2 v 0 hv (by decide), ew, vI_at rfl (by omega) (by decide), under_M (by omega) (by omega), vC_s]
        by_cases q : (((sTab 5).getD w 0 >>> (nI a &&& 31)) &&& 1) = 1
        · rw [if_pos q, if_pos q, vC_s, if_neg n10, if_neg n10]
          exact ⟨_, _, _, rfl, rfl, h⟩
        · rw [if_neg q, if_neg q, vC_s, if_pos rfl, if_pos rfl]
          exact fin2 h
    · rw [isKind_C0 d, isKind_M0 d, vC_s, vC_s, if_pos rfl, if_pos rfl]
      exact fin0 h
  · rw [isSpot_C0 c, isSpot_M0 c, vC_s, vC_s, if_pos rfl, if_pos rfl]
    exact fin0 h
