/-! 3 curtain, 5 change, 6 pull, 27 wipe, 29 hold, 30 as, 36 to 40 -/
theorem tlv_f {c : Nat → Int32} {w : Nat} {S F : Int32} (hw : w < 6) : tlv c (nI w) S F = c w := by
  rcases (show w = 0 ∨ w = 1 ∨ w = 2 ∨ w = 3 ∨ w = 4 ∨ w = 5 by omega) with rfl | rfl | rfl | rfl | rfl | rfl <;> rfl
theorem set_C {a w : Nat} {v : Int32} {σ : Mem} (hw : w < 6) : f_X0_set a (nI w) v σ = some ((), up2 σ a w v) := by
  rcases (show w = 0 ∨ w = 1 ∨ w = 2 ∨ w = 3 ∨ w = 4 ∨ w = 5 by omega) with rfl | rfl | rfl | rfl | rfl | rfl <;> rfl
def mostOf (w : Nat) : Int32 := (sTab 6).getD w 0
theorem field_M {w : Nat} {x3 : Int32} {μ : Mem} (hw : w < 6) : f_X5_isField (nI w) x3 μ = some (if ¬ x3 < 0 ∧ ¬ mostOf w < x3 then 1 else 0, μ) := by
  have vb : ∀ (P : Prop) [Decidable P], vB (if P then (1 : Int32) else 0) (some ((if P then (1 : Int32) else 0), μ)) = some (if P then 1 else 0, μ) := by
    intro P _
    unfold vB
    rw [if_pos (by by_cases h : P <;> simp [h])]
  rcases (show w = 0 ∨ w = 1 ∨ w = 2 ∨ w = 3 ∨ w = 4 ∨ w = 5 by omega) with rfl | rfl | rfl | rfl | rfl | rfl
  · show vC (f_X5_isKind x3 μ) _ = _
    unfold f_X5_isKind
    rw [within_M, vC_s, vb, vC_s, vb]; rfl
  · show vC (f_X5_within x3 0 99 μ) _ = _
    rw [within_M, vC_s, vb]; rfl
  · show vC (f_X5_isSet x3 μ) _ = _
    unfold f_X5_isSet
    rw [within_M, vC_s, vb, vC_s, vb]; rfl
  · show vC (f_X5_within x3 0 20 μ) _ = _
    rw [within_M, vC_s, vb]; rfl
  · show vC (f_X5_within x3 0 1 μ) _ = _
    rw [within_M, vC_s, vb]; rfl
  · show vC (f_X5_within x3 0 9999 μ) _ = _
    rw [within_M, vC_s, vb]; rfl
theorem field_M0 {x2 x3 : Int32} {μ : Mem} (h : ¬ (¬ x2 < 0 ∧ ¬ 5 < x2)) : f_X5_isField x2 x3 μ = some (0, μ) := by
  have ne : ∀ w : Nat, w < 6 → ¬ x2 = nI w := by
    intro w hw e
    apply h
    rw [e]
    exact (rg_iff (m := 5) (by decide)).mp ⟨w, by omega, rfl⟩
  unfold f_X5_isField
  rw [if_neg (show ¬ x2 = 0 from ne 0 (by decide)), if_neg (show ¬ x2 = 1 from ne 1 (by decide)), if_neg (show ¬ x2 = 2 from ne 2 (by decide)), if_neg (show ¬ x2 = 3 from ne 3 (by decide)), if_neg (show ¬ x2 = 4 from ne 4 (by decide)), if_neg (show ¬ x2 = 5 from ne 5 (by decide))]
theorem sim5 : Sim5 Rel := by
  intro σ μ x1 x2 x3 h
  unfold f_X4_change f_X5_change f_X4_change_J30 f_X5_change_J29
  by_cases c : ¬ x1 < 0 ∧ ¬ (μ 51 1 - 1) < x1
  · rw [isCurtain_C1 h.1.1.2.2.2.2.2 c, isCurtain_M1 c, vC_s, vC_s, if_neg n10, if_neg n10]
    by_cases d : ¬ x2 < 0 ∧ ¬ 5 < x2
    · rw [wC1 d, vC_s, if_neg n10]
      obtain ⟨k, hk, rfl⟩ := cur_of h.2.1 c
      obtain ⟨w, hw, rfl⟩ := rg_of (m := 5) (by decide) rfl d
      have h8 := h.2.1.hung.2
      have ag : ∀ f, f < 6 → σ (1 + 3 + 1 + k) f = cur (μ 51) k f := fun f hf => h.1.2.2.2 k f hk hf
      rw [vI_at rfl (by omega) (by decide), field_M (by omega), vC_s]
      by_cases e : ¬ x3 < 0 ∧ ¬ mostOf w < x3
      · rw [if_pos e, wC1 (b := (sTab 6).getD w 0) e, vC_s, if_neg n10, if_neg n10, vI_at rfl (by omega) (by decide), si0_C h.1 h.2.1, vC_s, tell_C (by rw [ag 0 (by decide)]; exact (h.2.1.2.2.2.2.2.2 k hk).1), vC_s, vL_e, set_C (by omega), vC_s, cAt rfl, vC_s, bec_M rfl (by omega), vC_s, tlv_f (by omega), ag w (by omega)]
        refine ⟨_, _, _, rfl, rfl, h.one (by omega) (by omega) (Rh_cur h.1 (by omega) (by omega)) (Inv_cur h.2.1 (by omega) (by omega) (fun q => ?_) (fun q => ?_))⟩
        · subst q; exact (rg_iff (by decide)).mpr e
        · subst q; exact (rg_iff (by decide)).mpr e
      · rw [if_neg e, wC0 (b := (sTab 6).getD w 0) e, vC_s, if_pos rfl, if_pos rfl]
        exact fin0 h
    · rw [wC0 d, vC_s, if_pos rfl, field_M0 d, vC_s, if_pos rfl]
      exact fin0 h
  · rw [isCurtain_C0 h.1.1.2.2.2.2.2 c, isCurtain_M0 c, vC_s, vC_s, if_pos rfl, if_pos rfl]
    exact fin0 h
/-! pulling -/
def puH (c : Nat → Int32) (x : Int32) : Int32 := if c 3 + (x / 10 + ris c) < 20 then c 3 + (x / 10 + ris c) else 20
def puM (c : Nat → Int32) (x : Int32) : Int32 := if 0 < c 1 - x / 5 then c 1 - x / 5 else 0
def pul (c : Nat → Int32) (x : Int32) : Nat → Int32 := upd (upd c 3 (puH c x)) 1 (puM c x)
theorem pul_C {a : Nat} {x : Int32} {σ : Mem} (h : rg (σ a 0) 6) : f_X0_getPulled a x σ = some ((), setr σ a (pul (σ a) x)) := by
  unfold f_X0_getPulled pul puH puM
  rw [ris_C h, vC_s, vW_e, vW_e, Int32.add_assoc]
  simp only [up2_e, setr_same, setr_setr]
  rfl
theorem cg_pul {c d : Nat → Int32} {x : Int32} (h : ∀ f, f < 6 → c f = d f) : ∀ f, f < 6 → pul c x f = pul d x f := by
  intro f hf
  unfold pul puH puM ris upd
  simp only [h 0 (by decide), h 1 (by decide), h 3 (by decide), h f hf]
def puN (N : Nat → Int32) (i : Nat) (x : Int32) : Nat → Int32 := upd (upd N (22 + 6 * i + 3) (puH (cur N i) x)) (22 + 6 * i + 1) (puM (cur N i) x)
theorem pul_M {i : Nat} {x : Int32} {μ : Mem} (hi : i < 8) (hk : rg (cur (μ 51) i 0) 6) : f_X5_pulled (nI i) x μ = some (puH (cur (μ 51) i) x, setr μ 51 (puN (μ 51) i x)) := by
  unfold f_X5_pulled puN
  rw [cAt3, vC_s, ris_M hi hk, vC_s, more_M rfl (by omega), vC_s, cAt1, vC_s, less_M rfl (by omega), vC_s, cIs3 hi, vC_s, setr_same, setr_same, setr_setr, cur_upd, cur_upd]
  rw [upd_n (show 22 + 6 * i + 1 ≠ 22 + 6 * i + 3 by omega), upd_n (show (3 : Nat) ≠ 1 by decide), upd_s]
  rfl
theorem pu_cur {N : Nat → Int32} {i : Nat} {x : Int32} : cur (puN N i x) i = pul (cur N i) x := by
  unfold puN pul
  rw [cur_upd, cur_upd]
theorem Rh_row {h : Nat} {σ : Mem} {N : Nat → Int32} {k : Nat} {r : Nat → Int32} {N' : Nat → Int32} (hR : Rh h σ N) (hk : k < 8) (hlo : ∀ p, p < 22 → N' p = N p) (hne : ∀ c f, c ≠ k → f < 6 → cur N' c f = cur N c f) (he : k < hg N → ∀ f, f < 6 → r f = cur N' k f) : Rh h (setr σ (h + 3 + 1 + k) r) N' := by
  obtain ⟨⟨r0, r1, r2, r3, r4, r5⟩, rl, rs, rc⟩ := hR
  have e1 : hg N' = hg N := by unfold hg; rw [hlo 1 (by decide)]
  refine ⟨?_, fun j hj => ?_, fun s hs => ?_, fun c f hc hf => ?_⟩
  · rw [setr_ne (by omega), hlo 3 (by decide), hlo 4 (by decide), hlo 5 (by decide), hlo 0 (by decide), hlo 2 (by decide), hlo 1 (by decide)]
    exact ⟨r0, r1, r2, r3, r4, r5⟩
  · rw [setr_ne (by omega), hlo _ (by omega)]; exact rl j hj
  · rw [setr_ne (by omega), hlo _ (by omega)]; exact rs s hs
  · rw [e1] at hc
    by_cases e : c = k
    · subst e; rw [setr_same]; exact he hc f hf
    · rw [setr_ne (by omega), hne c f e hf]; exact rc c f hc hf
theorem Inv_row {N N' : Nat → Int32} (hI : Inv N) (hlo : ∀ p, p < 22 → N' p = N p) (h0 : ∀ c, c < hg N → cur N' c 0 = cur N c 0) (h2 : ∀ c, c < hg N → cur N' c 2 = cur N c 2) : Inv N' := by
  have e1 : hg N' = hg N := by unfold hg; rw [hlo 1 (by decide)]
  obtain ⟨i0, i1, i3, i4, i5, is, ic⟩ := hI
  refine ⟨?_, ?_, ?_, ?_, ?_, fun s hs => ?_, fun c hc => ?_⟩
  · rw [hlo 0 (by decide)]; exact i0
  · rw [hlo 1 (by decide)]; exact i1
  · rw [hlo 3 (by decide)]; exact i3
  · rw [hlo 4 (by decide)]; exact i4
  · rw [hlo 5 (by decide)]; exact i5
  · rw [e1, hlo _ (by omega)]; exact is s hs
  · rw [e1] at hc
    rw [h0 c hc, h2 c hc]; exact ic c hc
theorem pu_lo {N : Nat → Int32} {i p : Nat} {x : Int32} (hp : p < 22) : puN N i x p = N p := by
  unfold puN
  rw [upd_lo hp, upd_lo hp]
theorem pu_ne {N : Nat → Int32} {i c f : Nat} {x : Int32} (hc : c ≠ i) (hf : f < 6) : cur (puN N i x) c f = cur N c f := by
  unfold puN
  rw [cur_ne hc (by decide) hf, cur_ne hc (by decide) hf]
theorem pu_e {N : Nat → Int32} {i c f : Nat} {x : Int32} (hf : f = 0 ∨ f = 2) : cur (puN N i x) c f = cur N c f := by
  by_cases e : c = i
  · subst e
    rw [pu_cur]
    unfold pul
    rw [upd_n (by omega), upd_n (by omega)]
  · exact pu_ne e (by omega)
theorem pu_Inv {N : Nat → Int32} {i : Nat} {x : Int32} (hI : Inv N) : Inv (puN N i x) := Inv_row hI (fun p hp => pu_lo hp) (fun c _ => pu_e (Or.inl rfl)) (fun c _ => pu_e (Or.inr rfl))
theorem pu_Z {N : Nat → Int32} {i : Nat} {x : Int32} (hZ : Z70 N) (hi : i < 8) : Z70 (puN N i x) := Z_upd (Z_upd hZ (by omega)) (by omega)
theorem Rh_pu {h : Nat} {σ : Mem} {N : Nat → Int32} {k : Nat} {x : Int32} (hR : Rh h σ N) (hk : k < hg N) (h8 : hg N ≤ 8) : Rh h (setr σ (h + 3 + 1 + k) (pul (σ (h + 3 + 1 + k)) x)) (puN N k x) :=
  Rh_row hR (by omega) (fun p hp => pu_lo hp) (fun c f hc hf => pu_ne hc hf) (fun hk f hf => by rw [pu_cur]; exact cg_pul (fun f hf => hR.2.2.2 k f hk hf) f hf)
theorem sim6 : Sim6 Rel := by
  intro σ μ x1 x2 h
  unfold f_X4_pull f_X5_pull f_X4_pull_J18 f_X5_pull_J18
  by_cases c : ¬ x1 < 0 ∧ ¬ (μ 51 1 - 1) < x1
  · rw [isCurtain_C1 h.1.1.2.2.2.2.2 c, isCurtain_M1 c, vC_s, vC_s, if_neg n10, if_neg n10]
    by_cases d : ¬ x2 < 1 ∧ ¬ 40 < x2
    · rw [wC1 d, wM1 d, vC_s, vC_s, if_neg n10, if_neg n10]
      obtain ⟨k, hk, rfl⟩ := cur_of h.2.1 c
      have h8 := h.2.1.hung.2
      have ag : ∀ f, f < 6 → σ (1 + 3 + 1 + k) f = cur (μ 51) k f := fun f hf => h.1.2.2.2 k f hk hf
      have hkd := (h.2.1.2.2.2.2.2.2 k hk).1
      unfold f_X5_isTied
      rw [vI_at rfl (by omega) (by decide), ag 4 (by decide), cIs4 (by omega), vC_s]
      by_cases e : cur (μ 51) k 4 = 1
      · rw [if_pos e, if_pos e, vC_s, if_neg n10]
        exact fin4 h
      · rw [if_neg e, if_neg e, vC_s, if_pos rfl, pul_C (by rw [ag 0 (by decide)]; exact hkd), vC_s, pul_M (by omega) hkd, vC_s, setr_same]
        have e3 : pul (σ (1 + 3 + 1 + k)) x2 3 = puH (cur (μ 51) k) x2 := cg_pul ag 3 (by decide)
        rw [e3]
        refine ⟨_, _, _, rfl, rfl, h.house (fun i a b => setr_ne (by omega)) (fun i a b => setr_ne a) ?_ ?_ ?_ ?_⟩
        · rw [setr_same]; exact Rh_pu h.1 hk h8
        · rw [setr_same]; exact pu_Inv h.2.1
        · rw [setr_same]; exact pu_Z h.2.2.1.1 (by omega)
        · rw [setr_ne (by decide)]; exact h.2.2.1.2.2
    · rw [wC0 d, wM0 d, vC_s, vC_s, if_pos rfl, if_pos rfl]
      exact fin0 h
  · rw [isCurtain_C0 h.1.1.2.2.2.2.2 c, isCurtain_M0 c, vC_s, vC_s, if_pos rfl, if_pos rfl]
    exact fin0 h
/-! 29 hold -/
theorem sim29 : Sim29 Rel := by
  intro σ μ x1 x2 h
  unfold f_X4_hold f_X5_hold f_X4_hold_J20 f_X5_hold_J20
  by_cases c : ¬ x1 < 0 ∧ ¬ 9 < x1
  · rw [isSpot_C1 c, isSpot_M1 c, vC_s, vC_s, if_neg n10, if_neg n10]
    obtain ⟨k, hk, rfl⟩ := rg_of (m := 9) (by decide) rfl c
    have key : (x2 = -1 ∨ ∃ c, c < hg (μ 51) ∧ x2 = nI c) → ∃ (r : Int32) (σ' μ' : Mem), f_X4_hold_J26 (nI k) x2 σ = some (r, σ') ∧ f_X5_hold_J27 (nI k) x2 μ = some (r, μ') ∧ Rel σ' μ' := by
      intro hv
      unfold f_X4_hold_J26 f_X5_hold_J27
      rw [vI_at rfl (by omega) (by decide), vI_at (j := 12 + k) (by rw [← nI_add]; rfl) (by omega) (by decide), vW_e, vW_e]
      exact ⟨_, _, _, rfl, rfl, h.one (by decide) (by omega) (Rh_spot h.1 (by omega)) (Inv_spot h.2.1 (by omega) hv)⟩
    by_cases d : x2 = -1
    · rw [if_pos d, if_pos d]
      exact key (Or.inl d)
    · rw [if_neg d, if_neg d]
      by_cases e : ¬ x2 < 0 ∧ ¬ (μ 51 1 - 1) < x2
      · rw [isCurtain_C1 h.1.1.2.2.2.2.2 e, isCurtain_M1 e, vC_s, vC_s, if_neg n10, if_neg n10]
        exact key (Or.inr (cur_of h.2.1 e))
      · rw [isCurtain_C0 h.1.1.2.2.2.2.2 e, isCurtain_M0 e, vC_s, vC_s, if_pos rfl, if_pos rfl]
        exact fin0 h
  · rw [isSpot_C0 c, isSpot_M0 c, vC_s, vC_s, if_pos rfl, if_pos rfl]
    exact fin0 h
/-! 27 wipe, 36 image, 37 undo, 38 tear -/
theorem Rel.flag {σ μ : Mem} {v : Int32} (h : Rel σ μ) (hv : v = 0) : Rel (up2 σ 0 2 v) (up2 μ 50 3 v) := by
  obtain ⟨r1, r2, z, rk, rf, rt, rs⟩ := h
  have a : ∀ i, i ≠ 0 → up2 σ 0 2 v i = σ i := fun i hi => up2_n hi
  have b : ∀ i, i ≠ 50 → up2 μ 50 3 v i = μ i := fun i hi => up2_n hi
  refine ⟨by rw [b 51 (by decide)]; exact Rh_fr r1 r2 (fun i x y => a i (by omega)), by rw [b 51 (by decide)]; exact r2, by rw [b 51 (by decide), b 52 (by decide), b 53 (by decide)]; exact z, ?_, RF_fr rf (a 49 (by decide)) (b 54 (by decide)), RT_fr rt (by rw [a 38 (by decide)]) (a 39 (by decide)) (by rw [up2_s, upd_n (by decide)]) (b 55 (by decide)), RS_fr rs (fun i x y => a i (by omega)) (b 58 (by decide)) (b 59 (by decide)) (b 60 (by decide))⟩
  refine ⟨by rw [up2_s, up2_s, upd_s, upd_s], Or.inl (by rw [up2_s, upd_s]; exact hv), fun q => ?_⟩
  rw [up2_s, upd_s, hv] at q
  exact absurd q (by decide)
theorem sim27 : Sim27 Rel := by
  intro σ μ h
  unfold f_X4_wipe f_X5_wipe
  obtain ⟨r1, r2, z, rk, rf, ⟨n, hn, t1, t2, t3⟩, rs⟩ := h
  rw [vL_e, vL_e, vW_e, vW_e, t1, t2]
  refine ⟨_, _, _, rfl, rfl, ?_⟩
  have a : ∀ i, i ≠ 38 → up2 σ 38 1 0 i = σ i := fun i hi => up2_n hi
  have b : ∀ i, i ≠ 50 → up2 μ 50 6 0 i = μ i := fun i hi => up2_n hi
  refine ⟨by rw [b 51 (by decide)]; exact Rh_fr r1 r2 (fun i x y => a i (by omega)), by rw [b 51 (by decide)]; exact r2, by rw [b 51 (by decide), b 52 (by decide), b 53 (by decide)]; exact z, RK_fr rk (a 0 (by decide)) (fun i x y => a i (by omega)) (by rw [up2_s, upd_n (by decide)]) (b 52 (by decide)), RF_fr rf (a 49 (by decide)) (b 54 (by decide)), ?_, RS_fr rs (fun i x y => a i (by omega)) (b 58 (by decide)) (b 59 (by decide)) (b 60 (by decide))⟩
  exact ⟨0, by decide, by rw [up2_s, upd_s]; rfl, by rw [up2_s, upd_s]; rfl, fun k hk => by omega⟩
theorem sim36 : Sim36 Rel := by
  intro σ μ h
  unfold f_X4_image f_X5_image
  obtain ⟨σ1, g1, g2, g3⟩ := take_C (a := 13) h.1 h.2.1 (by decide)
  rw [g1, vC_s, vW_e, cr_M (by decide) h.2.2.1.1 h.2.2.1.2.1, vC_s, vW_e]
  refine ⟨_, _, _, rfl, rfl, ?_⟩
  obtain ⟨r1, r2, z, rk, rf, rt, rs⟩ := h
  have a : ∀ i, i ≠ 0 → (i < 13 ∨ 25 ≤ i) → up2 σ1 0 2 1 i = σ i := fun i hi h2 => (up2_n hi).trans (g3 i h2)
  have b : ∀ i, i ≠ 50 → i ≠ 52 → up2 (setr μ 52 (μ 51)) 50 3 1 i = μ i := fun i hi h2 => (up2_n hi).trans (setr_ne h2)
  have e52 : up2 (setr μ 52 (μ 51)) 50 3 1 52 = μ 51 := (up2_n (by decide)).trans setr_same
  refine ⟨by rw [b 51 (by decide) (by decide)]; exact Rh_fr r1 r2 (fun i x y => a i (by omega) (by omega)), by rw [b 51 (by decide) (by decide)]; exact r2, ⟨by rw [b 51 (by decide) (by decide)]; exact z.1, by rw [e52]; exact z.1, by rw [b 53 (by decide) (by decide)]; exact z.2.2⟩, ?_, RF_fr rf (a 49 (by decide) (by decide)) (b 54 (by decide) (by decide)), RT_fr rt (by rw [a 38 (by decide) (by decide)]) (a 39 (by decide) (by decide)) (by rw [up2_s, upd_n (by decide), setr_ne (by decide)]) (b 55 (by decide) (by decide)), RS_fr rs (fun i x y => a i (by omega) (by omega)) (b 58 (by decide) (by decide)) (b 59 (by decide) (by decide)) (b 60 (by decide) (by decide))⟩
  refine ⟨by rw [up2_s, up2_s, upd_s, upd_s], Or.inr (by rw [up2_s, upd_s]), fun _ => ?_⟩
  rw [e52]
  exact ⟨Rh_fr g2 r2 (fun i x y => up2_n (by omega)), r2⟩
theorem sim37 : Sim37 Rel := by
  intro σ μ h
  unfold f_X4_undo f_X5_undo
  have rk := h.2.2.2.1
  rw [← rk.1]
  rcases rk.2.1 with e | e
  · rw [if_pos e, if_pos e]
    exact fin3 h
  · have e0 : ¬ σ 0 2 = 0 := by rw [e]; decide
    obtain ⟨k1, k2⟩ := rk.2.2 e
    obtain ⟨σ1, g1, g2, g3⟩ := take_C (a := 1) k1 k2 (by decide)
    rw [if_neg e0, if_neg e0, g1, vC_s, cr_M (by decide) h.2.2.1.2.1 h.2.2.1.1, vC_s, vI_at (x := 0) (j := 0) rfl (by decide) (by decide), setr_same, g2.1.2.2.2.1]
    refine ⟨_, _, _, rfl, rfl, h.house (fun i a b => g3 i (by omega)) (fun i a b => setr_ne a) ?_ ?_ ?_ ?_⟩
    · rw [setr_same]; exact g2
    · rw [setr_same]; exact k2
    · rw [setr_same]; exact h.2.2.1.2.1
    · rw [setr_ne (by decide)]; exact h.2.2.1.2.2
theorem sim38 : Sim38 Rel := by
  intro σ μ h
  unfold f_X4_tear f_X5_tear f_X4_tear_J12 f_X5_tear_J12
  rw [← h.2.2.2.1.1]
  simp only [vL_e, vW_e]
  by_cases e : σ 0 2 = 0
  · rw [if_pos e, if_pos e]
    exact ⟨_, _, _, rfl, rfl, h.flag rfl⟩
  · rw [if_neg e, if_neg e]
    exact ⟨_, _, _, rfl, rfl, h.flag rfl⟩
