/-! 28 text -/
theorem it_done {n : Nat} {μ : Mem} {N : Nat → Int32} {σ' : Mem} {τ ι ρ : Nat → Int32} {s e k : Nat} {a b c : Int32} {M : Nat → Int32} (hM : apAll ι N k = M) (hA : AOK ι N k) (h1 : τ 1 = nI n) (h6 : ρ 6 = nI n) (h11 : ρ 11 = 0) (T : TS n (μ 55) τ ρ s e) (h15 : ρ 15 = nI (hg M)) (h3 : ρ 3 = μ 50 3) (hv : vOK a b M) (hR : Rh 25 σ' (apV a b c 0 0 M)) (hI : Inv (apV a b c 0 0 M)) (hZ : Z70 (apV a b c 0 0 M)) (hh : hg (apV a b c 0 0 M) = hg M) : Al n μ N σ' τ (itm ι k a b c 0 0) (upd ρ 14 (nI (k + 1))) s e (k + 1) := by
  subst hM
  refine ⟨h1, by rw [upd_n (by decide)]; exact h6, by rw [upd_n (by decide)]; exact h11, TS_cg T (fun j x y => upd_n (by omega)), upd_s, ?_, ?_, AOK_s hA hv hI hZ, by rw [upd_n (by decide)]; exact h3⟩
  · rw [upd_n (by decide), ap_s, hh]; exact h15
  · rw [ap_s]; exact hR
def othM (σ : Mem) : Option (Unit × Mem) := vC (f_X5_takesWord 7 σ) (fun r24 σ23 => if r24 = 0 then vC (f_X5_takesWord 8 σ23) (fun r26 σ25 => if r26 = 0 then vC (f_X5_takesWord 9 σ25) (fun r28 σ27 => if r28 = 0 then vC (f_X5_must 0 σ27) (fun _ σ29 => some ((), σ29)) else vC (f_X5_addItem 11 0 0 0 0 σ27) (fun _ σ30 => some ((), σ30))) else vC (f_X5_addItem 11 1 0 0 0 σ25) (fun _ σ31 => some ((), σ31))) else vC (f_X5_number 0 5 σ23) (fun r33 σ32 => vL r33 (fun x34 => vC (f_X5_number 0 11 σ32) (fun r36 σ35 => vC (f_X5_addItem 10 x34 r36 0 0 σ35) (fun _ σ37 => some ((), σ37))))))
theorem oth_alike {n : Nat} {μ : Mem} {N : Nat → Int32} {σ : Mem} {τ ι ρ : Nat → Int32} {s e k : Nat} (hn : n ≤ 120) (hB : ∀ k, k < n → BT (μ 55 k) (σ 39 k)) (hk : k < 100) (h : Al n μ N σ τ ι ρ s e k) : Out n μ N σ s k (f_X3_readOther 25 (setr σ 38 τ)) (othM (setr (setr μ 57 ι) 50 ρ)) := by
  obtain ⟨h1, h6, h11, T, h14, h15, hR, hA, h3⟩ := h
  obtain ⟨hI, hZ, _⟩ := hA k (Nat.le_refl _)
  have eU : (setr μ 57 ι) 55 = μ 55 := setr_ne (by decide)
  have hB' : ∀ k, k < n → BT ((setr μ 57 ι) 55 k) (σ 39 k) := by rw [eU]; exact hB
  have T' : TS n ((setr μ 57 ι) 55) τ ρ s e := by rw [eU]; exact T
  unfold f_X3_readOther othM
  have fire : ∀ (x : Int32) (τ' ρ' : Nat → Int32) (s' e' : Nat), (x = 0 ∨ x = 1) → Kp n τ' ρ' ρ → s < s' → TS n ((setr μ 57 ι) 55) τ' ρ' s' e' → Out n μ N σ s k (vW (setr σ 38 τ') 25 0 x (fun σ27 => some (1, σ27))) (vC (f_X5_addItem 11 x 0 0 0 (setr (setr μ 57 ι) 50 ρ')) (fun _ σ30 => some ((), σ30))) := by
    intro x τ' ρ' s' e' hx kp hs T2
    rw [eU] at T2
    have eM : apV 11 x 0 0 0 (apAll ι N k) = upd (apAll ι N k) 3 x := by
      unfold apV
      rw [if_neg (by decide), if_pos rfl]
    rw [add_M (by rw [kp.2 14 (by decide)]; exact h14) (by omega), vC_s, vW_e, up2_in (by decide)]
    refine Or.inr ⟨_, τ', _, _, s', e', rfl, rfl, fun i hi => up2_n (by omega), hs, ?_⟩
    exact it_done rfl hA kp.1 (by rw [kp.2 6 (by decide)]; exact h6) (by rw [kp.2 11 (by decide)]; exact h11) T2 (by rw [kp.2 15 (by decide)]; exact h15) (by rw [kp.2 3 (by decide)]; exact h3) (Or.inr (Or.inl rfl)) (by rw [eM]; exact Rh_fire hR) (by rw [eM]; exact Inv_fire hI hx) (by rw [eM]; exact Z_upd hZ (by decide)) (by rw [eM]; exact hg_upd (by decide))
  rcases tw (w := 7) (by decide) hn hB' h1 h6 h11 T' with ⟨g1, g2⟩ | ⟨τ2, ρ2, s2, e2, g1, g2, g3, g4, g5⟩
  · rw [g1, g2, vC_s, vC_s, if_pos rfl, if_pos rfl]
    rcases tw (w := 8) (by decide) hn hB' h1 h6 h11 T' with ⟨g1, g2⟩ | ⟨τ2, ρ2, s2, e2, g1, g2, g3, g4, g5⟩
    · rw [g1, g2, vC_s, vC_s, if_pos rfl, if_pos rfl]
      rcases tw (w := 9) (by decide) hn hB' h1 h6 h11 T' with ⟨g1, g2⟩ | ⟨τ2, ρ2, s2, e2, g1, g2, g3, g4, g5⟩
      · rw [g1, g2, vC_s, vC_s, if_pos rfl, if_pos rfl, must_0 h11, vC_s]
        exact Or.inl ⟨σ, τ, ι, _, rfl, rfl, upd_s, by rw [upd_n (by decide), T.2.2.2.2.1, T.2.2.1], by rw [upd_n (by decide)]; exact h3, fun _ _ => rfl, ⟨s, Nat.le_trans T.1 T.2.1, T.2.2.1⟩⟩
      · rw [g1, g2, vC_s, vC_s, if_neg n10, if_neg n10]
        exact fire 0 τ2 ρ2 s2 e2 (Or.inl rfl) g3 g4 g5
    · rw [g1, g2, vC_s, vC_s, if_neg n10, if_neg n10]
      exact fire 1 τ2 ρ2 s2 e2 (Or.inr rfl) g3 g4 g5
  · rw [g1, g2, vC_s, vC_s, if_neg n10, if_neg n10]
    unfold f_X3_readScene
    have h6' : ρ2 6 = nI n := by rw [g3.2 6 (by decide)]; exact h6
    have h11' : ρ2 11 = 0 := by rw [g3.2 11 (by decide)]; exact h11
    have h14' : ρ2 14 = nI k := by rw [g3.2 14 (by decide)]; exact h14
    have h3' : ρ2 3 = μ 50 3 := by rw [g3.2 3 (by decide)]; exact h3
    rcases tn (H := 5) hn (by decide) hB' g3.1 h6' h11' g5 with ⟨k1, x, k2⟩ | ⟨v, τ3, ρ3, s3, e3, k0, k1, k2, k3, k4, k5⟩
    · have k1' : f_X3_takeNumber 5 (setr σ 38 τ2) = some (-1, setr σ 38 τ2) := k1
      have k2' : f_X5_number 0 5 (setr (setr μ 57 ι) 50 ρ2) = some (x, setr (setr μ 57 ι) 50 (upd ρ2 11 1)) := k2
      obtain ⟨y, k3⟩ := num_d (μ := setr μ 57 ι) (ρ := upd ρ2 11 1) (a := 0) (b := 11) upd_s
      rw [k1', k2', vC_s, vC_s, vL_e, vL_e, if_pos rfl, vC_s, k3, vC_s, add_M (by rw [upd_n (by decide)]; exact h14') (by omega), vC_s]
      exact Or.inl ⟨σ, τ2, _, _, rfl, rfl, by rw [upd_n (by decide), upd_s], by rw [upd_n (by decide), upd_n (by decide), g5.2.2.2.2.1, g5.2.2.1], by rw [upd_n (by decide), upd_n (by decide)]; exact h3', fun _ _ => rfl, ⟨s2, Nat.le_trans g5.1 g5.2.1, g5.2.2.1⟩⟩
    · have k1' : f_X3_takeNumber 5 (setr σ 38 τ2) = some (nI v, setr σ 38 τ3) := k1
      have k2' : f_X5_number 0 5 (setr (setr μ 57 ι) 50 ρ2) = some (nI v, setr (setr μ 57 ι) 50 ρ3) := k2
      have nv : ∀ v, v ≤ 4095 → ¬ nI v = -1 := fun v hv z => by
        have := nI_pos (n := v) (by omega)
        rw [z] at this
        exact this (by decide)
      rw [k1', k2', vC_s, vC_s, vL_e, vL_e, if_neg (nv v (by omega))]
      have h6b : ρ3 6 = nI n := by rw [k3.2 6 (by decide)]; exact h6'
      have h11b : ρ3 11 = 0 := by rw [k3.2 11 (by decide)]; exact h11'
      have h14b : ρ3 14 = nI k := by rw [k3.2 14 (by decide)]; exact h14'
      have h3b : ρ3 3 = μ 50 3 := by rw [k3.2 3 (by decide)]; exact h3'
      rcases tn (H := 11) hn (by decide) hB' k3.1 h6b h11b k5 with ⟨l1, y, l2⟩ | ⟨u, τ4, ρ4, s4, e4, l0, l1, l2, l3, l4, l5⟩
      · have l1' : f_X3_takeNumber 11 (setr σ 38 τ3) = some (-1, setr σ 38 τ3) := l1
        have l2' : f_X5_number 0 11 (setr (setr μ 57 ι) 50 ρ3) = some (y, setr (setr μ 57 ι) 50 (upd ρ3 11 1)) := l2
        rw [l1', l2', vC_s, vC_s, vL_e, if_pos rfl, vC_s, add_M (by rw [upd_n (by decide)]; exact h14b) (by omega), vC_s]
        exact Or.inl ⟨σ, τ3, _, _, rfl, rfl, by rw [upd_n (by decide), upd_s], by rw [upd_n (by decide), upd_n (by decide), k5.2.2.2.2.1, k5.2.2.1], by rw [upd_n (by decide), upd_n (by decide)]; exact h3b, fun _ _ => rfl, ⟨s3, Nat.le_trans k5.1 k5.2.1, k5.2.2.1⟩⟩
      · have l1' : f_X3_takeNumber 11 (setr σ 38 τ3) = some (nI u, setr σ 38 τ4) := l1
        have l2' : f_X5_number 0 11 (setr (setr μ 57 ι) 50 ρ3) = some (nI u, setr (setr μ 57 ι) 50 ρ4) := l2
        rw [eU] at l5
        have eM : apV 10 (nI v) (nI u) 0 0 (apAll ι N k) = upd (apAll ι N k) (6 + v) (nI u) := by
          unfold apV
          rw [if_pos rfl, nI_clamp (by omega)]
        rw [l1', l2', vC_s, vC_s, vL_e, if_neg (nv u (by omega)), vI_at rfl (by omega) (by decide), vW_e, up2_in (by decide), vC_s, add_M (by rw [l3.2 14 (by decide)]; exact h14b) (by omega), vC_s]
        refine Or.inr ⟨_, τ4, _, _, s4, e4, rfl, rfl, fun i hi => up2_n (by omega), by omega, ?_⟩
        exact it_done rfl hA l3.1 (by rw [l3.2 6 (by decide)]; exact h6b) (by rw [l3.2 11 (by decide)]; exact h11b) l5 (by rw [l3.2 15 (by decide), k3.2 15 (by decide), g3.2 15 (by decide)]; exact h15) (by rw [l3.2 3 (by decide)]; exact h3b) (Or.inl ⟨rfl, v, by omega, rfl⟩) (by rw [eM]; exact Rh_list hR (by omega)) (by rw [eM]; exact Inv_list hI (by omega)) (by rw [eM]; exact Z_upd hZ (by omega)) (by rw [eM]; exact hg_upd (by omega))
theorem vC_id {o : Option (Unit × Mem)} : vC o (fun _ τ => some ((), τ)) = o := by
  cases o with
  | none => rfl
  | some a => rfl
theorem item7 {m : Nat} {y : Int32} {S : Mem} : f_X5_readItem_L4 (m + 1) y (nI 7) S = if y < 0 then othM S else f_X5_readCurtain y S := by
  rw [f_X5_readItem_L4_s, if_pos (show (7 : Int32) ≤ nI 7 by decide), vC_id]
  rfl
theorem kindM {S : Mem} {v : Nat → Int32} (hv : ∀ w, w < 7 → (v w = 0 ∨ v w = 1) ∧ f_X5_isWord w S = some (v w, S)) {y : Nat → Int32} (hy : ∀ w, w < 7 → y (w + 1) = if v w = 0 then y w else nI w) : ∀ d, d ≤ 7 → ∀ m, f_X5_readItem_L4 (m + d) (y (7 - d)) (nI (7 - d)) S = f_X5_readItem_L4 m (y 7) (nI 7) S := by
  intro d
  induction d with
  | zero => intro _ m; rfl
  | succ d ih =>
    intro hd m
    rw [← ih (by omega) m, show m + (d + 1) = (m + d) + 1 by omega, f_X5_readItem_L4_s, show (7 : Int32) = nI 7 from rfl, if_neg (nle_of (show 7 - (d + 1) < 7 by omega) (by decide)), vI_at rfl (by omega) (by decide), (hv _ (show 7 - (d + 1) < 7 by omega)).2, vC_s]
    unfold f_X5_readItem_J31
    simp only [vL_e, show nI (7 - (d + 1)) + 1 = nI (7 - (d + 1) + 1) from nI_1 _]
    have e := hy (7 - (d + 1)) (by omega)
    rw [show 7 - (d + 1) + 1 = 7 - d by omega] at e ⊢
    rw [e]
    split <;> rfl
theorem kind_alike {n : Nat} {μ σ : Mem} {τ ρ : Nat → Int32} {s e : Nat} (hn : n ≤ 120) (hB : ∀ k, k < n → BT (μ 55 k) (σ 39 k)) (T : TS n (μ 55) τ ρ s e) : (f_X3_kindAtHand (setr σ 38 τ) = some (-1, setr σ 38 τ) ∧ f_X5_readItem (setr μ 50 ρ) = othM (setr μ 50 ρ)) ∨ (∃ q, q < 7 ∧ s < e ∧ f_X3_kindAtHand (setr σ 38 τ) = some (nI q, setr σ 38 τ) ∧ f_X5_readItem (setr μ 50 ρ) = f_X5_readCurtain (nI q) (setr μ 50 ρ)) := by
  have wa := fun w (hw : w < 14) => word_alike (w := w) hw hn hB T
  have un : ∀ w v, w < 7 → v < 7 → f_X3_isWord w (setr σ 38 τ) = some (1, setr σ 38 τ) → f_X3_isWord v (setr σ 38 τ) = some (1, setr σ 38 τ) → w = v := by
    intro w v hw hv h1 h2
    rcases wa w (by omega) with ⟨_, _, _, a1, a2⟩ | ⟨a, _⟩
    · rcases wa v (by omega) with ⟨_, _, _, b1, b2⟩ | ⟨b, _⟩
      · exact uniq_tab w (by omega) v (by omega) (a1.symm.trans b1) (a2.symm.trans b2)
      · rw [b] at h2
        exact absurd (congrArg Prod.fst (Option.some.inj h2)) (show ¬ (0 : Int32) = 1 by decide)
    · rw [a] at h1
      exact absurd (congrArg Prod.fst (Option.some.inj h1)) (show ¬ (0 : Int32) = 1 by decide)
  have c0 : ∀ w, w < 7 → ¬ f_X3_isWord w (setr σ 38 τ) = some (1, setr σ 38 τ) → f_X3_isWord w (setr σ 38 τ) = some (0, setr σ 38 τ) ∧ f_X5_isWord w (setr μ 50 ρ) = some (0, setr μ 50 ρ) := by
    intro w hw h
    rcases wa w (by omega) with ⟨a, _⟩ | b
    · exact absurd a h
    · exact b
  unfold f_X5_readItem
  rw [vL_e, vL_e]
  rcases least (fun w => f_X3_isWord w (setr σ 38 τ) = some (1, setr σ 38 τ)) 7 with ⟨q, q1, q2, q3⟩ | q0
  · right
    have oth : ∀ w, w < 7 → w ≠ q → f_X3_isWord w (setr σ 38 τ) = some (0, setr σ 38 τ) ∧ f_X5_isWord w (setr μ 50 ρ) = some (0, setr μ 50 ρ) := fun w hw hne => c0 w hw (fun z => hne (un w q hw q1 z q2))
    have mq : f_X5_isWord q (setr μ 50 ρ) = some (1, setr μ 50 ρ) ∧ s < e := by
      rcases wa q (by omega) with ⟨_, a, _, b, _⟩ | ⟨a, _⟩
      · have := Ln_tab q (by omega)
        exact ⟨a, by omega⟩
      · rw [a] at q2
        exact absurd (congrArg Prod.fst (Option.some.inj q2)) (show ¬ (0 : Int32) = 1 by decide)
    refine ⟨q, q1, mq.2, ?_, ?_⟩
    · unfold f_X3_kindAtHand
      rcases (show q = 0 ∨ q = 1 ∨ q = 2 ∨ q = 3 ∨ q = 4 ∨ q = 5 ∨ q = 6 by omega) with rfl | rfl | rfl | rfl | rfl | rfl | rfl
      · rw [q2, vC_s, if_neg n10]; rfl
      · rw [(oth 0 (by decide) (by decide)).1, vC_s, if_pos rfl, q2, vC_s, if_neg n10]; rfl
      · rw [(oth 0 (by decide) (by decide)).1, vC_s, if_pos rfl, (oth 1 (by decide) (by decide)).1, vC_s, if_pos rfl, q2, vC_s, if_neg n10]; rfl
      · rw [(oth 0 (by decide) (by decide)).1, vC_s, if_pos rfl, (oth 1 (by decide) (by decide)).1, vC_s, if_pos rfl, (oth 2 (by decide) (by decide)).1, vC_s, if_pos rfl, q2, vC_s, if_neg n10]; rfl
      · rw [(oth 0 (by decide) (by decide)).1, vC_s, if_pos rfl, (oth 1 (by decide) (by decide)).1, vC_s, if_pos rfl, (oth 2 (by decide) (by decide)).1, vC_s, if_pos rfl, (oth 3 (by decide) (by decide)).1, vC_s, if_pos rfl, q2, vC_s, if_neg n10]; rfl
      · rw [(oth 0 (by decide) (by decide)).1, vC_s, if_pos rfl, (oth 1 (by decide) (by decide)).1, vC_s, if_pos rfl, (oth 2 (by decide) (by decide)).1, vC_s, if_pos rfl, (oth 3 (by decide) (by decide)).1, vC_s, if_pos rfl, (oth 4 (by decide) (by decide)).1, vC_s, if_pos rfl, q2, vC_s, if_neg n10]; rfl
      · rw [(oth 0 (by decide) (by decide)).1, vC_s, if_pos rfl, (oth 1 (by decide) (by decide)).1, vC_s, if_pos rfl, (oth 2 (by decide) (by decide)).1, vC_s, if_pos rfl, (oth 3 (by decide) (by decide)).1, vC_s, if_pos rfl, (oth 4 (by decide) (by decide)).1, vC_s, if_pos rfl, (oth 5 (by decide) (by decide)).1, vC_s, if_pos rfl, q2, vC_s, if_neg n10]; rfl
    · have km := kindM (S := setr μ 50 ρ) (v := fun w => if w = q then 1 else 0) (y := fun w => if q < w then nI q else -1) (fun w hw => by
        by_cases z : w = q
        · subst z
          simp only [if_true]
          exact ⟨Or.inr trivial, mq.1⟩
        · simp only [if_neg z]
          exact ⟨Or.inl trivial, (oth w hw z).2⟩) (fun w hw => by
        by_cases z : w = q
        · subst z
          simp only [if_true]
          rw [if_pos (by omega), if_neg n10]
        · simp only [if_neg z, if_true]
          by_cases z2 : q < w
          · rw [if_pos (by omega), if_pos z2]
          · rw [if_neg (by omega), if_neg z2]) 7 (Nat.le_refl _) 9993
      have km' : f_X5_readItem_L4 FU (-1) 0 (setr μ 50 ρ) = f_X5_readItem_L4 9993 (if q < 7 then nI q else -1) (nI 7) (setr μ 50 ρ) := km
      rw [km', if_pos q1, item7 (m := 9992), if_neg (nI_pos (by omega))]
  · left
    have oth : ∀ w, w < 7 → f_X3_isWord w (setr σ 38 τ) = some (0, setr σ 38 τ) ∧ f_X5_isWord w (setr μ 50 ρ) = some (0, setr μ 50 ρ) := fun w hw => c0 w hw (q0 w hw)
    refine ⟨?_, ?_⟩
    · unfold f_X3_kindAtHand
      rw [(oth 0 (by decide)).1, vC_s, if_pos rfl, (oth 1 (by decide)).1, vC_s, if_pos rfl, (oth 2 (by decide)).1, vC_s, if_pos rfl, (oth 3 (by decide)).1, vC_s, if_pos rfl, (oth 4 (by decide)).1, vC_s, if_pos rfl, (oth 5 (by decide)).1, vC_s, if_pos rfl, (oth 6 (by decide)).1, vC_s, if_pos rfl]
    · have km := kindM (S := setr μ 50 ρ) (v := fun _ => 0) (y := fun _ => -1) (fun w hw => ⟨Or.inl rfl, (oth w hw).2⟩) (fun w hw => by rw [if_pos rfl]) 7 (Nat.le_refl _) 9993
      have km' : f_X5_readItem_L4 FU (-1) 0 (setr μ 50 ρ) = f_X5_readItem_L4 9993 (-1) (nI 7) (setr μ 50 ρ) := km
      rw [km', item7 (m := 9992), if_pos (by decide)]
theorem item_alike {n : Nat} {μ : Mem} {N : Nat → Int32} {σ : Mem} {τ ι ρ : Nat → Int32} {s e k : Nat} (hn : n ≤ 120) (hB : ∀ k, k < n → BT (μ 55 k) (σ 39 k)) (hk : k < 100) (h : Al n μ N σ τ ι ρ s e k) : ∃ cl, Out n μ N σ s k cl (f_X5_readItem (setr (setr μ 57 ι) 50 ρ)) ∧ ∀ K : Int32 → Mem → Option (Int32 × Mem), vC (f_X3_kindAtHand (setr σ 38 τ)) (fun r25 σ24 => vL r25 (fun x26 => if x26 = (-1) then vC (f_X3_readOther 25 σ24) K else vC (f_X3_readCurtain 25 x26 σ24) K)) = vC cl K := by
  have eU : (setr μ 57 ι) 55 = μ 55 := setr_ne (by decide)
  rcases kind_alike (σ := σ) (μ := setr μ 57 ι) (τ := τ) (ρ := ρ) (s := s) (e := e) hn (by rw [eU]; exact hB) (by rw [eU]; exact h.2.2.2.1) with ⟨g1, g2⟩ | ⟨q, hq, hse, g1, g2⟩
  · refine ⟨_, Out.rf g2 (oth_alike hn hB hk h), fun K => ?_⟩
    rw [g1, vC_s, vL_e, if_pos rfl]
  · refine ⟨_, Out.rf g2 (cur_alike hn hB hk hq h hse), fun K => ?_⟩
    have nv : ¬ nI q = -1 := fun z => by
      have := nI_pos (n := q) (by omega)
      rw [z] at this
      exact this (by decide)
    rw [g1, vC_s, vL_e, if_neg nv]
/-! the ends of the reference's reading -/
theorem end_d {μ : Mem} {ρ : Nat → Int32} {m : Nat} (h : ρ 11 = 1) : f_X5_text_L33 (m + 1) (setr μ 50 ρ) = some (-1 - ρ 7, setr μ 50 (upd ρ 6 0)) := by
  have j87 : ∀ x, f_X5_text_J87 x (setr μ 50 ρ) = some (-1 - ρ 7, setr μ 50 (upd ρ 6 0)) := by
    intro x
    unfold f_X5_text_J87
    rw [must_d h, vC_s, vW_e, up2_setr, setr_same, upd_n (show 11 ≠ 6 by decide), h, if_neg n10, upd_n (show 7 ≠ 6 by decide)]
  rw [f_X5_text_L33_s, setr_same, h, if_neg n10]
  unfold f_X5_text_J74
  rw [j87, j87]
  split <;> rfl
theorem end_0 {μ : Mem} {ρ : Nat → Int32} (h : ρ 11 = 0) (h9 : ¬ ρ 9 = 0) : f_X5_text_J74 (setr μ 50 ρ) = some (-1 - ρ 7, setr μ 50 (upd (upd ρ 11 1) 6 0)) := by
  unfold f_X5_text_J74 f_X5_text_J87
  rw [setr_same, if_neg h9, must_0 h, vC_s, vW_e, up2_setr, setr_same, upd_n (show 11 ≠ 6 by decide), upd_s, if_neg n10, upd_n (show 7 ≠ 6 by decide), upd_n (show 7 ≠ 11 by decide)]
/-- how the reading ends -/
def Fin (n : Nat) (μ : Mem) (N : Nat → Int32) (σ : Mem) (cl rf : Option (Int32 × Mem)) : Prop := (∃ t σ' τ' ι' ρ', t ≤ n ∧ cl = some (-1 - nI t, setr σ' 38 τ') ∧ rf = some (-1 - nI t, setr (setr μ 57 ι') 50 ρ') ∧ ρ' 6 = 0 ∧ ρ' 3 = μ 50 3 ∧ Tr σ σ') ∨ (∃ K σ' τ' ι' ρ', K < 120 ∧ cl = some (nI K, setr σ' 38 τ') ∧ rf = some (nI K, setr (setr (setr μ 57 ι') 50 ρ') 51 (apAll ι' N K)) ∧ ρ' 6 = 0 ∧ ρ' 3 = μ 50 3 ∧ Tr σ σ' ∧ Rh 25 σ' (apAll ι' N K) ∧ AOK ι' N K)
theorem Fin.tr {n : Nat} {μ : Mem} {N : Nat → Int32} {σ σ1 : Mem} {cl rf : Option (Int32 × Mem)} (h : Fin n μ N σ1 cl rf) (t : Tr σ σ1) : Fin n μ N σ cl rf := by
  rcases h with ⟨a1, a2, a3, a4, a5, b1, b2, b3, b4, b5, b6⟩ | ⟨a1, a2, a3, a4, a5, b1, b2, b3, b4, b5, b6, b7, b8⟩
  · exact Or.inl ⟨a1, a2, a3, a4, a5, b1, b2, b3, b4, b5, fun i hi => (b6 i hi).trans (t i hi)⟩
  · exact Or.inr ⟨a1, a2, a3, a4, a5, b1, b2, b3, b4, b5, fun i hi => (b6 i hi).trans (t i hi), b7, b8⟩
theorem text_L {n : Nat} {μ : Mem} {N : Nat → Int32} (hn : n ≤ 120) (hN : μ 51 = N) : ∀ m k (σ : Mem) (τ ι ρ : Nat → Int32) (s e : Nat), (∀ k, k < n → BT (μ 55 k) (σ 39 k)) → Al n μ N σ τ ι ρ s e k → 2 * k ≤ s → n + 1 - s < m → Fin n μ N σ (f_X3_readInto_L11 m 25 (nI (k + 1)) (setr σ 38 τ)) (vC (f_X5_readItem (setr (setr μ 57 ι) 50 ρ)) (fun _ S => f_X5_text_L33 m S)) := by
  intro m
  induction m with
  | zero => intro k σ τ ι ρ s e _ _ _ h; omega
  | succ m ih =>
    intro k σ τ ι ρ s e hB h h2 hm
    have hsn : s ≤ n := Nat.le_trans h.2.2.2.1.1 h.2.2.2.1.2.1
    obtain ⟨cl, o, hK⟩ := item_alike hn hB (show k < 100 by omega) h
    rw [f_X3_readInto_L11_s, show (120 : Int32) = nI 120 from rfl, if_neg (nI_nlt (show k + 1 ≤ 120 by omega) (by decide)), hK]
    unfold f_X3_readInto_J41 f_X3_readInto_J58 f_X3_readInto_J84
    rcases o with ⟨σ', τ', ι', ρ', o1, o2, o3, o4, o5, o6, t, o7, o8⟩ | ⟨σ', τ', ι', ρ', s1, e1, o1, o2, o3, o4, o5⟩
    · rw [o1, o2, vC_s, vC_s, vL_e, if_pos rfl, if_pos rfl, setr_same, end_d o3, o4, o8]
      exact Or.inl ⟨t, σ', τ', ι', _, o7, rfl, rfl, upd_s, by rw [upd_n (by decide)]; exact o5, o6⟩
    · rw [o1, o2, vC_s, vC_s, vL_e, if_neg n10, if_neg n10, setr_same]
      obtain ⟨h1, h6, h11, T, h14, h15, hR, hA, h3⟩ := id o5
      have hs1 : s1 ≤ n := Nat.le_trans T.1 T.2.1
      have eU : (setr μ 57 ι') 55 = μ 55 := setr_ne (by decide)
      have hB1 : ∀ k, k < n → BT (μ 55 k) (σ' 39 k) := by rw [o3 39 (by decide)]; exact hB
      obtain ⟨τ2, ρ2, s2, e2, a1, a2, a3, a4, a5, a6⟩ := step_alike (σ := σ') (μ := setr μ 57 ι') hn (by rw [eU]; exact hB1) h1 T.2.2.2.1 h6 T.2.2.2.2.2.1 T.2.1
      rw [eU] at a6
      have stop : ¬ τ' 2 = 3 → ¬ τ' 2 = 2 → ¬ ρ' 9 = 0 → (ρ' 9 = 3 → ¬ μ 55 s1 = 59) → Fin n μ N σ (if τ' 2 = 3 then some (nI (k + 1), setr σ' 38 τ') else if τ' 2 = 2 then vC (f_X3_step (setr σ' 38 τ')) (fun _ σ30 => vL (nI (k + 1) + 1) (fun x31 => f_X3_readInto_L11 m 25 x31 σ30)) else some (-1 - τ' 3, setr σ' 38 τ')) (f_X5_text_L33 (m + 1) (setr (setr μ 57 ι') 50 ρ')) := by
        intro c1 c2 c3 c4
        rw [if_neg c1, if_neg c2, f_X5_text_L33_s, setr_same, h11, if_pos rfl, end_0 h11 c3, T.2.2.2.2.1, T.2.2.1]
        have res : Fin n μ N σ (some (-1 - nI s1, setr σ' 38 τ')) (some (-1 - nI s1, setr (setr μ 57 ι') 50 (upd (upd ρ' 11 1) 6 0))) := Or.inl ⟨s1, σ', τ', ι', _, hs1, rfl, rfl, upd_s, by rw [upd_n (by decide), upd_n (by decide)]; exact h3, o3⟩
        by_cases c : ρ' 9 = 3
        · have hlt : s1 < n := by
            have := T.2.1
            rcases T.2.2.2.2.2.2 with z | z | z | z | z
            · have := z.2.2; omega
            · have := z.2.2.1; omega
            · have := z.2.2.1; omega
            · have := z.2.2.1; omega
            · exact absurd z.1 c1
          rw [if_pos c, vI_at rfl (by omega) (by decide), setr_ne (show 55 ≠ 50 by decide), eU, if_neg (c4 c)]
          exact res
        · rw [if_neg c]
          exact res
      rcases T.2.2.2.2.2.2 with z | z | z | z | z
      · exact stop (by rw [z.1]; decide) (by rw [z.1]; decide) (by rw [z.2.1]; decide) (fun w => by rw [z.2.1] at w; exact absurd w (by decide))
      · exact stop (by rw [z.1]; decide) (by rw [z.1]; decide) (by rw [z.2.1]; decide) (fun w => by rw [z.2.1] at w; exact absurd w (by decide))
      · -- a semicolon
        obtain ⟨z1, z2, z3, z4⟩ := z
        have := T.2.1
        rw [z1, if_neg (by decide), if_pos rfl, a1, vC_s, vL_e, show nI (k + 1) + 1 = nI (k + 1 + 1) from nI_1 _, f_X5_text_L33_s, setr_same, h11, if_pos rfl, z2, if_pos rfl, T.2.2.2.2.1, vI_at rfl (by omega) (by decide), setr_ne (show 55 ≠ 50 by decide), eU, if_pos z4, must_1 h11 a2, vC_s]
        refine (ih (k + 1) σ' τ2 ι' ρ2 s2 e2 hB1 ⟨a3, ?_, ?_, a6, ?_, ?_, hR, hA, ?_⟩ (by omega) (by omega)).tr o3
        · rw [a4 6 (by decide)]; exact h6
        · rw [a4 11 (by decide)]; exact h11
        · rw [a4 14 (by decide)]; exact h14
        · rw [a4 15 (by decide)]; exact h15
        · rw [a4 3 (by decide)]; exact h3
      · exact stop (by rw [z.1]; decide) (by rw [z.1]; decide) (by rw [z.2.1]; decide) (fun _ => z.2.2.2)
      · -- the end
        obtain ⟨z1, z2⟩ := z
        rw [z1, if_pos rfl, f_X5_text_L33_s, setr_same, h11, if_pos rfl, z2, if_neg (by decide)]
        unfold f_X5_text_J74 f_X5_text_J87
        rw [setr_same, z2, if_pos rfl, must_1 h11 a2, vC_s, vW_e, up2_setr, setr_same, upd_n (show 11 ≠ 6 by decide), a4 11 (by decide), h11, if_pos rfl, vL_e]
        have ta := told_all (N := N) (ι := ι') (show k + 1 < 120 by omega) hA FU 0 (setr (setr μ 57 ι') 50 (upd ρ2 6 0)) (Nat.zero_le _) (FU_gt (by omega)) (by rw [setr_ne (by decide), setr_same]) (by rw [setr_same, upd_n (by decide), a4 14 (by decide)]; exact h14) (by rw [setr_ne (by decide), setr_ne (by decide)]; exact hN)
        have ta' : f_X5_text_L111 FU 0 (setr (setr μ 57 ι') 50 (upd ρ2 6 0)) = some (nI (k + 1), setr (setr (setr μ 57 ι') 50 (upd ρ2 6 0)) 51 (apAll ι' N (k + 1))) := ta
        rw [ta']
        exact Or.inr ⟨k + 1, σ', τ', ι', _, by omega, rfl, rfl, upd_s, by rw [upd_n (by decide), a4 3 (by decide)]; exact h3, o3, hR, hA⟩
