/-! copying houses and rows; the relation between class and reference; findings -/
def Z70 (N : Nat → Int32) : Prop := ∀ k, 70 ≤ k → N k = 0
theorem Z_upd {N : Nat → Int32} {k : Nat} {v : Int32} (h : Z70 N) (hk : k < 70) : Z70 (upd N k v) := fun j hj => by rw [upd_n (by omega)]; exact h j hj
theorem Z_pl {N : Nat → Int32} {i : Nat} {S : Int32} (h : Z70 N) (hi : i < 8) : Z70 (plN N i S) := fun j hj => by rw [pl_keep (by omega) (by omega) (by omega) (by omega) (by omega)]; exact h j hj
theorem Z_pls {N : Nat → Int32} {S : Int32} (h : Z70 N) : ∀ k, k ≤ 8 → Z70 (plsN N S k) := by
  intro k
  induction k with
  | zero => intro _; exact h
  | succ k ih => intro hk; exact Z_pl (ih (by omega)) (by omega)
theorem Z_be {N : Nat → Int32} (h : Z70 N) (hI : Inv N) : Z70 (beN N) := Z_upd (Z_pls h _ hI.hung.2) (by decide)
theorem Z_bg {N : Nat → Int32} (h : Z70 N) (hI : Inv N) : ∀ k, Z70 (bgN N k) := by
  intro k
  induction k with
  | zero => exact h
  | succ k ih => exact Z_be ih (bg_Inv hI k)
theorem Rh_fr {h : Nat} {σ σ' : Mem} {N : Nat → Int32} (hR : Rh h σ N) (hI : Inv N) (e : ∀ i, h ≤ i → i < h + 12 → σ' i = σ i) : Rh h σ' N := by
  have h8 := hI.hung.2
  obtain ⟨r0, rl, rs, rc⟩ := hR
  refine ⟨by rw [e h (by omega) (by omega)]; exact r0, fun i hi => by rw [e _ (by omega) (by omega)]; exact rl i hi, fun s hs => by rw [e _ (by omega) (by omega)]; exact rs s hs, fun c f hc hf => by rw [e _ (by omega) (by omega)]; exact rc c f hc hf⟩
/-! Curtain.take, House.take -/
def tk6 (r q : Nat → Int32) : Nat → Int32 := upd (upd (upd (upd (upd (upd r 0 (q 0)) 1 (q 1)) 2 (q 2)) 3 (q 3)) 4 (q 4)) 5 (q 5)
theorem tk6_e {r q : Nat → Int32} : ∀ f, f < 6 → tk6 r q f = q f := by
  intro f hf
  rcases (show f = 0 ∨ f = 1 ∨ f = 2 ∨ f = 3 ∨ f = 4 ∨ f = 5 by omega) with rfl | rfl | rfl | rfl | rfl | rfl <;> rfl
theorem tk_C {a b : Nat} {σ : Mem} (hab : b ≠ a) : f_X0_take a b σ = some ((), setr σ a (tk6 (σ a) (σ b))) := by
  unfold f_X0_take tk6
  simp only [vW_e, up2_e, setr_same, setr_setr, setr_ne hab]
theorem tkL_C {a b : Nat} {N : Nat → Int32} (hI : Inv N) (hd : a + 12 ≤ b ∨ b + 12 ≤ a) : ∀ (n k : Nat) (σ : Mem), k ≤ hg N → hg N - k < n → σ a 5 = N 1 → Rh b σ N → (∀ c f, c < k → f < 6 → σ (a + 3 + 1 + c) f = cur N c f) → ∃ σ', f_X1_take_L80 n a b (nI k) σ = some ((), σ') ∧ (∀ c f, c < hg N → f < 6 → σ' (a + 3 + 1 + c) f = cur N c f) ∧ (∀ i, (i < a + 4 ∨ a + 12 ≤ i) → σ' i = σ i) := by
  intro n
  obtain ⟨hh, hh8⟩ := hI.hung
  induction n with
  | zero => intro k σ _ h2; omega
  | succ n ih =>
    intro k σ hk hn h5 hR hc
    rw [f_X1_take_L80_s, h5, hh]
    rcases Nat.lt_or_ge k (hg N) with q | q
    · rw [if_neg (nle_of q (by omega)), vI_at rfl (by omega) (by decide), vI_at rfl (by omega) (by decide), tk_C (by omega), vC_s, vL_e, show nI k + 1 = nI (k + 1) from nI_1 k]
      obtain ⟨σ', h1, h2, h3⟩ := ih (k + 1) (setr σ (a + 3 + 1 + k) (tk6 (σ (a + 3 + 1 + k)) (σ (b + 3 + 1 + k)))) q (by omega) (by rw [setr_ne (by omega)]; exact h5) (Rh_fr hR hI (fun i h1 h2 => setr_ne (by omega))) (fun c f hck hf => by
        by_cases e : c = k
        · subst e
          rw [setr_same, tk6_e f hf]
          exact hR.2.2.2 c f q hf
        · rw [setr_ne (by omega)]
          exact hc c f (by omega) hf)
      exact ⟨σ', h1, h2, fun i hi => (h3 i hi).trans (setr_ne (by omega))⟩
    · have hke : k = hg N := by omega
      rw [if_pos (nI_le q (by omega))]
      exact ⟨σ, rfl, fun c f h1 h2 => hc c f (by omega) h2, fun _ _ => rfl⟩
theorem vY6 {β : Type} {σ : Mem} {i j : Nat} {K : Mem → Option β} : vY σ i j 6 6 0 0 6 K = K (cpy2 σ i j 0 0 6) := by
  unfold vY
  rw [if_pos (by decide)]
  rfl
theorem vY10 {β : Type} {σ : Mem} {i j : Nat} {K : Mem → Option β} : vY σ i j 10 10 0 0 10 K = K (cpy2 σ i j 0 0 10) := by
  unfold vY
  rw [if_pos (by decide)]
  rfl
theorem cpy_lt {f g : Nat → Int32} {n k : Nat} (h : k < n) : va_cpy f g 0 0 n k = f k := by
  unfold va_cpy
  rw [if_pos (by omega)]
  congr 1
  omega
theorem take_C {a b : Nat} {σ : Mem} {N : Nat → Int32} (hR : Rh b σ N) (hI : Inv N) (hd : a + 12 ≤ b ∨ b + 12 ≤ a) : ∃ σ', f_X1_take a b σ = some ((), σ') ∧ Rh a σ' N ∧ frH a σ σ' := by
  have hba : b ≠ a := by omega
  unfold f_X1_take
  simp only [vW_e, up2_e, setr_same, setr_setr, setr_ne hba, vY6, vY10, vL_e, cpy2]
  simp only [setr_ne (show b + 1 ≠ a by omega), setr_ne (show a + 1 ≠ a by omega), setr_ne (show b + 2 ≠ a + 1 by omega), setr_ne (show b + 2 ≠ a by omega), setr_ne (show a + 2 ≠ a + 1 by omega), setr_ne (show a + 2 ≠ a by omega)]
  obtain ⟨⟨r0, r1, r2, r3, r4, r5⟩, rl, rs, rc⟩ := id hR
  generalize hτ : setr (setr (setr σ a (upd (upd (upd (upd (upd (upd (σ a) 0 (σ b 0)) 1 (σ b 1)) 2 (σ b 2)) 3 (σ b 3)) 4 (σ b 4)) 5 (σ b 5))) (a + 1) (va_cpy (σ (b + 1)) (σ (a + 1)) 0 0 6)) (a + 2) (va_cpy (σ (b + 2)) (σ (a + 2)) 0 0 10) = τ
  have ta : τ a = tk6 (σ a) (σ b) := by rw [← hτ, setr_ne (by omega), setr_ne (by omega), setr_same]; rfl
  have tl : τ (a + 1) = va_cpy (σ (b + 1)) (σ (a + 1)) 0 0 6 := by rw [← hτ, setr_ne (by omega), setr_same]
  have ts : τ (a + 2) = va_cpy (σ (b + 2)) (σ (a + 2)) 0 0 10 := by rw [← hτ, setr_same]
  have tn : ∀ i, i ≠ a → i ≠ a + 1 → i ≠ a + 2 → τ i = σ i := fun i h1 h2 h3 => by rw [← hτ, setr_ne h3, setr_ne h2, setr_ne h1]
  have hRτ : Rh b τ N := Rh_fr hR hI (fun i h1 h2 => tn i (by omega) (by omega) (by omega))
  obtain ⟨σ', h1, h2, h3⟩ := tkL_C hI hd FU 0 τ (Nat.zero_le _) (FU_gt (by have := hI.hung.2; omega)) (by rw [ta, tk6_e 5 (by decide)]; exact r5) hRτ (fun c f h => by omega)
  refine ⟨σ', h1, ⟨?_, fun i hi => ?_, fun s hs => ?_, h2⟩, fun i hi => (h3 i (by omega)).trans (tn i (by omega) (by omega) (by omega))⟩
  · rw [h3 a (by omega), ta, tk6_e 0 (by decide), tk6_e 1 (by decide), tk6_e 2 (by decide), tk6_e 3 (by decide), tk6_e 4 (by decide), tk6_e 5 (by decide)]
    exact ⟨r0, r1, r2, r3, r4, r5⟩
  · rw [h3 (a + 1) (by omega), tl, cpy_lt hi]; exact rl i hi
  · rw [h3 (a + 2) (by omega), ts, cpy_lt hs]; exact rs s hs
/-! copyRow, putBack, behind -/
theorem cr_L {a b : Nat} (hab : a ≠ b) : ∀ (n k : Nat) (μ : Mem), k ≤ 70 → 70 - k < n → (∀ j, j < k → μ b j = μ a j) → Z70 (μ a) → Z70 (μ b) → f_X5_copyRow_L2 n a b (nI k) μ = some ((), setr μ b (μ a)) := by
  intro n
  induction n with
  | zero => intro k μ _ h; omega
  | succ n ih =>
    intro k μ hk hn hc ha hb
    rw [f_X5_copyRow_L2_s, show (70 : Int32) = nI 70 from rfl]
    rcases Nat.lt_or_ge k 70 with q | q
    · rw [if_neg (nle_of q (by decide)), vI_at rfl q (by decide), vI_at rfl q (by decide), vW_e, vL_e, show nI k + 1 = nI (k + 1) from nI_1 k]
      have h1 := ih (k + 1) (up2 μ b k (μ a k)) q (by omega) (fun j hj => by
        rw [up2_s, up2_n hab]
        by_cases e : j = k
        · subst e; rw [upd_s]
        · rw [upd_n e]; exact hc j (by omega)) (by rw [up2_n hab]; exact ha) (by rw [up2_s]; exact Z_upd hb q)
      rw [h1, up2_n hab, up2_e, setr_setr]
    · have hke : k = 70 := by omega
      subst hke
      rw [if_pos (nI_le (Nat.le_refl _) (by decide))]
      have e : μ a = μ b := by
        funext j
        rcases Nat.lt_or_ge j 70 with q1 | q1
        · exact (hc j q1).symm
        · rw [ha j q1, hb j q1]
      rw [e, setr_self]
theorem cr_M {a b : Nat} {μ : Mem} (hab : a ≠ b) (ha : Z70 (μ a)) (hb : Z70 (μ b)) : f_X5_copyRow a b μ = some ((), setr μ b (μ a)) := by
  unfold f_X5_copyRow
  rw [vL_e]
  exact cr_L hab FU 0 μ (by decide) (FU_gt (by decide)) (fun j h => by omega) ha hb
theorem bh_M {μ : Mem} {x p : Nat} {y : Int32} (hI : Inv (μ 51)) (h1 : Z70 (μ 51)) (h3 : Z70 (μ 53)) (hx : x < 10000) (hp : p < 70) (hy : y = nI p) : f_X5_behind y (nI x) μ = some (bgN (μ 51) x p, setr μ 53 (μ 51)) := by
  unfold f_X5_behind f_X5_putBack
  rw [cr_M (by decide) h1 h3, vC_s]
  have e1 : (setr μ 53 (μ 51)) 51 = μ 51 := setr_ne (by decide)
  rw [bg_M (by rw [e1]; exact hI) hx, vC_s, e1, vI_at hy hp (by decide)]
  have e2 : (setr (setr μ 53 (μ 51)) 51 (bgN (μ 51) x)) 53 = μ 51 := by rw [setr_ne (by decide), setr_same]
  rw [cr_M (by decide) (by rw [e2]; exact h1) (by rw [setr_same]; exact Z_bg h1 hI x), vC_s, vC_s, e2, setr_setr, setr_same]
  congr 2
  funext i
  by_cases h : i = 51
  · subst h; rw [setr_same]; exact e1.symm
  · rw [setr_ne h]
/-! the relation -/
def sm (f : Nat → Int32) : Nat → Int32
  | 0 => 0
  | n + 1 => sm f n + f n
def RK (σ μ : Mem) : Prop := σ 0 2 = μ 50 3 ∧ (σ 0 2 = 0 ∨ σ 0 2 = 1) ∧ (σ 0 2 = 1 → Rh 13 σ (μ 52) ∧ Inv (μ 52))
def RF (σ μ : Mem) : Prop := (∀ k, k < 7 → σ 49 k = μ 54 (k + 1)) ∧ μ 54 0 = sm (σ 49) 7
def RT (σ μ : Mem) : Prop := ∃ n, n ≤ 120 ∧ σ 38 1 = nI n ∧ μ 50 6 = nI n ∧ ∀ k, k < n → μ 55 k = σ 39 k &&& 255 ∧ (σ 39 k).toInt8.toInt32 = σ 39 k
def RS (σ μ : Mem) : Prop := ∀ s, s < 4 → σ (40 + 1 + 2 * s) 0 = μ 58 s ∧ (μ 58 s = 0 ∨ μ 58 s = 8 ∨ μ 58 s = 16 ∨ μ 58 s = 32) ∧ ∃ n, n ≤ 40 ∧ σ (40 + 1 + 2 * s) 1 = nI n ∧ μ 59 s = nI n ∧ ∀ k, k < n → σ (40 + 1 + 2 * s + 1) k = μ 60 (40 * s + k)
def Rel (σ μ : Mem) : Prop := Rh 1 σ (μ 51) ∧ Inv (μ 51) ∧ (Z70 (μ 51) ∧ Z70 (μ 52) ∧ Z70 (μ 53)) ∧ RK σ μ ∧ RF σ μ ∧ RT σ μ ∧ RS σ μ
theorem RK_fr {σ σ' μ μ' : Mem} (h : RK σ μ) (a : σ' 0 = σ 0) (b : ∀ i, 13 ≤ i → i < 25 → σ' i = σ i) (c : μ' 50 3 = μ 50 3) (d : μ' 52 = μ 52) : RK σ' μ' := by
  unfold RK
  rw [a, c, d]
  exact ⟨h.1, h.2.1, fun q => ⟨Rh_fr (h.2.2 q).1 (h.2.2 q).2 b, (h.2.2 q).2⟩⟩
theorem RF_fr {σ σ' μ μ' : Mem} (h : RF σ μ) (a : σ' 49 = σ 49) (b : μ' 54 = μ 54) : RF σ' μ' := by
  unfold RF
  rw [a, b]; exact h
theorem RT_fr {σ σ' μ μ' : Mem} (h : RT σ μ) (a : σ' 38 1 = σ 38 1) (b : σ' 39 = σ 39) (c : μ' 50 6 = μ 50 6) (d : μ' 55 = μ 55) : RT σ' μ' := by
  unfold RT
  rw [a, b, c, d]; exact h
theorem RS_fr {σ σ' μ μ' : Mem} (h : RS σ μ) (a : ∀ i, 41 ≤ i → i < 49 → σ' i = σ i) (b : μ' 58 = μ 58) (c : μ' 59 = μ 59) (d : μ' 60 = μ 60) : RS σ' μ' := by
  intro s hs
  rw [a _ (by omega) (by omega), a _ (by omega) (by omega), b, c, d]
  exact h s hs
/-- only the house, the scratch cells, the reference's rows have changed -/
theorem Rel.house {σ σ' μ μ' : Mem} (h : Rel σ μ) (a : ∀ i, ¬ (1 ≤ i ∧ i < 13) → ¬ (25 ≤ i ∧ i < 38) → σ' i = σ i) (b : ∀ i, i ≠ 51 → i ≠ 53 → μ' i = μ i) (h1 : Rh 1 σ' (μ' 51)) (h2 : Inv (μ' 51)) (h3 : Z70 (μ' 51)) (h4 : Z70 (μ' 53)) : Rel σ' μ' := by
  obtain ⟨_, _, ⟨_, z2, _⟩, rk, rf, rt, rs⟩ := h
  refine ⟨h1, h2, ⟨h3, by rw [b 52 (by decide) (by decide)]; exact z2, h4⟩, RK_fr rk (a 0 (by decide) (by decide)) (fun i x y => a i (by omega) (by omega)) (by rw [b 50 (by decide) (by decide)]) (b 52 (by decide) (by decide)), RF_fr rf (a 49 (by decide) (by decide)) (b 54 (by decide) (by decide)), RT_fr rt (by rw [a 38 (by decide) (by decide)]) (a 39 (by decide) (by decide)) (by rw [b 50 (by decide) (by decide)]) (b 55 (by decide) (by decide)), RS_fr rs (fun i x y => a i (by omega) (by omega)) (b 58 (by decide) (by decide)) (b 59 (by decide) (by decide)) (b 60 (by decide) (by decide))⟩
/-- the house stays, scratch cells and 'aside' may change -/
theorem Rel.scratch {σ σ' μ μ' : Mem} (h : Rel σ μ) (a : ∀ i, ¬ (25 ≤ i ∧ i < 38) → σ' i = σ i) (b : ∀ i, i ≠ 53 → μ' i = μ i) (h4 : Z70 (μ' 53)) : Rel σ' μ' := by
  have e : μ' 51 = μ 51 := b 51 (by decide)
  refine h.house (fun i _ y => a i y) (fun i _ y => b i y) ?_ (by rw [e]; exact h.2.1) (by rw [e]; exact h.2.2.1.1) h4
  rw [e]
  exact Rh_fr h.1 h.2.1 (fun i x y => a i (by omega))
/-! findings -/
def fdC (σ : Mem) (k : Nat) : Mem := setr σ 49 (upd (σ 49) k (σ 49 k + 1))
def fdM (μ : Mem) (k : Nat) : Mem := setr μ 54 (upd (upd (μ 54) (k + 1) (μ 54 (k + 1) + 1)) 0 (μ 54 0 + 1))
theorem sm_upd {f : Nat → Int32} {k : Nat} : ∀ n, k < n → sm (upd f k (f k + 1)) n = sm f n + 1 := by
  intro n
  have lo : ∀ m, m ≤ k → sm (upd f k (f k + 1)) m = sm f m := by
    intro m
    induction m with
    | zero => intro _; rfl
    | succ m ih =>
      intro hm
      show sm (upd f k (f k + 1)) m + upd f k (f k + 1) m = sm f m + f m
      rw [ih (by omega), upd_n (by omega)]
  induction n with
  | zero => intro h; omega
  | succ n ih =>
    intro h
    show sm (upd f k (f k + 1)) n + upd f k (f k + 1) n = sm f n + f n + 1
    by_cases e : k = n
    · subst e
      rw [lo k (Nat.le_refl _), upd_s, Int32.add_assoc]
    · rw [ih (by omega), upd_n (by omega), Int32.add_assoc, Int32.add_comm 1, ← Int32.add_assoc]
theorem Rel.find {σ μ : Mem} {k : Nat} (h : Rel σ μ) (hk : k < 7) : Rel (fdC σ k) (fdM μ k) := by
  obtain ⟨r1, r2, z, rk, rf, rt, rs⟩ := h
  have a : ∀ i, i ≠ 49 → fdC σ k i = σ i := fun i hi => setr_ne hi
  have b : ∀ i, i ≠ 54 → fdM μ k i = μ i := fun i hi => setr_ne hi
  have e51 := b 51 (by decide)
  have e52 := b 52 (by decide)
  have e53 := b 53 (by decide)
  refine ⟨by rw [e51]; exact Rh_fr r1 r2 (fun i x y => a i (by omega)), by rw [e51]; exact r2, by rw [e51, e52, e53]; exact z, RK_fr rk (a 0 (by decide)) (fun i x y => a i (by omega)) (by rw [b 50 (by decide)]) e52, ?_, RT_fr rt (by rw [a 38 (by decide)]) (a 39 (by decide)) (by rw [b 50 (by decide)]) (b 55 (by decide)), RS_fr rs (fun i x y => a i (by omega)) (b 58 (by decide)) (b 59 (by decide)) (b 60 (by decide))⟩
  refine ⟨fun j hj => ?_, ?_⟩
  · unfold fdC fdM
    have e0 : upd (upd (μ 54) (k + 1) (μ 54 (k + 1) + 1)) 0 (μ 54 0 + 1) (j + 1) = upd (μ 54) (k + 1) (μ 54 (k + 1) + 1) (j + 1) := upd_n (by omega)
    rw [setr_same, setr_same, e0]
    by_cases e : j = k
    · subst e; rw [upd_s, upd_s, rf.1 j hj]
    · rw [upd_n e, upd_n (by omega)]; exact rf.1 j hj
  · unfold fdC fdM
    rw [setr_same, setr_same, upd_s, sm_upd 7 hk, rf.2]
theorem fd0 {σ : Mem} : f_X4_find 0 σ = some (-1000001, fdC σ 0) := by
  unfold f_X4_find
  rw [vI_at (x := 0) (j := 0) rfl (by decide) (by decide), vI_at (x := 0) (j := 0) rfl (by decide) (by decide)]
  rfl
theorem gd0 {μ : Mem} : f_X5_finding (-1000001) μ = some (-1000001, fdM μ 0) := by
  unfold f_X5_finding
  rw [show ((-1000001 : Int32) - (-1000001)) + 1 = 1 by decide, vI_at (x := 1) (j := 1) rfl (by decide) (by decide), vI_at (x := 1) (j := 1) rfl (by decide) (by decide), vW_e, vI_at (x := 0) (j := 0) rfl (by decide) (by decide), vI_at (x := 0) (j := 0) rfl (by decide) (by decide), vW_e]
  simp only [up2_e, setr_same, setr_setr]
  rfl
theorem fd1 {σ : Mem} : f_X4_find 1 σ = some (-1000002, fdC σ 1) := by
  unfold f_X4_find
  rw [vI_at (x := 1) (j := 1) rfl (by decide) (by decide), vI_at (x := 1) (j := 1) rfl (by decide) (by decide)]
  rfl
theorem gd1 {μ : Mem} : f_X5_finding (-1000002) μ = some (-1000002, fdM μ 1) := by
  unfold f_X5_finding
  rw [show ((-1000001 : Int32) - (-1000002)) + 1 = 2 by decide, vI_at (x := 2) (j := 2) rfl (by decide) (by decide), vI_at (x := 2) (j := 2) rfl (by decide) (by decide), vW_e, vI_at (x := 0) (j := 0) rfl (by decide) (by decide), vI_at (x := 0) (j := 0) rfl (by decide) (by decide), vW_e]
  simp only [up2_e, setr_same, setr_setr]
  rfl
theorem fd2 {σ : Mem} : f_X4_find 2 σ = some (-1000003, fdC σ 2) := by
  unfold f_X4_find
  rw [vI_at (x := 2) (j := 2) rfl (by decide) (by decide), vI_at (x := 2) (j := 2) rfl (by decide) (by decide)]
  rfl
theorem gd2 {μ : Mem} : f_X5_finding (-1000003) μ = some (-1000003, fdM μ 2) := by
  unfold f_X5_finding
  rw [show ((-1000001 : Int32) - (-1000003)) + 1 = 3 by decide, vI_at (x := 3) (j := 3) rfl (by decide) (by decide), vI_at (x := 3) (j := 3) rfl (by decide) (by decide), vW_e, vI_at (x := 0) (j := 0) rfl (by decide) (by decide), vI_at (x := 0) (j := 0) rfl (by decide) (by decide), vW_e]
  simp only [up2_e, setr_same, setr_setr]
  rfl
theorem fd3 {σ : Mem} : f_X4_find 3 σ = some (-1000004, fdC σ 3) := by
  unfold f_X4_find
  rw [vI_at (x := 3) (j := 3) rfl (by decide) (by decide), vI_at (x := 3) (j := 3) rfl (by decide) (by decide)]
  rfl
theorem gd3 {μ : Mem} : f_X5_finding (-1000004) μ = some (-1000004, fdM μ 3) := by
  unfold f_X5_finding
  rw [show ((-1000001 : Int32) - (-1000004)) + 1 = 4 by decide, vI_at (x := 4) (j := 4) rfl (by decide) (by decide), vI_at (x := 4) (j := 4) rfl (by decide) (by decide), vW_e, vI_at (x := 0) (j := 0) rfl (by decide) (by decide), vI_at (x := 0) (j := 0) rfl (by decide) (by decide), vW_e]
  simp only [up2_e, setr_same, setr_setr]
  rfl
theorem fd4 {σ : Mem} : f_X4_find 4 σ = some (-1000005, fdC σ 4) := by
  unfold f_X4_find
  rw [vI_at (x := 4) (j := 4) rfl (by decide) (by decide), vI_at (x := 4) (j := 4) rfl (by decide) (by decide)]
  rfl
theorem gd4 {μ : Mem} : f_X5_finding (-1000005) μ = some (-1000005, fdM μ 4) := by
  unfold f_X5_finding
  rw [show ((-1000001 : Int32) - (-1000005)) + 1 = 5 by decide, vI_at (x := 5) (j := 5) rfl (by decide) (by decide), vI_at (x := 5) (j := 5) rfl (by decide) (by decide), vW_e, vI_at (x := 0) (j := 0) rfl (by decide) (by decide), vI_at (x := 0) (j := 0) rfl (by decide) (by decide), vW_e]
  simp only [up2_e, setr_same, setr_setr]
  rfl
theorem fd5 {σ : Mem} : f_X4_find 5 σ = some (-1000006, fdC σ 5) := by
  unfold f_X4_find
  rw [vI_at (x := 5) (j := 5) rfl (by decide) (by decide), vI_at (x := 5) (j := 5) rfl (by decide) (by decide)]
  rfl
theorem gd5 {μ : Mem} : f_X5_finding (-1000006) μ = some (-1000006, fdM μ 5) := by
  unfold f_X5_finding
  rw [show ((-1000001 : Int32) - (-1000006)) + 1 = 6 by decide, vI_at (x := 6) (j := 6) rfl (by decide) (by decide), vI_at (x := 6) (j := 6) rfl (by decide) (by decide), vW_e, vI_at (x := 0) (j := 0) rfl (by decide) (by decide), vI_at (x := 0) (j := 0) rfl (by decide) (by decide), vW_e]
  simp only [up2_e, setr_same, setr_setr]
  rfl
theorem fd6 {σ : Mem} : f_X4_find 6 σ = some (-1000007, fdC σ 6) := by
  unfold f_X4_find
  rw [vI_at (x := 6) (j := 6) rfl (by decide) (by decide), vI_at (x := 6) (j := 6) rfl (by decide) (by decide)]
  rfl
theorem gd6 {μ : Mem} : f_X5_finding (-1000007) μ = some (-1000007, fdM μ 6) := by
  unfold f_X5_finding
  rw [show ((-1000001 : Int32) - (-1000007)) + 1 = 7 by decide, vI_at (x := 7) (j := 7) rfl (by decide) (by decide), vI_at (x := 7) (j := 7) rfl (by decide) (by decide), vW_e, vI_at (x := 0) (j := 0) rfl (by decide) (by decide), vI_at (x := 0) (j := 0) rfl (by decide) (by decide), vW_e]
  simp only [up2_e, setr_same, setr_setr]
  rfl
