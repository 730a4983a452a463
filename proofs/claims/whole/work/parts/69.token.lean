/-! THE TEXT's tokens -/
def tB (x : Int32) : Int32 := if x < 97 then (if x < 48 then (if x = 59 then 2 else 4) else if 57 < x then (if x = 59 then 2 else 4) else 1) else if 122 < x then (if x < 48 then (if x = 59 then 2 else 4) else if 57 < x then (if x = 59 then 2 else 4) else 1) else 0
theorem tB_C {x : Int32} {σ : Mem} : f_X3_tokenBegunBy x σ = some (tB x, σ) := by
  unfold f_X3_tokenBegunBy f_X3_tokenBegunBy_J14 f_X3_tokenBegunBy_J28 tB
  repeat' split
  all_goals rfl
theorem h255 : ∀ i, (hi : i < 8) → (255 : Int32).toBitVec[i]'(Nat.lt_of_lt_of_le hi (by decide)) = true := by decide
theorem byt {v : Int32} (h : v.toInt8.toInt32 = v) : ∃ k, k < 256 ∧ v = (nI k).toInt8.toInt32 ∧ v &&& 255 = nI k := by
  have e := pk_and v (m := 255) 8 (by decide)
  refine ⟨v.toBitVec.toNat % 2 ^ 8, Nat.mod_lt _ (by decide), ?_, e⟩
  rw [← e]
  have h2 : (v &&& 255).toInt8 = v.toInt8 := by
    apply Int8.toBitVec_inj.mp
    show BitVec.signExtend 8 (v &&& 255).toBitVec = BitVec.signExtend 8 v.toBitVec
    ext i hi
    rw [BitVec.getElem_signExtend, BitVec.getElem_signExtend, dif_pos (by omega), dif_pos (by omega)]
    show (v.toBitVec &&& (255 : Int32).toBitVec)[i] = v.toBitVec[i]
    rw [BitVec.getElem_and, h255 i hi, Bool.and_true]
  rw [h2, h]
theorem byt_tab : ∀ k, k < 256 → (((nI k).toInt8.toInt32 = 32 ↔ nI k = 32) ∧ ((¬ nI k < 97 ∧ ¬ 122 < nI k) ↔ tB (nI k).toInt8.toInt32 = 0) ∧ ((¬ nI k < 48 ∧ ¬ 57 < nI k) ↔ tB (nI k).toInt8.toInt32 = 1) ∧ (nI k = 59 ↔ tB (nI k).toInt8.toInt32 = 2) ∧ (tB (nI k).toInt8.toInt32 = 1 → nI k = (nI k).toInt8.toInt32) ∧ (tB (nI k).toInt8.toInt32 = 0 ∨ tB (nI k).toInt8.toInt32 = 1 ∨ tB (nI k).toInt8.toInt32 = 2 ∨ tB (nI k).toInt8.toInt32 = 4) ∧ (k < 128 → (nI k).toInt8.toInt32 = nI k) ∧ (128 ≤ k → (nI k).toInt8.toInt32 < 0)) := by decide +kernel
/-- a byte, seen by both -/
def BT (u b : Int32) : Prop := (u = 32 ↔ b = 32) ∧ (wi u 97 122 ↔ tB b = 0) ∧ (wi u 48 57 ↔ tB b = 1) ∧ (u = 59 ↔ tB b = 2) ∧ (tB b = 1 → u = b) ∧ (tB b = 0 ∨ tB b = 1 ∨ tB b = 2 ∨ tB b = 4) ∧ (∃ k, k < 256 ∧ u = nI k) ∧ (∀ c, c < 128 → (b = nI c ↔ u = nI c))
theorem BT.sp {u b : Int32} (h : BT u b) : u = 32 ↔ b = 32 := h.1
theorem BT.le {u b : Int32} (h : BT u b) : wi u 97 122 ↔ tB b = 0 := h.2.1
theorem BT.di {u b : Int32} (h : BT u b) : wi u 48 57 ↔ tB b = 1 := h.2.2.1
theorem BT.se {u b : Int32} (h : BT u b) : u = 59 ↔ tB b = 2 := h.2.2.2.1
theorem BT.dv {u b : Int32} (h : BT u b) : tB b = 1 → u = b := h.2.2.2.2.1
theorem BT.ki {u b : Int32} (h : BT u b) : tB b = 0 ∨ tB b = 1 ∨ tB b = 2 ∨ tB b = 4 := h.2.2.2.2.2.1
theorem BT.nn {u b : Int32} (h : BT u b) : ∃ k, k < 256 ∧ u = nI k := h.2.2.2.2.2.2.1
theorem BT.ch {u b : Int32} (h : BT u b) : ∀ c, c < 128 → (b = nI c ↔ u = nI c) := h.2.2.2.2.2.2.2
theorem BT_of {u b : Int32} (h : u = b &&& 255) (h2 : b.toInt8.toInt32 = b) : BT u b := by
  obtain ⟨k, hk, e1, e2⟩ := byt h2
  rw [e2] at h
  subst h
  obtain ⟨t1, t2, t3, t4, t5, t6, t7, t8⟩ := byt_tab k hk
  subst e1
  refine ⟨t1.symm, t2, t3, t4, t5, t6, ⟨k, hk, rfl⟩, fun c hc => ?_⟩
  rcases Nat.lt_or_ge k 128 with q | q
  · rw [t7 q]
  · constructor
    · intro z
      have := t8 q
      rw [z] at this
      exact absurd this (nI_pos (by omega))
    · intro z
      have := (nI_eq (by omega) (by omega)).mp z
      omega
section TOK
variable {σ μ : Mem} {n : Nat}
theorem at_M {p : Nat} {ρ : Nat → Int32} (hn : n ≤ 120) (hρ : ρ 6 = nI n) (hp : p < n) : f_X5_byteAt (nI p) (setr μ 50 ρ) = some (μ 55 p, setr μ 50 ρ) := by
  unfold f_X5_byteAt
  rw [setr_same, hρ, if_neg (nle_of hp (by omega)), vI_at rfl (by omega) (by decide), setr_ne (by decide)]
theorem at_M0 {p : Nat} {ρ : Nat → Int32} (hn : n ≤ 120) (hρ : ρ 6 = nI n) (hp : n ≤ p) (hp2 : p ≤ 120) : f_X5_byteAt (nI p) (setr μ 50 ρ) = some (-1, setr μ 50 ρ) := by
  unfold f_X5_byteAt
  rw [setr_same, hρ, if_pos (nI_le hp (by omega))]
theorem skip_C {P : Nat} (hn : n ≤ 120) (hP : P ≤ n) (hs : P = n ∨ ¬ σ 39 P = 32) : ∀ m p (τ : Nat → Int32), p ≤ P → P - p < m → (∀ j, p ≤ j → j < P → σ 39 j = 32) → τ 1 = nI n → τ 3 = nI p → f_X3_step_L8 m (setr σ 38 τ) = f_X3_step_J46 (setr σ 38 (upd τ 3 (nI P))) := by
  intro m
  induction m with
  | zero => intro p τ _ h; omega
  | succ m ih =>
    intro p τ hp hm hj h1 h3
    rw [f_X3_step_L8_s, setr_same, setr_ne (show 39 ≠ 38 by decide), h1, h3]
    by_cases e : p = P
    · subst e
      rw [← h3, upd_self, h3]
      rcases Nat.lt_or_ge p n with q | q
      · rw [if_neg (nle_of q (by omega)), vI_at rfl (by omega) (by decide)]
        rcases hs with w | w
        · omega
        · rw [if_neg w]
      · rw [if_pos (nI_le q (by omega))]
    · rw [if_neg (nle_of (show p < n by omega) (by omega)), vI_at rfl (by omega) (by decide), if_pos (hj p (Nat.le_refl _) (by omega)), vW_e, up2_setr, show nI p + 1 = nI (p + 1) from nI_1 p]
      rw [ih (p + 1) (upd τ 3 (nI (p + 1))) (by omega) (by omega) (fun j a b => hj j (by omega) b) (by rw [upd_n (by decide)]; exact h1) upd_s, upd_upd]
def tokT (σ22 : Mem) : Option (Unit × Mem) := vC (f_X5_byteAt (σ22 50 7) σ22) (fun r25 σ24 => vL r25 (fun x26 => vW σ24 50 8 (σ24 50 7) (fun σ27 => vW σ27 50 10 0 (fun σ28 => if 0 ≤ x26 then vC (f_X5_within x26 97 122 σ28) (fun r30 σ29 => if r30 = 0 then vC (f_X5_within x26 48 57 σ29) (fun r32 σ31 => if r32 = 0 then vW σ31 50 9 3 (fun σ33 => vW σ33 50 8 ((σ33 50 8) + 1) (fun σ34 => some ((), σ34))) else vW σ31 50 9 2 (fun σ35 => f_X5_token_L131 FU σ35)) else vW σ29 50 9 1 (fun σ44 => f_X5_token_L84 FU σ44)) else vW σ28 50 9 0 (fun σ50 => some ((), σ50))))))
theorem tok_s {m : Nat} {τ : Mem} : f_X5_token_L8 (m + 1) τ = vC (f_X5_byteAt (τ 50 7) τ) (fun r23 σ22 => if r23 = 32 then vW σ22 50 7 ((σ22 50 7) + 1) (fun σ51 => (f_X5_token_L8 m) σ51) else tokT σ22) := rfl
theorem skip_M {P : Nat} (hn : n ≤ 120) (hP : P ≤ n) (hs : P = n ∨ ¬ μ 55 P = 32) : ∀ m p (ρ : Nat → Int32), p ≤ P → P - p < m → (∀ j, p ≤ j → j < P → μ 55 j = 32) → ρ 6 = nI n → ρ 7 = nI p → f_X5_token_L8 m (setr μ 50 ρ) = tokT (setr μ 50 (upd ρ 7 (nI P))) := by
  intro m
  induction m with
  | zero => intro p τ _ h; omega
  | succ m ih =>
    intro p ρ hp hm hj h6 h7
    rw [tok_s]
    by_cases e : p = P
    · subst e
      rcases Nat.lt_or_ge p n with q | q
      · rw [setr_same, h7, at_M hn h6 q, vC_s]
        rcases hs with w | w
        · omega
        · rw [if_neg w, ← h7, upd_self]
      · rw [setr_same, h7, at_M0 hn h6 q (by omega), vC_s, if_neg (by decide), ← h7, upd_self]
    · rw [setr_same, h7, at_M hn h6 (by omega), vC_s, if_pos (hj p (Nat.le_refl _) (by omega)), vW_e, up2_setr, setr_same, h7, show nI p + 1 = nI (p + 1) from nI_1 p]
      rw [ih (p + 1) (upd ρ 7 (nI (p + 1))) (by omega) (by omega) (fun j a b => hj j (by omega) b) (by rw [upd_n (by decide)]; exact h6) upd_s, upd_upd]
theorem ext_C {e : Nat} {kc : Int32} (hn : n ≤ 120) (he : e ≤ n) (hk : kc = 0 ∨ kc = 1) (hs : e = n ∨ ¬ tB (σ 39 e) = kc) : ∀ m q (τ : Nat → Int32), q ≤ e → e - q < m → (∀ j, q ≤ j → j < e → tB (σ 39 j) = kc) → τ 1 = nI n → τ 2 = kc → τ 4 = nI q → f_X3_step_L94 m (setr σ 38 τ) = f_X3_step_J152 (setr σ 38 (upd τ 4 (nI e))) := by
  intro m
  induction m with
  | zero => intro q τ _ h; omega
  | succ m ih =>
    intro q τ hq hm hj h1 h2 h4
    have key : f_X3_step_J109 (f_X3_step_L94 m) (setr σ 38 τ) = f_X3_step_J152 (setr σ 38 (upd τ 4 (nI e))) := by
      unfold f_X3_step_J109
      rw [setr_same, h1, h4, setr_ne (show 39 ≠ 38 by decide)]
      by_cases eq : q = e
      · subst eq
        rcases Nat.lt_or_ge q n with w | w
        · rw [if_neg (nle_of w (by omega)), vI_at rfl (by omega) (by decide), tB_C, vC_s, setr_same, h2]
          rcases hs with z | z
          · omega
          · rw [if_neg z, ← h4, upd_self]
        · rw [if_pos (nI_le w (by omega)), ← h4, upd_self]
      · rw [if_neg (nle_of (show q < n by omega) (by omega)), vI_at rfl (by omega) (by decide), tB_C, vC_s, setr_same, h2, if_pos (hj q (Nat.le_refl _) (by omega)), vW_e, up2_setr, h4, show nI q + 1 = nI (q + 1) from nI_1 q]
        rw [ih (q + 1) (upd τ 4 (nI (q + 1))) (by omega) (by omega) (fun j a b => hj j (by omega) b) (by rw [upd_n (by decide)]; exact h1) (by rw [upd_n (by decide)]; exact h2) upd_s, upd_upd]
    rw [f_X3_step_L94_s, key, setr_same, h2]
    rcases hk with rfl | rfl
    · rw [if_pos rfl]
    · rw [if_neg n10, if_pos rfl]
def va (B : Nat → Int32) (s : Nat) : Nat → Int32
  | 0 => 0
  | d + 1 => if ((va B s d * 10) + B (s + d)) - 48 < 10000 then ((va B s d * 10) + B (s + d)) - 48 else 10000
theorem va_C {s e : Nat} {τ : Nat → Int32} (hn : e ≤ 120) (h4 : τ 4 = nI e) : ∀ m d, s + d ≤ e → e - (s + d) < m → f_X3_valueAtHand_L7 m (va (σ 39) s d) (nI (s + d)) (setr σ 38 τ) = some (va (σ 39) s (e - s), setr σ 38 τ) := by
  intro m
  induction m with
  | zero => intro d _ h; omega
  | succ m ih =>
    intro d hd hm
    rw [f_X3_valueAtHand_L7_s, setr_same, h4, setr_ne (show 39 ≠ 38 by decide)]
    rcases Nat.lt_or_ge (s + d) e with q | q
    · rw [if_neg (nle_of q (by omega)), vI_at rfl (by omega) (by decide), vL_e, vL_e, show nI (s + d) + 1 = nI (s + (d + 1)) from nI_1 (s + d)]
      exact ih (d + 1) (by omega) (by omega)
    · rw [if_pos (nI_le q (by omega)), show e - s = d by omega]
theorem wrd_M {s e : Nat} (hn : n ≤ 120) (he : e ≤ n) (hl : ∀ j, s ≤ j → j < e → wi (μ 55 j) 97 122) (hs : e = n ∨ ¬ wi (μ 55 e) 97 122) : ∀ m q (ρ : Nat → Int32), s ≤ q → q ≤ e → e - q < m → ρ 6 = nI n → ρ 8 = nI q → ∃ ρ', f_X5_token_L84 m (setr μ 50 ρ) = some ((), setr μ 50 ρ') ∧ ρ' 8 = nI e ∧ ∀ j, j ≠ 8 → ρ' j = ρ j := by
  intro m
  induction m with
  | zero => intro q ρ _ _ h; omega
  | succ m ih =>
    intro q ρ h0 hq hm h6 h8
    rw [f_X5_token_L84_s, setr_same, h8]
    by_cases eq : q = e
    · subst eq
      rcases Nat.lt_or_ge q n with w | w
      · rcases hs with z | z
        · omega
        · rw [at_M hn h6 w, vC_s, wM0 z, vC_s, if_pos rfl]
          exact ⟨ρ, rfl, h8, fun _ _ => rfl⟩
      · rw [at_M0 hn h6 w (by omega), vC_s, wM0 (fun z => z.1 (by decide)), vC_s, if_pos rfl]
        exact ⟨ρ, rfl, h8, fun _ _ => rfl⟩
    · rw [at_M hn h6 (by omega), vC_s, wM1 (hl q h0 (by omega)), vC_s, if_neg n10, vW_e, up2_setr, setr_same, h8, show nI q + 1 = nI (q + 1) from nI_1 q]
      obtain ⟨ρ', g1, g2, g3⟩ := ih (q + 1) (upd ρ 8 (nI (q + 1))) (by omega) (by omega) (by omega) (by rw [upd_n (by decide)]; exact h6) upd_s
      exact ⟨ρ', g1, g2, fun j hj => (g3 j hj).trans (upd_n hj)⟩
theorem num_M {s e : Nat} {B : Nat → Int32} (hn : n ≤ 120) (he : e ≤ n) (hl : ∀ j, s ≤ j → j < e → wi (μ 55 j) 48 57 ∧ μ 55 j = B j) (hs : e = n ∨ ¬ wi (μ 55 e) 48 57) : ∀ m d (ρ : Nat → Int32), s + d ≤ e → e - (s + d) < m → ρ 6 = nI n → ρ 8 = nI (s + d) → ρ 10 = va B s d → ∃ ρ', f_X5_token_L131 m (setr μ 50 ρ) = some ((), setr μ 50 ρ') ∧ ρ' 8 = nI e ∧ ρ' 10 = va B s (e - s) ∧ ∀ j, j ≠ 8 → j ≠ 10 → ρ' j = ρ j := by
  intro m
  induction m with
  | zero => intro d ρ _ h; omega
  | succ m ih =>
    intro d ρ hd hm h6 h8 h10
    rw [f_X5_token_L131_s, setr_same, h8]
    by_cases eq : s + d = e
    · have ed : e - s = d := by omega
      rcases Nat.lt_or_ge e n with w | w
      · rcases hs with z | z
        · omega
        · rw [eq, at_M hn h6 w, vC_s, wM0 z, vC_s, if_pos rfl]
          exact ⟨ρ, rfl, by rw [h8, eq], by rw [ed]; exact h10, fun _ _ _ => rfl⟩
      · rw [eq, at_M0 hn h6 w (by omega), vC_s, wM0 (fun z => z.1 (by decide)), vC_s, if_pos rfl]
        exact ⟨ρ, rfl, by rw [h8, eq], by rw [ed]; exact h10, fun _ _ _ => rfl⟩
    · obtain ⟨l1, l2⟩ := hl (s + d) (by omega) (by omega)
      rw [at_M hn h6 (by omega), vC_s, wM1 l1, vC_s, if_neg n10, setr_same, h8, at_M hn h6 (by omega), vC_s, vW_e, up2_setr, vW_e, up2_setr, setr_same, upd_n (show 8 ≠ 10 by decide), h8, h10, l2, Int32.mul_comm 10, show nI (s + d) + 1 = nI (s + (d + 1)) from nI_1 (s + d)]
      obtain ⟨ρ', g1, g2, g3, g4⟩ := ih (d + 1) (upd (upd ρ 10 (va B s (d + 1))) 8 (nI (s + (d + 1)))) (by omega) (by omega) (by rw [upd_n (by decide), upd_n (by decide)]; exact h6) upd_s (by rw [upd_n (by decide), upd_s])
      refine ⟨ρ', g1, g2, g3, fun j a b => ?_⟩
      rw [g4 j a b, upd_n a, upd_n b]
theorem va_rg {B : Nat → Int32} {s : Nat} : ∀ d, (∀ j, j < d → ∃ c, c ≤ 9 ∧ B (s + j) = nI (48 + c)) → rg (va B s d) 10000 := by
  intro d
  induction d with
  | zero => intro _; exact ⟨0, by decide, rfl⟩
  | succ d ih =>
    intro h
    obtain ⟨m, hm, e⟩ := ih (fun j hj => h j (by omega))
    obtain ⟨c, hc, ec⟩ := h d (by omega)
    have e2 : ((va B s d * 10) + B (s + d)) - 48 = nI (m * 10 + c) := by
      rw [e, ec, show (10 : Int32) = nI 10 from rfl, show (48 : Int32) = nI 48 from rfl, pk_mul, nI_add, pk_sub (by omega)]
      congr 1
      omega
    show rg (if ((va B s d * 10) + B (s + d)) - 48 < 10000 then ((va B s d * 10) + B (s + d)) - 48 else 10000) 10000
    rw [e2, show (10000 : Int32) = nI 10000 from rfl]
    split
    · rename_i w
      have := (nI_ltI (by omega) (by decide)).mp w
      exact ⟨_, by omega, rfl⟩
    · exact ⟨_, Nat.le_refl _, rfl⟩
/-- a token at hand, seen by both -/
def TS (n : Nat) (U τ ρ : Nat → Int32) (s e : Nat) : Prop := s ≤ e ∧ e ≤ n ∧ τ 3 = nI s ∧ τ 4 = nI e ∧ ρ 7 = nI s ∧ ρ 8 = nI e ∧ ((τ 2 = 0 ∧ ρ 9 = 1 ∧ s < e) ∨ (τ 2 = 1 ∧ ρ 9 = 2 ∧ s < e ∧ τ 5 = ρ 10 ∧ rg (τ 5) 10000) ∨ (τ 2 = 2 ∧ ρ 9 = 3 ∧ s < e ∧ U s = 59) ∨ (τ 2 = 4 ∧ ρ 9 = 3 ∧ s < e ∧ ¬ U s = 59) ∨ (τ 2 = 3 ∧ ρ 9 = 0))
theorem step_alike {τ ρ : Nat → Int32} {e0 : Nat} (hn : n ≤ 120) (hB : ∀ k, k < n → BT (μ 55 k) (σ 39 k)) (h1 : τ 1 = nI n) (h4 : τ 4 = nI e0) (h6 : ρ 6 = nI n) (h8 : ρ 8 = nI e0) (he0 : e0 ≤ n) : ∃ τ' ρ' s e, f_X3_step (setr σ 38 τ) = some ((), setr σ 38 τ') ∧ f_X5_token (setr μ 50 ρ) = some ((), setr μ 50 ρ') ∧ τ' 1 = nI n ∧ (∀ j, ¬ (7 ≤ j ∧ j ≤ 10) → ρ' j = ρ j) ∧ e0 ≤ s ∧ TS n (μ 55) τ' ρ' s e := by
  obtain ⟨P, p1, p2, p3, p4⟩ : ∃ P, e0 ≤ P ∧ P ≤ n ∧ (∀ j, e0 ≤ j → j < P → σ 39 j = 32) ∧ (P = n ∨ (P < n ∧ ¬ σ 39 P = 32)) := by
    rcases least (fun d => e0 + d = n ∨ (e0 + d < n ∧ ¬ σ 39 (e0 + d) = 32)) (n - e0 + 1) with ⟨d, a1, a2, a3⟩ | a0
    · refine ⟨e0 + d, by omega, by omega, fun j b1 b2 => ?_, a2⟩
      have := a3 (j - e0) (by omega)
      rw [show e0 + (j - e0) = j by omega] at this
      exact Classical.not_not.mp (fun z => this (Or.inr ⟨by omega, z⟩))
    · exact absurd (Or.inl (by omega)) (a0 (n - e0) (by omega))
  have stC : f_X3_step (setr σ 38 τ) = f_X3_step_J46 (setr σ 38 (upd τ 3 (nI P))) := by
    unfold f_X3_step
    rw [vW_e, up2_setr, setr_same, h4, skip_C hn p2 (p4.imp id (fun z => z.2)) FU e0 (upd τ 3 (nI e0)) p1 (FU_gt (by omega)) p3 (by rw [upd_n (by decide)]; exact h1) upd_s, upd_upd]
  have stM : f_X5_token (setr μ 50 ρ) = tokT (setr μ 50 (upd ρ 7 (nI P))) := by
    unfold f_X5_token
    rw [vW_e, up2_setr, setr_same, h8, skip_M hn p2 (p4.imp id (fun z y => z.2 ((hB P z.1).sp.mp y))) FU e0 (upd ρ 7 (nI e0)) p1 (FU_gt (by omega)) (fun j a b => (hB j (by omega)).sp.mpr (p3 j a b)) (by rw [upd_n (by decide)]; exact h6) upd_s, upd_upd]
  have ss : ∀ τ' : Nat → Int32, τ' 1 = nI n → τ' 3 = nI P → ∀ k : Int32, f_X3_step_J74 k (setr σ 38 τ') = f_X3_step_L94 FU (setr σ 38 (upd (upd τ' 2 k) 4 (if P + 1 < n then nI (P + 1) else nI n))) := by
    intro τ' t1 t3 k
    unfold f_X3_step_J74
    rw [vW_e, up2_setr, vW_e, up2_setr, setr_same, upd_n (show 3 ≠ 2 by decide), upd_n (show 1 ≠ 2 by decide), t1, t3, show nI P + 1 = nI (P + 1) from nI_1 P]
    by_cases c : P + 1 < n
    · rw [if_pos c, if_pos (nI_lt c (by omega))]
    · rw [if_neg c, if_neg (nI_nlt (by omega) (by omega))]
  have u1 : upd τ 3 (nI P) 1 = nI n := by rw [upd_n (by decide)]; exact h1
  have u3 : upd τ 3 (nI P) 3 = nI P := upd_s
  have r6 : upd ρ 7 (nI P) 6 = nI n := by rw [upd_n (by decide)]; exact h6
  have r7 : upd ρ 7 (nI P) 7 = nI P := upd_s
  have rk : ∀ j, ¬ (7 ≤ j ∧ j ≤ 10) → upd ρ 7 (nI P) j = ρ j := fun j hj => upd_n (by omega)
  rw [stC, stM]
  generalize upd τ 3 (nI P) = τ1 at u1 u3 ⊢
  generalize upd ρ 7 (nI P) = ρ1 at r6 r7 rk ⊢
  unfold f_X3_step_J46 tokT
  rw [setr_same, u1, u3, setr_same, r7]
  have J152n : ∀ τ2 : Nat → Int32, ¬ τ2 2 = 1 → f_X3_step_J152 (setr σ 38 τ2) = some ((), setr σ 38 (upd τ2 5 0)) := by
    intro τ2 h2
    unfold f_X3_step_J152 f_X3_step_J169
    rw [setr_same, if_neg h2, vW_e, up2_setr]
  rcases p4 with hPn | ⟨hPn, hb⟩
  · subst hPn
    rw [if_pos (nI_le (Nat.le_refl _) (by omega)), ss τ1 u1 u3, if_neg (by omega), show FU = 9999 + 1 from rfl, f_X3_step_L94_s, setr_same, upd_n (show 2 ≠ 4 by decide), upd_s, if_neg (by decide), if_neg (by decide), J152n _ (by rw [upd_n (by decide), upd_s]; decide), at_M0 hn r6 (Nat.le_refl _) hn, vC_s, vL_e, vW_e, up2_setr, vW_e, up2_setr, if_neg (by decide), vW_e, up2_setr, setr_same, r7]
    refine ⟨_, _, P, P, rfl, rfl, ?_, fun j hj => ?_, p1, Nat.le_refl _, Nat.le_refl _, ?_, ?_, ?_, ?_, Or.inr (Or.inr (Or.inr (Or.inr ⟨?_, upd_s⟩)))⟩
    · rw [upd_n (by decide), upd_n (by decide), upd_n (by decide)]; exact u1
    · rw [upd_n (by omega), upd_n (by omega), upd_n (by omega)]; exact rk j hj
    · rw [upd_n (by decide), upd_n (by decide), upd_n (by decide)]; exact u3
    · rw [upd_n (by decide), upd_s]
    · rw [upd_n (by decide), upd_n (by decide), upd_n (by decide)]; exact r7
    · rw [upd_n (by decide), upd_n (by decide), upd_s]
    · rw [upd_n (by decide), upd_n (by decide), upd_s]
  · have bt := hB P hPn
    obtain ⟨c0, hc0, ec0⟩ := bt.nn
    have pos : (0 : Int32) ≤ μ 55 P := by rw [ec0]; exact nI_pos' (by omega)
    have e1 : (if P + 1 < n then nI (P + 1) else nI n) = nI (P + 1) := by
      by_cases c : P + 1 < n
      · rw [if_pos c]
      · rw [if_neg c, show P + 1 = n by omega]
    rw [if_neg (nle_of hPn (by omega)), vI_at rfl (by omega) (by decide), setr_ne (show 39 ≠ 38 by decide), tB_C, vC_s, ss τ1 u1 u3, e1, at_M hn r6 hPn, vC_s, vL_e, vW_e, up2_setr, vW_e, up2_setr, if_pos pos, setr_same, r7]
    obtain ⟨e, q1, q2, q3, q4⟩ : ∃ e, P < e ∧ e ≤ n ∧ (∀ j, P ≤ j → j < e → tB (σ 39 j) = tB (σ 39 P)) ∧ (e = n ∨ (e < n ∧ ¬ tB (σ 39 e) = tB (σ 39 P))) := by
      rcases least (fun d => P + d = n ∨ (P + d < n ∧ ¬ tB (σ 39 (P + d)) = tB (σ 39 P))) (n - P + 1) with ⟨d, a1, a2, a3⟩ | a0
      · have d0 : d ≠ 0 := by
          intro z
          subst z
          rcases a2 with w | w
          · omega
          · exact w.2 rfl
        refine ⟨P + d, by omega, by omega, fun j b1 b2 => ?_, a2⟩
        have := a3 (j - P) (by omega)
        rw [show P + (j - P) = j by omega] at this
        exact Classical.not_not.mp (fun z => this (Or.inr ⟨by omega, z⟩))
      · exact absurd (Or.inl (by omega)) (a0 (n - P) (by omega))
    rcases bt.ki with k | k | k | k
    · -- a word
      rw [k] at q3 q4
      have lM : ∀ j, P ≤ j → j < e → wi (μ 55 j) 97 122 := fun j a b => (hB j (by omega)).le.mpr (q3 j a b)
      rw [k, ext_C hn q2 (Or.inl rfl) (q4.imp id (fun z => z.2)) FU (P + 1) _ (by omega) (FU_gt (by omega)) (fun j a b => q3 j (by omega) b) (by rw [upd_n (by decide), upd_n (by decide)]; exact u1) (by rw [upd_n (by decide), upd_s]) upd_s, J152n _ (by rw [upd_n (by decide), upd_n (by decide), upd_s]; decide), wM1 (lM P (Nat.le_refl _) q1), vC_s, if_neg n10, vW_e, up2_setr]
      obtain ⟨ρ', g1, g2, g3⟩ := wrd_M (s := P) hn q2 lM (q4.imp id (fun z y => z.2 ((hB e z.1).le.mp y))) FU P (upd (upd (upd ρ1 8 (nI P)) 10 0) 9 1) (Nat.le_refl _) (by omega) (FU_gt (by omega)) (by rw [upd_n (by decide), upd_n (by decide), upd_n (by decide)]; exact r6) (by rw [upd_n (by decide), upd_n (by decide), upd_s])
      rw [g1]
      refine ⟨_, _, P, e, rfl, rfl, ?_, fun j hj => ?_, p1, by omega, q2, ?_, ?_, ?_, g2, Or.inl ⟨?_, ?_, q1⟩⟩
      · rw [upd_n (by decide), upd_n (by decide), upd_n (by decide), upd_n (by decide)]; exact u1
      · rw [g3 j (by omega), upd_n (by omega), upd_n (by omega), upd_n (by omega)]; exact rk j hj
      · rw [upd_n (by decide), upd_n (by decide), upd_n (by decide), upd_n (by decide)]; exact u3
      · rw [upd_n (by decide), upd_s]
      · rw [g3 7 (by decide), upd_n (by decide), upd_n (by decide), upd_n (by decide)]; exact r7
      · rw [upd_n (by decide), upd_n (by decide), upd_n (by decide), upd_s]
      · rw [g3 9 (by decide), upd_s]
    · -- a number
      rw [k] at q3 q4
      have lM : ∀ j, P ≤ j → j < e → wi (μ 55 j) 48 57 ∧ μ 55 j = σ 39 j := fun j a b => ⟨(hB j (by omega)).di.mpr (q3 j a b), (hB j (by omega)).dv (q3 j a b)⟩
      have nl : ¬ wi (μ 55 P) 97 122 := fun z => by
        have := bt.le.mp z
        rw [k] at this
        exact absurd this (by decide)
      rw [k, ext_C hn q2 (Or.inr rfl) (q4.imp id (fun z => z.2)) FU (P + 1) _ (by omega) (FU_gt (by omega)) (fun j a b => q3 j (by omega) b) (by rw [upd_n (by decide), upd_n (by decide)]; exact u1) (by rw [upd_n (by decide), upd_s]) upd_s, wM0 nl, vC_s, if_pos rfl, wM1 (lM P (Nat.le_refl _) q1).1, vC_s, if_neg n10, vW_e, up2_setr]
      obtain ⟨ρ', g1, g2, g3, g4⟩ := num_M (s := P) (B := σ 39) hn q2 lM (q4.imp id (fun z y => z.2 ((hB e z.1).di.mp y))) FU 0 (upd (upd (upd ρ1 8 (nI P)) 10 0) 9 2) (by omega) (FU_gt (by omega)) (by rw [upd_n (by decide), upd_n (by decide), upd_n (by decide)]; exact r6) (by rw [upd_n (by decide), upd_n (by decide), upd_s]; rfl) (by rw [upd_n (by decide), upd_s]; rfl)
      rw [g1]
      have t3 : upd (upd (upd τ1 2 1) 4 (nI (P + 1))) 4 (nI e) 3 = nI P := by rw [upd_n (by decide), upd_n (by decide), upd_n (by decide)]; exact u3
      have vh := va_C (σ := σ) (s := P) (τ := upd (upd (upd τ1 2 1) 4 (nI (P + 1))) 4 (nI e)) (show e ≤ 120 by omega) upd_s FU 0 (by omega) (FU_gt (by omega))
      have vh' : f_X3_valueAtHand_L7 FU 0 (nI P) (setr σ 38 (upd (upd (upd τ1 2 1) 4 (nI (P + 1))) 4 (nI e))) = some (va (σ 39) P (e - P), setr σ 38 (upd (upd (upd τ1 2 1) 4 (nI (P + 1))) 4 (nI e))) := vh
      unfold f_X3_step_J152 f_X3_step_J169 f_X3_valueAtHand
      rw [setr_same, upd_n (show 2 ≠ 4 by decide), upd_n (show 2 ≠ 4 by decide), upd_s, if_pos rfl, vL_e, vL_e, t3, vh', vC_s, vW_e, up2_setr]
      refine ⟨_, _, P, e, rfl, rfl, ?_, fun j hj => ?_, p1, by omega, q2, ?_, ?_, ?_, g2, Or.inr (Or.inl ⟨?_, ?_, q1, ?_, ?_⟩)⟩
      · rw [upd_n (by decide), upd_n (by decide), upd_n (by decide), upd_n (by decide)]; exact u1
      · rw [g4 j (by omega) (by omega), upd_n (by omega), upd_n (by omega), upd_n (by omega)]; exact rk j hj
      · rw [upd_n (by decide)]; exact t3
      · rw [upd_n (by decide), upd_s]
      · rw [g4 7 (by decide) (by decide), upd_n (by decide), upd_n (by decide), upd_n (by decide)]; exact r7
      · rw [upd_n (by decide), upd_n (by decide), upd_n (by decide), upd_s]
      · rw [g4 9 (by decide) (by decide), upd_s]
      · rw [upd_s, g3]
      · rw [upd_s]
        refine va_rg _ (fun j hj => ?_)
        obtain ⟨l1, l2⟩ := lM (P + j) (by omega) (by omega)
        rw [l2] at l1
        obtain ⟨c, hc, ec⟩ := rg_of (m := 57) (by decide) rfl ⟨fun z => l1.1 (Int32.lt_trans z (by decide)), l1.2⟩
        have h48 : 48 ≤ c := by
          rcases Nat.lt_or_ge c 48 with w | w
          · exact absurd (by rw [ec]; exact nI_lt w (by decide)) l1.1
          · exact w
        exact ⟨c - 48, by omega, by rw [ec]; congr 1; omega⟩
    · -- a semicolon
      have nl : ¬ wi (μ 55 P) 97 122 := fun z => by
        have := bt.le.mp z
        rw [k] at this
        exact absurd this (by decide)
      have nd : ¬ wi (μ 55 P) 48 57 := fun z => by
        have := bt.di.mp z
        rw [k] at this
        exact absurd this (by decide)
      rw [k, show FU = 9999 + 1 from rfl, f_X3_step_L94_s, setr_same, upd_n (show 2 ≠ 4 by decide), upd_s, if_neg (by decide), if_neg (by decide), J152n _ (by rw [upd_n (by decide), upd_s]; decide), wM0 nl, vC_s, if_pos rfl, wM0 nd, vC_s, if_pos rfl, vW_e, up2_setr, vW_e, up2_setr, setr_same, upd_n (show 8 ≠ 9 by decide), upd_n (show 8 ≠ 10 by decide), upd_s, show nI P + 1 = nI (P + 1) from nI_1 P]
      refine ⟨_, _, P, P + 1, rfl, rfl, ?_, fun j hj => ?_, p1, by omega, by omega, ?_, ?_, ?_, upd_s, Or.inr (Or.inr (Or.inl ⟨?_, ?_, by omega, bt.se.mpr k⟩))⟩
      · rw [upd_n (by decide), upd_n (by decide), upd_n (by decide)]; exact u1
      · rw [upd_n (by omega), upd_n (by omega), upd_n (by omega), upd_n (by omega)]; exact rk j hj
      · rw [upd_n (by decide), upd_n (by decide), upd_n (by decide)]; exact u3
      · rw [upd_n (by decide), upd_s]
      · rw [upd_n (by decide), upd_n (by decide), upd_n (by decide), upd_n (by decide)]; exact r7
      · rw [upd_n (by decide), upd_n (by decide), upd_s]
      · rw [upd_n (by decide), upd_s]
    · -- anything else
      have nl : ¬ wi (μ 55 P) 97 122 := fun z => by
        have := bt.le.mp z
        rw [k] at this
        exact absurd this (by decide)
      have nd : ¬ wi (μ 55 P) 48 57 := fun z => by
        have := bt.di.mp z
        rw [k] at this
        exact absurd this (by decide)
      have n59 : ¬ μ 55 P = 59 := fun z => by
        have := bt.se.mp z
        rw [k] at this
        exact absurd this (by decide)
      rw [k, show FU = 9999 + 1 from rfl, f_X3_step_L94_s, setr_same, upd_n (show 2 ≠ 4 by decide), upd_s, if_neg (by decide), if_neg (by decide), J152n _ (by rw [upd_n (by decide), upd_s]; decide), wM0 nl, vC_s, if_pos rfl, wM0 nd, vC_s, if_pos rfl, vW_e, up2_setr, vW_e, up2_setr, setr_same, upd_n (show 8 ≠ 9 by decide), upd_n (show 8 ≠ 10 by decide), upd_s, show nI P + 1 = nI (P + 1) from nI_1 P]
      refine ⟨_, _, P, P + 1, rfl, rfl, ?_, fun j hj => ?_, p1, by omega, by omega, ?_, ?_, ?_, upd_s, Or.inr (Or.inr (Or.inr (Or.inl ⟨?_, ?_, by omega, n59⟩)))⟩
      · rw [upd_n (by decide), upd_n (by decide), upd_n (by decide)]; exact u1
      · rw [upd_n (by omega), upd_n (by omega), upd_n (by omega), upd_n (by omega)]; exact rk j hj
      · rw [upd_n (by decide), upd_n (by decide), upd_n (by decide)]; exact u3
      · rw [upd_n (by decide), upd_s]
      · rw [upd_n (by decide), upd_n (by decide), upd_n (by decide), upd_n (by decide)]; exact r7
      · rw [upd_n (by decide), upd_n (by decide), upd_s]
      · rw [upd_n (by decide), upd_s]
end TOK
