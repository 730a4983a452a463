/-! PURE ROWS: small laws of the words of the pure functions -/
theorem vI_at {β : Type} {n j : Nat} {x : Int32} {K : Nat → Option β} (hx : x = nI j) (h : j < n) (hn : n < 2 ^ 31) : vI n x K = K j := by
  subst hx
  unfold vI
  rw [if_pos (nI_in h hn), nI_clamp (by omega)]
theorem vC_s {α β : Type} {a : α} {σ : Mem} {K : α → Mem → Option β} : vC (some (a, σ)) K = K a σ := rfl
theorem vL_e {α β : Type} {a : α} {K : α → β} : vL a K = K a := rfl
theorem vW_e {β : Type} {σ : Mem} {i k : Nat} {v : Int32} {K : Mem → β} : vW σ i k v K = K (up2 σ i k v) := rfl
theorem up2_s {σ : Mem} {i k : Nat} {v : Int32} : up2 σ i k v i = upd (σ i) k v := setr_same
theorem up2_n {σ : Mem} {i k a : Nat} {v : Int32} (h : a ≠ i) : up2 σ i k v a = σ a := setr_ne h
theorem upd_s {f : Nat → Int32} {k : Nat} {v : Int32} : upd f k v k = v := by simp [upd]
theorem upd_n {f : Nat → Int32} {k j : Nat} {v : Int32} (h : j ≠ k) : upd f k v j = f j := by simp [upd, h]
theorem setr_setr {σ : Mem} {i : Nat} {r r' : Nat → Int32} : setr (setr σ i r) i r' = setr σ i r' := by
  funext a
  simp only [setr]
  split <;> rfl
theorem setr_self {σ : Mem} {i : Nat} : setr σ i (σ i) = σ := by
  funext a
  simp only [setr]
  split
  · rename_i h; rw [h]
  · rfl
theorem up2_setr {σ : Mem} {i k : Nat} {r : Nat → Int32} {v : Int32} : up2 (setr σ i r) i k v = setr σ i (upd r k v) := by
  unfold up2
  rw [setr_same, setr_setr]
theorem up2_e {σ : Mem} {i k : Nat} {v : Int32} : up2 σ i k v = setr σ i (upd (σ i) k v) := rfl
theorem FU_gt {n : Nat} (h : n < 10000) : n < FU := h
/-- a number between 0 and m -/
def rg (x : Int32) (m : Nat) : Prop := ∃ k : Nat, k ≤ m ∧ x = nI k
theorem rg_lit (k : Nat) {m : Nat} (h : k ≤ m) : rg (nI k) m := ⟨k, h, rfl⟩
theorem rg_mono {x : Int32} {a b : Nat} (h : rg x a) (hab : a ≤ b) : rg x b := by
  obtain ⟨k, hk, rfl⟩ := h
  exact ⟨k, by omega, rfl⟩
theorem rg_iff {x : Int32} {m : Nat} (hm : m < 2 ^ 31) : rg x m ↔ ¬ x < 0 ∧ ¬ nI m < x := by
  constructor
  · rintro ⟨k, hk, rfl⟩
    exact ⟨nI_pos (by omega), nI_nlt hk hm⟩
  · rintro ⟨h1, h2⟩
    obtain ⟨j, hj, rfl⟩ := nI_of h1
    refine ⟨j, ?_, rfl⟩
    rcases Nat.lt_or_ge m j with q | q
    · exact absurd (nI_lt q hj) h2
    · exact q
/-- isWithin, within: 1 or 0 -/
theorem within_C {x0 x1 x2 : Int32} {σ : Mem} : f_X4_isWithin x0 x1 x2 σ = some (if ¬ x0 < x1 ∧ ¬ x2 < x0 then 1 else 0, σ) := by
  unfold f_X4_isWithin
  by_cases h1 : x0 < x1 <;> by_cases h2 : x2 < x0 <;> simp [h1, h2]
theorem within_M {x0 x1 x2 : Int32} {σ : Mem} : f_X5_within x0 x1 x2 σ = some (if ¬ x0 < x1 ∧ ¬ x2 < x0 then 1 else 0, σ) := by
  unfold f_X5_within
  by_cases h1 : x0 < x1 <;> by_cases h2 : x2 < x0 <;> simp [h1, h2]
