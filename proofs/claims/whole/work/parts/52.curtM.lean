/-! THE REFERENCE's curtain: the same, in its row of numbers -/
def bl : Nat → Int32 → Int32 → Option Int32
  | 0 => fun _ _ => none
  | n + 1 => fun y1 y2 => if y2 = 0 then some y1 else bl n (y1 + 1) (y2 &&& (y2 - 1))
theorem bl_L {μ : Mem} : ∀ (n : Nat) (y1 y2 : Int32), f_X5_bits_L4 n y1 y2 μ = (bl n y1 y2).map (fun v => (v, μ)) := by
  intro n
  induction n with
  | zero => intro y1 y2; rfl
  | succ n ih =>
    intro y1 y2
    rw [f_X5_bits_L4_s]
    show _ = (if y2 = 0 then some y1 else bl n (y1 + 1) (y2 &&& (y2 - 1))).map _
    split
    · rfl
    · exact ih _ _
theorem bl_more : ∀ (n m : Nat) (y1 y2 v : Int32), bl n y1 y2 = some v → bl (n + m) y1 y2 = some v := by
  intro n
  induction n with
  | zero => intro m y1 y2 v h; cases h
  | succ n ih =>
    intro m y1 y2 v h
    rw [show n + 1 + m = (n + m) + 1 by omega]
    change (if y2 = 0 then some y1 else bl n (y1 + 1) (y2 &&& (y2 - 1))) = some v at h
    show (if y2 = 0 then some y1 else bl (n + m) (y1 + 1) (y2 &&& (y2 - 1))) = some v
    split at h
    · rename_i c; rw [if_pos c]; exact h
    · rename_i c; rw [if_neg c]; exact ih m _ _ _ h
set_option maxRecDepth 100000 in
theorem bl_tab : ∀ k, k < 4096 → bl 14 0 (nI k) = some (bitc (nI k)) := by decide +kernel
theorem bitc_M {x : Int32} {μ : Mem} (h : rg x 4095) : f_X5_bits x μ = some (bitc x, μ) := by
  obtain ⟨k, hk, rfl⟩ := h
  unfold f_X5_bits
  rw [vL_e, vL_e, bl_L]
  have h1 := bl_more 14 9986 _ _ _ (bl_tab k (by omega))
  rw [show FU = 14 + 9986 from rfl, h1]
  rfl
def cur (N : Nat → Int32) (i : Nat) : Nat → Int32 := fun f => N (22 + 6 * i + f)
section CUM
variable {μ : Mem} {i : Nat} {S : Int32}
theorem cAt {f : Nat} {x2 : Int32} (hf : x2 = nI f) : f_X5_curtainAt (nI i) x2 μ = some (nI (22 + 6 * i + f), μ) := by
  subst hf
  unfold f_X5_curtainAt
  rw [show (22 : Int32) = nI 22 from rfl, show (6 : Int32) = nI 6 from rfl, pk_mul, nI_add, nI_add]
theorem cIs {f : Nat} {x2 : Int32} (hf : x2 = nI f) (h : 22 + 6 * i + f < 70) : f_X5_curtainIs (nI i) x2 μ = some (cur (μ 51) i f, μ) := by
  unfold f_X5_curtainIs
  rw [cAt hf, vC_s, vI_at rfl h (by decide)]
  rfl
theorem cAt0 : f_X5_curtainAt (nI i) 0 μ = some (nI (22 + 6 * i + 0), μ) := cAt rfl
theorem cAt1 : f_X5_curtainAt (nI i) 1 μ = some (nI (22 + 6 * i + 1), μ) := cAt rfl
theorem cAt2 : f_X5_curtainAt (nI i) 2 μ = some (nI (22 + 6 * i + 2), μ) := cAt rfl
theorem cAt3 : f_X5_curtainAt (nI i) 3 μ = some (nI (22 + 6 * i + 3), μ) := cAt rfl
theorem cAt4 : f_X5_curtainAt (nI i) 4 μ = some (nI (22 + 6 * i + 4), μ) := cAt rfl
theorem cAt5 : f_X5_curtainAt (nI i) 5 μ = some (nI (22 + 6 * i + 5), μ) := cAt rfl
theorem cIs0 (h : i < 8) : f_X5_curtainIs (nI i) 0 μ = some (cur (μ 51) i 0, μ) := cIs rfl (by omega)
theorem cIs1 (h : i < 8) : f_X5_curtainIs (nI i) 1 μ = some (cur (μ 51) i 1, μ) := cIs rfl (by omega)
theorem cIs2 (h : i < 8) : f_X5_curtainIs (nI i) 2 μ = some (cur (μ 51) i 2, μ) := cIs rfl (by omega)
theorem cIs3 (h : i < 8) : f_X5_curtainIs (nI i) 3 μ = some (cur (μ 51) i 3, μ) := cIs rfl (by omega)
theorem cIs4 (h : i < 8) : f_X5_curtainIs (nI i) 4 μ = some (cur (μ 51) i 4, μ) := cIs rfl (by omega)
theorem cIs5 (h : i < 8) : f_X5_curtainIs (nI i) 5 μ = some (cur (μ 51) i 5, μ) := cIs rfl (by omega)
theorem rg6 {x : Int32} (h : rg x 6) : x = 0 ∨ x = 1 ∨ x = 2 ∨ x = 3 ∨ x = 4 ∨ x = 5 ∨ x = 6 := by
  obtain ⟨k, hk, rfl⟩ := h
  rcases (show k = 0 ∨ k = 1 ∨ k = 2 ∨ k = 3 ∨ k = 4 ∨ k = 5 ∨ k = 6 by omega) with rfl | rfl | rfl | rfl | rfl | rfl | rfl <;> decide
theorem gla_M (h : i < 8) (hk : rg (cur (μ 51) i 0) 6) (hl : rg (cur (μ 51) i 2) 4095) : f_X5_gladdens (nI i) μ = some (gla (cur (μ 51) i), μ) := by
  unfold f_X5_gladdens gla
  rw [cIs0 h, vC_s, cIs2 h, vC_s, bitc_M hl, vC_s]
  rcases rg6 hk with e | e | e | e | e | e | e <;> rw [e] <;> rfl
theorem tir_M (h : i < 8) (hk : rg (cur (μ 51) i 0) 6) : f_X5_tires (nI i) S μ = some (tir (cur (μ 51) i) S, μ) := by
  unfold f_X5_tires tir
  rw [cIs0 h, vC_s, cIs3 h, vC_s]
  rcases rg6 hk with e | e | e | e | e | e | e <;> rw [e]
  · rfl
  · rfl
  · rfl
  · rfl
  · rfl
  · rfl
  · by_cases h3 : cur (μ 51) i 3 = 0
    · rw [h3]; rfl
    · simp only [h3]; rfl
theorem bea_M (h : i < 8) (hk : rg (cur (μ 51) i 0) 6) : f_X5_bears (nI i) μ = some (bea (cur (μ 51) i), μ) := by
  unfold f_X5_bears bea
  rw [cIs0 h, vC_s]
  rcases rg6 hk with e | e | e | e | e | e | e <;> rw [e] <;> rfl
theorem ris_M (h : i < 8) (hk : rg (cur (μ 51) i 0) 6) : f_X5_rises (nI i) μ = some (ris (cur (μ 51) i), μ) := by
  unfold f_X5_rises ris
  rw [cIs0 h, vC_s]
  rcases rg6 hk with e | e | e | e | e | e | e <;> rw [e] <;> rfl
theorem fal_M (h : i < 8) (hk : rg (cur (μ 51) i 0) 6) : f_X5_falls (nI i) μ = some (fal (cur (μ 51) i) (μ 51 3), μ) := by
  unfold f_X5_falls fal
  rw [cIs0 h, vC_s, vI_at (x := 3) (j := 3) rfl (by decide) (by decide)]
  rcases rg6 hk with e | e | e | e | e | e | e <;> rw [e]
  · rfl
  · rfl
  · rfl
  · rfl
  · rfl
  · rfl
  · by_cases h3 : μ 51 3 = 1
    · rw [h3]; rfl
    · simp only [h3]; rfl
theorem more_M {p : Nat} {x1 x2 x3 : Int32} (hx : x1 = nI p) (h : p < 70) : f_X5_more x1 x2 x3 μ = some ((), setr μ 51 (upd (μ 51) p (if μ 51 p + x2 < x3 then μ 51 p + x2 else x3))) := by
  unfold f_X5_more
  rw [vI_at hx h (by decide), vI_at hx h (by decide)]
  rfl
theorem less_M {p : Nat} {x1 x2 : Int32} (hx : x1 = nI p) (h : p < 70) : f_X5_less x1 x2 μ = some ((), setr μ 51 (upd (μ 51) p (if 0 < μ 51 p - x2 then μ 51 p - x2 else 0))) := by
  unfold f_X5_less
  rw [vI_at hx h (by decide), vI_at hx h (by decide)]
  rfl
end CUM
