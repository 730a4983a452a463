theorem dJ3_checkIndex_8e157_0 : decode cJ3_checkIndex_8e157 0 = .ok (.iload_n 0, 1) := by decide +kernel
theorem dJ3_checkIndex_8e157_1 : decode cJ3_checkIndex_8e157 1 = .ok (.ifCond .lt 8, 3) := by decide +kernel
theorem dJ3_checkIndex_8e157_4 : decode cJ3_checkIndex_8e157 4 = .ok (.iload_n 0, 1) := by decide +kernel
theorem dJ3_checkIndex_8e157_5 : decode cJ3_checkIndex_8e157 5 = .ok (.iload_n 1, 1) := by decide +kernel
theorem dJ3_checkIndex_8e157_6 : decode cJ3_checkIndex_8e157 6 = .ok (.if_icmp .lt 10, 3) := by decide +kernel
theorem dJ3_checkIndex_8e157_16 : decode cJ3_checkIndex_8e157 16 = .ok (.iload_n 0, 1) := by decide +kernel
theorem dJ3_checkIndex_8e157_17 : decode cJ3_checkIndex_8e157 17 = .ok (.ireturn, 1) := by decide +kernel
/-! String.length and String.charAt of String constants, by the JDK's own code -/
section JSTR
variable {X : Cx} {l : Launch} {sd : Nat → Prop} {σ : Mem}
abbrev rm_00 : Room := { frames := 0, cells := 0, slots := 0, locals := 0 }
theorem w_J0_coder (o : OK X cJ0_coder_7d493 RJ0 sd 1 rm_00 l) (hr : RI X .byte 0 σ) {t : Nat} (ht : t < 14) : G X σ 0 [(0, .ref (eK (xE X) t))] [] := by
  refine g_comp o (q := 3) lk_J0_38 dJ0_coder_7d493_0 rfl ?_
  refine g_if_eq o (tgt := 13) (q := 6) (A := none) (B := some ((0 : Int32), σ)) (res := ((0 : Int32), σ)) dJ0_coder_7d493_3 (by decide) rfl rfl (fun h => by cases h) (fun _ => ?_)
  refine g_aload_n o (q := 7) 0 rfl rfl dJ0_coder_7d493_6 rfl ?_
  refine g_scod o (q := 10) ht lk_J0_15 dJ0_coder_7d493_7 rfl ?_
  refine g_goto o (tgt := 14) dJ0_coder_7d493_10 (by decide) ?_
  exact g_iret o hr rfl rfl dJ0_coder_7d493_14
theorem c_J0_coder {E : En} {mk : Mem → Mem} (hmk : MK mk sd) (t : Nat) (ht : t < 14) : Met l yJ0_coder_7d493 (Cond.code yJ0_coder_7d493 cJ0_coder_7d493 1 (some .byte) :: wt) rm_00 (PW E mk [.ref (eK E t)] σ) (QI E mk 0 σ) 0 0 (WA E) :=
  met_i (fun E => [.ref (eK E t)]) (by decide) hmk (Nat.le_of_ble_eq_true rfl) (fun X o hr => w_J0_coder o hr ht)
theorem w_J0_isLatin1 (o : OK X cJ0_isLatin1_aae02 RJ0 sd 1 rm_00 l) (hr : RI X .boolean 1 σ) {t : Nat} (ht : t < 14) : G X σ 0 [(0, .ref (eK (xE X) t))] [] := by
  refine g_comp o (q := 3) lk_J0_38 dJ0_isLatin1_aae02_0 rfl ?_
  refine g_if_eq o (tgt := 17) (q := 6) (A := none) (B := some ((1 : Int32), σ)) (res := ((1 : Int32), σ)) dJ0_isLatin1_aae02_3 (by decide) rfl rfl (fun h => by cases h) (fun _ => ?_)
  refine g_aload_n o (q := 7) 0 rfl rfl dJ0_isLatin1_aae02_6 rfl ?_
  refine g_scod o (q := 10) ht lk_J0_15 dJ0_isLatin1_aae02_7 rfl ?_
  refine g_if_ne o (tgt := 17) (q := 13) (A := none) (B := some ((1 : Int32), σ)) (res := ((1 : Int32), σ)) dJ0_isLatin1_aae02_10 (by decide) rfl rfl (fun h => by cases h) (fun _ => ?_)
  refine g_iconst o (v := 1) (q := 14) (by decide) dJ0_isLatin1_aae02_13 rfl ?_
  refine g_goto o (tgt := 18) dJ0_isLatin1_aae02_14 (by decide) ?_
  exact g_iret o hr rfl (by decide) dJ0_isLatin1_aae02_18
theorem c_J0_isLatin1 {E : En} {mk : Mem → Mem} (hmk : MK mk sd) (t : Nat) (ht : t < 14) : Met l yJ0_isLatin1_aae02 (Cond.code yJ0_isLatin1_aae02 cJ0_isLatin1_aae02 1 (some .boolean) :: wt) rm_00 (PW E mk [.ref (eK E t)] σ) (QI E mk 1 σ) 0 0 (WA E) :=
  met_i (fun E => [.ref (eK E t)]) (by decide) hmk (Nat.le_of_ble_eq_true rfl) (fun X o hr => w_J0_isLatin1 o hr ht)
theorem vC1 {α β : Type} {a : α} {σ : Mem} {K : α → Mem → Option β} {r : β} (h : K a σ = some r) : vC (some (a, σ)) K = some r := h
theorem w_J0_length (o : OK X cJ0_length_8abf5 RJ0 sd 1 rm_J0_length_8abf5 l) {t : Nat} (ht : t < 14) (hr : RI X .int (Int32.ofNat (kLen.getD t 0)) σ) : G X σ 0 [(0, .ref (eK (xE X) t))] [] := by
  refine g_aload_n o (q := 1) 0 rfl rfl dJ0_length_8abf5_0 rfl ?_
  refine g_sval o (q := 4) ht lk_J0_9 dJ0_length_8abf5_1 rfl ?_
  refine g_slen o (q := 5) ht dJ0_length_8abf5_4 rfl ?_
  refine g_aload_n o (q := 6) 0 rfl rfl dJ0_length_8abf5_5 rfl ?_
  refine g_cst o (q := 9) (As := []) (rest := [.int (Int32.ofNat (kLen.getD t 0))]) (f := some ((0 : Int32), σ)) (K := fun r τ => if r = 0 then some ((), τ) else none) (res := ((), σ)) kv_J0_coder_7d493 lk_J0_335 ht rfl rfl (fun r τ h => by cases h; exact c_J0_coder o.mk t ht) dJ0_length_8abf5_6 rfl ⟨rfl, rfl, Nat.le_of_ble_eq_true rfl, Nat.le_of_ble_eq_true rfl⟩ (Nat.le_of_ble_eq_true rfl) rfl rfl (fun r τ h => ?_)
  split at h
  · rename_i c
    cases h
    subst c
    refine g_ishr o (q := 10) dJ0_length_8abf5_9 rfl ?_
    exact g_iret o hr (congrArg (fun z => some (z, σ)) (sb_shr0 _)) rfl dJ0_length_8abf5_10
  · cases h
theorem c_J0_length_8abf5 {E : En} {mk : Mem → Mem} (hmk : MK mk sd) (a0 : Nat) (h0 : a0 < 14) {r : Int32} {τ : Mem} (h : f_J0_length_8abf5 a0 σ = some (r, τ)) : Met l yJ0_length_8abf5 (Cond.code yJ0_length_8abf5 cJ0_length_8abf5 1 (some .int) :: wt) rm_J0_length_8abf5 (PW E mk [.ref (eK E a0)] σ) (QI E mk r τ) 0 0 (WA E) := by
  cases h
  exact met_i (fun E => [.ref (eK E a0)]) (by decide) hmk (Nat.le_of_ble_eq_true rfl) (fun X o hr => w_J0_length o h0 hr)
theorem w_J3_checkIndex (o : OK X cJ3_checkIndex_8e157 RJ3 sd 3 rm_00 l) {x y : Int32} {v : Value} (h1 : ¬ x < 0) (h2 : x < y) (hr : RI X .int x σ) : G X σ 0 [(0, .int x), (1, .int y), (2, v)] [] := by
  refine g_iload_n o (q := 1) 0 rfl rfl dJ3_checkIndex_8e157_0 rfl ?_
  refine g_if_lt o (tgt := 9) (q := 4) (A := none) (B := some ()) (res := ()) dJ3_checkIndex_8e157_1 (by decide) rfl (if_neg h1) (fun h => by cases h) (fun _ => ?_)
  refine g_iload_n o (q := 5) 0 rfl rfl dJ3_checkIndex_8e157_4 rfl ?_
  refine g_iload_n o (q := 6) 1 rfl rfl dJ3_checkIndex_8e157_5 rfl ?_
  refine g_icmp_lt o (tgt := 16) (q := 9) (A := some ()) (B := none) (res := ()) dJ3_checkIndex_8e157_6 (by decide) rfl (if_pos h2) (fun _ => ?_) (fun h => by cases h)
  refine g_iload_n o (q := 17) 0 rfl rfl dJ3_checkIndex_8e157_16 rfl ?_
  exact g_iret o hr rfl rfl dJ3_checkIndex_8e157_17
theorem c_J3_checkIndex {E : En} {mk : Mem → Mem} (hmk : MK mk sd) {x y : Int32} {v : Value} (hv : v = .null ∨ ∃ t, v = .ref t) (h1 : ¬ x < 0) (h2 : x < y) : Met l yJ3_checkIndex_8e157 (Cond.code yJ3_checkIndex_8e157 cJ3_checkIndex_8e157 3 (some .int) :: wt) rm_00 (PW E mk [.int x, .int y, v] σ) (QI E mk x σ) 0 0 (WA E) := by
  rcases hv with rfl | ⟨t, rfl⟩
  · exact met_i (fun E => [.int x, .int y, .null]) (by decide) hmk (Nat.le_of_ble_eq_true rfl) (fun X o hr => w_J3_checkIndex o h1 h2 hr)
  · exact met_i (fun E => [.int x, .int y, .ref t]) (by decide) hmk (Nat.le_of_ble_eq_true rfl) (fun X o hr => w_J3_checkIndex o h1 h2 hr)
abbrev rm_J0_checkIndex : Room := { frames := 1, cells := 0, slots := 0, locals := 22 }
theorem w_J0_checkIndex (o : OK X cJ0_checkIndex_df160 RJ0 sd 2 rm_J0_checkIndex l) {x y : Int32} (h1 : ¬ x < 0) (h2 : x < y) (hr : RV X σ) : G X σ 0 [(0, .int x), (1, .int y)] [] := by
  refine g_iload_n o (q := 1) 0 rfl rfl dJ0_checkIndex_df160_0 rfl ?_
  refine g_iload_n o (q := 2) 1 rfl rfl dJ0_checkIndex_df160_1 rfl ?_
  refine g_sioo o (q := 5) lk_J0_1053 dJ0_checkIndex_df160_2 rfl (fun v hv => ?_)
  refine g_csi o (q := 8) (As := [.int x, .int y, v]) (rest := []) (f := some (x, σ)) (K := fun _ τ => some ((), τ)) (res := ((), σ)) kv_J3_checkIndex_8e157 lk_J0_1059 rfl (fun r τ h => by cases h; exact c_J3_checkIndex o.mk hv h1 h2) dJ0_checkIndex_df160_5 rfl ⟨rfl, rfl, Nat.le_of_ble_eq_true rfl, Nat.le_of_ble_eq_true rfl⟩ (Nat.le_of_ble_eq_true rfl) rfl rfl (fun r τ h => ?_)
  cases h
  refine g_pop o (q := 9) rfl dJ0_checkIndex_df160_8 rfl ?_
  exact g_vret o (u := ()) hr rfl dJ0_checkIndex_df160_9
theorem c_J0_checkIndex {E : En} {mk : Mem → Mem} (hmk : MK mk sd) {x y : Int32} (h1 : ¬ x < 0) (h2 : x < y) : Met l yJ0_checkIndex_df160 (Cond.code yJ0_checkIndex_df160 cJ0_checkIndex_df160 2 none :: wt) rm_J0_checkIndex (PW E mk [.int x, .int y] σ) (QV E mk σ) 0 0 (WA E) :=
  met_v (fun E => [.int x, .int y]) (by decide) hmk (Nat.le_of_ble_eq_true rfl) (fun X o hr => w_J0_checkIndex o h1 h2 hr)
abbrev rm_J1_charAt : Room := { frames := 2, cells := 0, slots := 0, locals := 43 }
theorem w_J1_charAt (o : OK X cJ1_charAt_3b067 RJ1 sd 2 rm_J1_charAt l) {t : Nat} (ht : t < 14) {x : Int32} (h : vp_in x (kLen.getD t 0)) (h2 : x < Int32.ofNat (kLen.getD t 0)) (hr : RI X .char (((kByt.getD t []).getD x.toNatClampNeg 0 &&& 255).toUInt32 % 65536).toInt32 σ) : G X σ 0 [(0, .ref (eV (xE X) t)), (1, .int x)] [] := by
  have h1 : ¬ x < 0 := fun c => h (Or.inl c)
  refine g_iload_n o (q := 1) 1 rfl rfl dJ1_charAt_3b067_0 rfl ?_
  refine g_aload_n o (q := 2) 0 rfl rfl dJ1_charAt_3b067_1 rfl ?_
  refine g_slen o (q := 3) ht dJ1_charAt_3b067_2 rfl ?_
  refine g_csv o (q := 6) (As := [.int x, .int (Int32.ofNat (kLen.getD t 0))]) (rest := []) (f := some ((), σ)) (K := fun _ τ => some ((), τ)) (res := ((), σ)) kv_J0_checkIndex_df160 lk_J1_9 rfl (fun r τ h => by cases h; exact c_J0_checkIndex o.mk h1 h2) dJ1_charAt_3b067_3 rfl ⟨rfl, rfl, Nat.le_of_ble_eq_true rfl, Nat.le_of_ble_eq_true rfl⟩ (Nat.le_of_ble_eq_true rfl) rfl rfl (fun r τ h => ?_)
  cases h
  refine g_aload_n o (q := 7) 0 rfl rfl dJ1_charAt_3b067_6 rfl ?_
  refine g_iload_n o (q := 8) 1 rfl rfl dJ1_charAt_3b067_7 rfl ?_
  refine g_sbld o (q := 9) ht (by assumption) dJ1_charAt_3b067_8 rfl ?_
  refine g_sipush o (v := 255) (q := 12) (by decide) dJ1_charAt_3b067_9 rfl ?_
  refine g_iand o (q := 13) dJ1_charAt_3b067_12 rfl ?_
  refine g_i2c o (q := 14) dJ1_charAt_3b067_13 rfl ?_
  exact g_iret o hr rfl (pk_nc _) dJ1_charAt_3b067_14
theorem c_J1_charAt {E : En} {mk : Mem → Mem} (hmk : MK mk sd) {t : Nat} (ht : t < 14) {x : Int32} (h : vp_in x (kLen.getD t 0)) (h2 : x < Int32.ofNat (kLen.getD t 0)) : Met l yJ1_charAt_3b067 (Cond.code yJ1_charAt_3b067 cJ1_charAt_3b067 2 (some .char) :: wt) rm_J1_charAt (PW E mk [.ref (eV E t), .int x] σ) (QI E mk (((kByt.getD t []).getD x.toNatClampNeg 0 &&& 255).toUInt32 % 65536).toInt32 σ) 0 0 (WA E) :=
  met_i (fun E => [.ref (eV E t), .int x]) (by decide) hmk (Nat.le_of_ble_eq_true rfl) (fun X o hr => w_J1_charAt o ht h h2 hr)
theorem kLen_lt : ∀ t, t < 14 → kLen.getD t 0 < 100 := by decide
theorem w_J0_charAt (o : OK X cJ0_charAt_5068e RJ0 sd 2 rm_J0_charAt_5068e l) {t : Nat} (ht : t < 14) {x : Int32} (h : vp_in x (kLen.getD t 0)) (hr : RI X .char (((kByt.getD t []).getD x.toNatClampNeg 0 &&& 255).toUInt32 % 65536).toInt32 σ) : G X σ 0 [(0, .ref (eK (xE X) t)), (1, .int x)] [] := by
  have h2 : x < Int32.ofNat (kLen.getD t 0) := by
    have hk := kLen_lt t ht
    obtain ⟨j, hj, rfl⟩ := vp_in_of h (by omega)
    exact nI_lt hj (by omega)
  refine g_aload_n o (q := 1) 0 rfl rfl dJ0_charAt_5068e_0 rfl ?_
  refine g_cst o (q := 4) (As := []) (rest := []) (f := some ((1 : Int32), σ)) (K := fun r τ => if r = 1 then some ((), τ) else none) (res := ((), σ)) kv_J0_isLatin1_aae02 lk_J0_492 ht rfl rfl (fun r τ h => by cases h; exact c_J0_isLatin1 o.mk t ht) dJ0_charAt_5068e_1 rfl ⟨rfl, rfl, Nat.le_of_ble_eq_true rfl, Nat.le_of_ble_eq_true rfl⟩ (Nat.le_of_ble_eq_true rfl) rfl rfl (fun r τ hh => ?_)
  split at hh
  · rename_i c
    cases hh
    subst c
    refine g_if_eq o (tgt := 16) (q := 7) (A := none) (B := some ()) (res := ()) dJ0_charAt_5068e_4 (by decide) rfl rfl (fun h => by cases h) (fun _ => ?_)
    refine g_aload_n o (q := 8) 0 rfl rfl dJ0_charAt_5068e_7 rfl ?_
    refine g_sval o (q := 11) ht lk_J0_9 dJ0_charAt_5068e_8 rfl ?_
    refine g_iload_n o (q := 12) 1 rfl rfl dJ0_charAt_5068e_11 rfl ?_
    refine g_csi o (q := 15) (As := [.ref (eV (xE X) t), .int x]) (rest := []) (f := some ((((kByt.getD t []).getD x.toNatClampNeg 0 &&& 255).toUInt32 % 65536).toInt32, σ)) (K := fun r τ => some (r, τ)) (res := ((((kByt.getD t []).getD x.toNatClampNeg 0 &&& 255).toUInt32 % 65536).toInt32, σ)) kv_J1_charAt_3b067 lk_J0_495 rfl (fun r τ hh => by cases hh; exact c_J1_charAt o.mk ht h h2) dJ0_charAt_5068e_12 rfl ⟨rfl, rfl, Nat.le_of_ble_eq_true rfl, Nat.le_of_ble_eq_true rfl⟩ (Nat.le_of_ble_eq_true rfl) rfl rfl (fun r τ hh => ?_)
    cases hh
    exact g_iret o hr rfl (pk_nc _) dJ0_charAt_5068e_15
  · cases hh
theorem c_J0_charAt_5068e {E : En} {mk : Mem → Mem} (hmk : MK mk sd) (a0 : Nat) (x1 : Int32) (h0 : a0 < 14) {r : Int32} {τ : Mem} (h : f_J0_charAt_5068e a0 x1 σ = some (r, τ)) : Met l yJ0_charAt_5068e (Cond.code yJ0_charAt_5068e cJ0_charAt_5068e 2 (some .char) :: wt) rm_J0_charAt_5068e (PW E mk [.ref (eK E a0), .int x1] σ) (QI E mk r τ) 0 0 (WA E) := by
  unfold f_J0_charAt_5068e at h
  obtain ⟨h1, h2, h3⟩ := vI_some h
  cases h3
  exact met_i (fun E => [.ref (eK E a0), .int x1]) (by decide) hmk (Nat.le_of_ble_eq_true rfl) (fun X o hr => w_J0_charAt o h0 h1 hr)
end JSTR
