set_option maxRecDepth 100000 in
set_option maxHeartbeats 4000000 in
theorem w_X4_status_L31 {X : Cx} {l : Launch} {r : Int32} {σr : Mem} {res : Int32 × Mem} (hres : res = (r, σr)) (o : OK X cX4_status RX4 sdC 4 rm_X4_status l) (hr : RI X .int r σr)   : ∀ (n : Nat) (y2 : Int32) (y3 : Int32) (σ : Mem), f_X4_status_L31  n y2 y3 σ = some res → G X σ 31 [(0, .ref (eA (xE X) 0)), (2, .int y2), (3, .int y3)] [] := by
  intro n
  induction n with
  | zero => intro y2 y3 σ  h; cases h
  | succ n ih =>
    intro y2 y3 σ  h
    rw [f_X4_status_L31_s] at h
    refine g_iload_n o (q := 32) 2 rfl rfl dX4_status_31 rfl ?_
    refine g_bipush o (v := 7) (q := 34) (by decide) dX4_status_32 rfl ?_
    refine g_icmp_ge o (tgt := 52) (q := 37) dX4_status_34 (by decide) rfl h (fun h => ?_) (fun h => ?_)
    · refine g_iload_n o (q := 53) 1 rfl rfl dX4_status_52 rfl ?_
      exact g_iret o hr (h.trans (congrArg some hres)) rfl dX4_status_53
    · refine g_iload_n o (q := 38) 1 rfl rfl dX4_status_37 rfl ?_
      refine g_aload_n o (q := 39) 0 rfl rfl dX4_status_38 rfl ?_
      refine gf_X4_7 o (q := 42) kC_0 lk_X4_42 dX4_status_39 rfl ?_
      refine g_iload_n o (q := 43) 2 rfl rfl dX4_status_42 rfl ?_
      refine g_iald o (q := 44) kC_49 dX4_status_43 rfl h (fun j25 hjj25 h => ?_)
      refine g_iadd o (q := 45) dX4_status_44 rfl ?_
      refine g_istore_n o (q := 46) dX4_status_45 rfl rfl (by decide) h (fun x26 => [(2, .int x26), (0, .ref (eA (xE X) 0)), (3, .int y3)]) (fun _ => rfl) (fun x26 h => ?_)
      refine g_iinc o (q := 49) (dn := 1) dX4_status_46 rfl 2 rfl (by decide) (by decide) h (fun x27 => [(3, .int x27), (2, .int x26), (0, .ref (eA (xE X) 0))]) (fun _ => rfl) (fun x27 h => ?_)
      refine g_goto o (tgt := 31) dX4_status_49 (by decide) ?_
      refine g_sub (lv' := [(0, .ref (eA (xE X) 0)), (2, .int x26), (3, .int x27)]) [2, 1, 0] rfl ?_
      exact ih x26 x27 σ  h
set_option maxRecDepth 100000 in
set_option maxHeartbeats 4000000 in
theorem w_X4_status {X : Cx} {l : Launch} {r : Int32} {σr : Mem} {res : Int32 × Mem} (hres : res = (r, σr)) (o : OK X cX4_status RX4 sdC 4 rm_X4_status l) (hr : RI X .int r σr) (x1 : Int32)  {σ : Mem} (h : f_X4_status x1 σ = some res) : G X σ 0 [(0, .ref (eA (xE X) 0)), (1, .int x1)] [] := by
  unfold f_X4_status at h
  refine g_iload_n o (q := 1) 1 rfl rfl dX4_status_0 rfl ?_
  refine g_iconst o (v := (-1)) (q := 2) (by decide) dX4_status_1 rfl ?_
  refine g_bipush o (v := 6) (q := 4) (by decide) dX4_status_2 rfl ?_
  refine g_csi o (q := 7) (As := [.int x1, .int (-1), .int 6]) (rest := []) kv_X4_isWithin lk_X4_47 rfl (fun _ _ hc => c_X4_isWithin o.mk x1 (-1) 6 hc) dX4_status_4 rfl ⟨rfl, rfl, Nat.le_of_ble_eq_true rfl, Nat.le_of_ble_eq_true rfl⟩ (Nat.le_of_ble_eq_true rfl) rfl h (fun r22 σ21 h => ?_)
  refine g_if_ne o (tgt := 16) (q := 10) dX4_status_7 (by decide) rfl h (fun h => ?_) (fun h => ?_)
  · refine g_iload_n o (q := 17) 1 rfl rfl dX4_status_16 rfl ?_
    refine g_if_lt o (tgt := 27) (q := 20) dX4_status_17 (by decide) rfl h (fun h => ?_) (fun h => ?_)
    · refine g_iconst o (v := 0) (q := 28) (by decide) dX4_status_27 rfl ?_
      refine g_istore_n o (q := 29) dX4_status_28 rfl rfl (by decide) h (fun x23 => [(2, .int x23), (0, .ref (eA (xE X) 0)), (1, .int x1)]) (fun _ => rfl) (fun x23 h => ?_)
      refine g_iconst o (v := 0) (q := 30) (by decide) dX4_status_29 rfl ?_
      refine g_istore_n o (q := 31) dX4_status_30 rfl rfl (by decide) h (fun x24 => [(3, .int x24), (2, .int x23), (0, .ref (eA (xE X) 0)), (1, .int x1)]) (fun _ => rfl) (fun x24 h => ?_)
      refine g_sub (lv' := [(0, .ref (eA (xE X) 0)), (2, .int x23), (3, .int x24)]) [2, 1, 0] rfl ?_
      exact w_X4_status_L31 hres o hr  FU x23 x24 σ21  h
    · refine g_aload_n o (q := 21) 0 rfl rfl dX4_status_20 rfl ?_
      refine gf_X4_7 o (q := 24) kC_0 lk_X4_42 dX4_status_21 rfl ?_
      refine g_iload_n o (q := 25) 1 rfl rfl dX4_status_24 rfl ?_
      refine g_iald o (q := 26) kC_49 dX4_status_25 rfl h (fun j28 hjj28 h => ?_)
      exact g_iret o hr (h.trans (congrArg some hres)) rfl dX4_status_26
  · refine g_aload_n o (q := 11) 0 rfl rfl dX4_status_10 rfl ?_
    refine g_iconst o (v := 0) (q := 12) (by decide) dX4_status_11 rfl ?_
    refine g_cvi o (q := 15) (As := [.int 0]) (rest := []) kv_X4_find lk_X4_51 kC_0 (by decide) rfl rfl rfl (fun _ _ hc => c_X4_find o.mk 0 hc) dX4_status_12 rfl ⟨rfl, rfl, Nat.le_of_ble_eq_true rfl, Nat.le_of_ble_eq_true rfl⟩ (Nat.le_of_ble_eq_true rfl) rfl h (fun r30 σ29 h => ?_)
    exact g_iret o hr (h.trans (congrArg some hres)) rfl dX4_status_15
theorem c_X4_status {l : Launch} {E : En} {mk : Mem → Mem} (hmk : MK mk sdC) (x1 : Int32)  {σ : Mem} {r : Int32} {τ : Mem} (h : f_X4_status x1 σ = some (r, τ)) : Met l yX4_status (Cond.code yX4_status cX4_status 4 (some .int) :: wt) rm_X4_status (PW E mk [.ref (eA E 0), .int x1] σ) (QI E mk r τ) 0 0 (WA E) :=
  met_i (fun E => [.ref (eA E 0), .int x1]) (by decide) hmk (Nat.le_of_ble_eq_true rfl) (fun X o hr => w_X4_status rfl o hr x1  h)
