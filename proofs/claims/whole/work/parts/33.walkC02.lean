set_option maxRecDepth 100000 in
set_option maxHeartbeats 4000000 in
theorem w_X4_please_J42 {X : Cx} {l : Launch} {r : Int32} {σr : Mem} {res : Int32 × Mem} (hres : res = (r, σr)) (o : OK X cX4_please RX4 sdC 5 rm_X4_please l) (hr : RI X .int r σr) {k7 : Int32 → Int32 → Int32 → Mem → Option (Int32 × Mem)} (hk7 : ∀ (y1 : Int32) (y2 : Int32) (y3 : Int32) (σ : Mem), k7 y1 y2 y3 σ = some res → G X σ 7 [(0, .ref (eA (xE X) 0)), (1, .int y1), (2, .int y2), (3, .int y3)] []) {y1 : Int32} {y2 : Int32} {y3 : Int32}  {σ : Mem} (h : f_X4_please_J42 k7 y1 y2 y3 σ = some res) : G X σ 42 [(0, .ref (eA (xE X) 0)), (1, .int y1), (2, .int y2), (3, .int y3)] [] := by
  unfold f_X4_please_J42 at h
  refine g_iinc o (q := 45) (dn := 1) dX4_please_42 rfl 3 rfl (by decide) (by decide) h (fun x27 => [(3, .int x27), (0, .ref (eA (xE X) 0)), (1, .int y1), (2, .int y2)]) (fun _ => rfl) (fun x27 h => ?_)
  refine g_goto o (tgt := 7) dX4_please_45 (by decide) ?_
  refine g_sub (lv' := [(0, .ref (eA (xE X) 0)), (1, .int y1), (2, .int y2), (3, .int x27)]) [1, 2, 3, 0] rfl ?_
  exact hk7 y1 y2 x27 σ  h
set_option maxRecDepth 100000 in
set_option maxHeartbeats 4000000 in
theorem w_X4_please_L7 {X : Cx} {l : Launch} {r : Int32} {σr : Mem} {res : Int32 × Mem} (hres : res = (r, σr)) (o : OK X cX4_please RX4 sdC 5 rm_X4_please l) (hr : RI X .int r σr)   : ∀ (n : Nat) (y1 : Int32) (y2 : Int32) (y3 : Int32) (σ : Mem), f_X4_please_L7  n y1 y2 y3 σ = some res → G X σ 7 [(0, .ref (eA (xE X) 0)), (1, .int y1), (2, .int y2), (3, .int y3)] [] := by
  intro n
  induction n with
  | zero => intro y1 y2 y3 σ  h; cases h
  | succ n ih =>
    intro y1 y2 y3 σ  h
    rw [f_X4_please_L7_s] at h
    refine g_iload_n o (q := 8) 3 rfl rfl dX4_please_7 rfl ?_
    refine g_sipush o (v := 4095) (q := 11) (by decide) dX4_please_8 rfl ?_
    refine g_icmp_gt o (tgt := 48) (q := 14) dX4_please_11 (by decide) rfl h (fun h => ?_) (fun h => ?_)
    · refine g_iload_n o (q := 49) 1 rfl rfl dX4_please_48 rfl ?_
      exact g_iret o hr (h.trans (congrArg some hres)) rfl dX4_please_49
    · refine g_iload_n o (q := 15) 3 rfl rfl dX4_please_14 rfl ?_
      refine g_csi o (q := 18) (As := [.int y3]) (rest := []) kv_J6_bitCount_0f7a4 lk_X4_167 rfl (fun _ _ hc => c_J6_bitCount_0f7a4 o.mk y3 hc) dX4_please_15 rfl ⟨rfl, rfl, Nat.le_of_ble_eq_true rfl, Nat.le_of_ble_eq_true rfl⟩ (Nat.le_of_ble_eq_true rfl) rfl h (fun r25 σ24 h => ?_)
      refine g_istore o (q := 20) dX4_please_18 rfl (by decide) h (fun x26 => [(4, .int x26), (0, .ref (eA (xE X) 0)), (1, .int y1), (2, .int y2), (3, .int y3)]) (fun _ => rfl) (fun x26 h => ?_)
      refine g_iload o (q := 22) 0 rfl dX4_please_20 rfl ?_
      refine g_iload_n o (q := 23) 3 rfl rfl dX4_please_22 rfl ?_
      refine g_icmp_ge o (tgt := 42) (q := 26) dX4_please_23 (by decide) rfl h (fun h => ?_) (fun h => ?_)
      · refine g_sub (lv' := [(0, .ref (eA (xE X) 0)), (1, .int y1), (2, .int y2), (3, .int y3)]) [1, 2, 3, 4] rfl ?_
        exact w_X4_please_J42 hres o hr ih  h
      · refine g_aload_n o (q := 27) 1 rfl rfl dX4_please_26 rfl ?_
        refine gf_X4_0 o (q := 30) kC_0 lk_X4_10 dX4_please_27 rfl ?_
        refine g_iload_n o (q := 31) 4 rfl rfl dX4_please_30 rfl ?_
        refine g_cvi o (q := 34) (As := [.int y3]) (rest := []) kv_X1_isPleasedBy lk_X4_172 kC_1 (by decide) rfl rfl rfl (fun _ _ hc => c_X1_isPleasedBy o.mk 1 y3 kC_1 hc) dX4_please_31 rfl ⟨rfl, rfl, Nat.le_of_ble_eq_true rfl, Nat.le_of_ble_eq_true rfl⟩ (Nat.le_of_ble_eq_true rfl) rfl h (fun r29 σ28 h => ?_)
        refine g_if_eq o (tgt := 42) (q := 37) dX4_please_34 (by decide) rfl h (fun h => ?_) (fun h => ?_)
        · refine g_sub (lv' := [(0, .ref (eA (xE X) 0)), (1, .int y1), (2, .int y2), (3, .int y3)]) [1, 2, 3, 4] rfl ?_
          exact w_X4_please_J42 hres o hr ih  h
        · refine g_iload o (q := 39) 0 rfl dX4_please_37 rfl ?_
          refine g_istore_n o (q := 40) dX4_please_39 rfl rfl (by decide) h (fun x30 => [(2, .int x30), (4, .int x26), (0, .ref (eA (xE X) 0)), (1, .int y1), (3, .int y3)]) (fun _ => rfl) (fun x30 h => ?_)
          refine g_iload_n o (q := 41) 4 rfl rfl dX4_please_40 rfl ?_
          refine g_istore_n o (q := 42) dX4_please_41 rfl rfl (by decide) h (fun x31 => [(1, .int x31), (2, .int x30), (4, .int x26), (0, .ref (eA (xE X) 0)), (3, .int y3)]) (fun _ => rfl) (fun x31 h => ?_)
          refine g_sub (lv' := [(0, .ref (eA (xE X) 0)), (1, .int x31), (2, .int x30), (3, .int y3)]) [3, 0, 1, 4] rfl ?_
          exact w_X4_please_J42 hres o hr ih  h
set_option maxRecDepth 100000 in
set_option maxHeartbeats 4000000 in
theorem w_X4_please {X : Cx} {l : Launch} {r : Int32} {σr : Mem} {res : Int32 × Mem} (hres : res = (r, σr)) (o : OK X cX4_please RX4 sdC 5 rm_X4_please l) (hr : RI X .int r σr)   {σ : Mem} (h : f_X4_please  σ = some res) : G X σ 0 [(0, .ref (eA (xE X) 0))] [] := by
  unfold f_X4_please at h
  refine g_iconst o (v := 0) (q := 1) (by decide) dX4_please_0 rfl ?_
  refine g_istore_n o (q := 2) dX4_please_1 rfl rfl (by decide) h (fun x21 => [(1, .int x21), (0, .ref (eA (xE X) 0))]) (fun _ => rfl) (fun x21 h => ?_)
  refine g_bipush o (v := 13) (q := 4) (by decide) dX4_please_2 rfl ?_
  refine g_istore_n o (q := 5) dX4_please_4 rfl rfl (by decide) h (fun x22 => [(2, .int x22), (1, .int x21), (0, .ref (eA (xE X) 0))]) (fun _ => rfl) (fun x22 h => ?_)
  refine g_iconst o (v := 0) (q := 6) (by decide) dX4_please_5 rfl ?_
  refine g_istore_n o (q := 7) dX4_please_6 rfl rfl (by decide) h (fun x23 => [(3, .int x23), (2, .int x22), (1, .int x21), (0, .ref (eA (xE X) 0))]) (fun _ => rfl) (fun x23 h => ?_)
  refine g_sub (lv' := [(0, .ref (eA (xE X) 0)), (1, .int x21), (2, .int x22), (3, .int x23)]) [3, 2, 1, 0] rfl ?_
  exact w_X4_please_L7 hres o hr  FU x21 x22 x23 σ  h
theorem c_X4_please {l : Launch} {E : En} {mk : Mem → Mem} (hmk : MK mk sdC)   {σ : Mem} {r : Int32} {τ : Mem} (h : f_X4_please  σ = some (r, τ)) : Met l yX4_please (Cond.code yX4_please cX4_please 5 (some .int) :: wt) rm_X4_please (PW E mk [.ref (eA E 0)] σ) (QI E mk r τ) 0 0 (WA E) :=
  met_i (fun E => [.ref (eA E 0)]) (by decide) hmk (Nat.le_of_ble_eq_true rfl) (fun X o hr => w_X4_please rfl o hr   h)
set_option maxRecDepth 100000 in
set_option maxHeartbeats 4000000 in
theorem w_X4_isSheet {X : Cx} {l : Launch} {r : Int32} {σr : Mem} {res : Int32 × Mem} (hres : res = (r, σr)) (o : OK X cX4_isSheet RX4 sdC 1 rm_X4_isSheet l) (hr : RI X .boolean r σr) (x0 : Int32)  {σ : Mem} (h : f_X4_isSheet x0 σ = some res) : G X σ 0 [(0, .int x0)] [] := by
  unfold f_X4_isSheet at h
  refine g_iload_n o (q := 1) 0 rfl rfl dX4_isSheet_0 rfl ?_
  refine g_iconst o (v := 0) (q := 2) (by decide) dX4_isSheet_1 rfl ?_
  refine g_iconst o (v := 3) (q := 3) (by decide) dX4_isSheet_2 rfl ?_
  refine g_csi o (q := 6) (As := [.int x0, .int 0, .int 3]) (rest := []) kv_X4_isWithin lk_X4_47 rfl (fun _ _ hc => c_X4_isWithin o.mk x0 0 3 hc) dX4_isSheet_3 rfl ⟨rfl, rfl, Nat.le_of_ble_eq_true rfl, Nat.le_of_ble_eq_true rfl⟩ (Nat.le_of_ble_eq_true rfl) rfl h (fun r22 σ21 h => ?_)
  obtain ⟨hb, h⟩ := vB_some h
  exact g_iret o hr (h.trans (congrArg some hres)) (by rcases hb with hb | hb <;> rw [hb] <;> rfl) dX4_isSheet_6
theorem c_X4_isSheet {l : Launch} {E : En} {mk : Mem → Mem} (hmk : MK mk sdC) (x0 : Int32)  {σ : Mem} {r : Int32} {τ : Mem} (h : f_X4_isSheet x0 σ = some (r, τ)) : Met l yX4_isSheet (Cond.code yX4_isSheet cX4_isSheet 1 (some .boolean) :: wt) rm_X4_isSheet (PW E mk [.int x0] σ) (QI E mk r τ) 0 0 (WA E) :=
  met_i (fun E => [.int x0]) (by decide) hmk (Nat.le_of_ble_eq_true rfl) (fun X o hr => w_X4_isSheet rfl o hr x0  h)
set_option maxRecDepth 100000 in
set_option maxHeartbeats 4000000 in
theorem w_X4_findingForTold {X : Cx} {l : Launch} {r : Int32} {σr : Mem} {res : Int32 × Mem} (hres : res = (r, σr)) (o : OK X cX4_findingForTold RX4 sdC 3 rm_X4_findingForTold l) (hr : RI X .int r σr) (x1 : Int32) (x2 : Int32)  {σ : Mem} (h : f_X4_findingForTold x1 x2 σ = some res) : G X σ 0 [(0, .ref (eA (xE X) 0)), (1, .int x1), (2, .int x2)] [] := by
  unfold f_X4_findingForTold at h
  refine g_iload_n o (q := 1) 1 rfl rfl dX4_findingForTold_0 rfl ?_
  refine g_csi o (q := 4) (As := [.int x1]) (rest := []) kv_X4_isSheet lk_X4_215 rfl (fun _ _ hc => c_X4_isSheet o.mk x1 hc) dX4_findingForTold_1 rfl ⟨rfl, rfl, Nat.le_of_ble_eq_true rfl, Nat.le_of_ble_eq_true rfl⟩ (Nat.le_of_ble_eq_true rfl) rfl h (fun r22 σ21 h => ?_)
  refine g_if_ne o (tgt := 9) (q := 7) dX4_findingForTold_4 (by decide) rfl h (fun h => ?_) (fun h => ?_)
  · refine g_aload_n o (q := 10) 0 rfl rfl dX4_findingForTold_9 rfl ?_
    refine gf_X4_6 o (q := 13) kC_0 lk_X4_38 dX4_findingForTold_10 rfl ?_
    refine g_iload_n o (q := 14) 1 rfl rfl dX4_findingForTold_13 rfl ?_
    refine g_aald9 o (q := 15) kC_40 dX4_findingForTold_14 rfl h (fun j23 hjj23 h => ?_)
    refine g_cvi o (q := 18) (As := []) (rest := []) kv_X2_isMissing lk_X4_222 (kd_she j23 hjj23) (by decide) rfl rfl rfl (fun _ _ hc => c_X2_isMissing o.mk (40 + 1 + 2 * j23) (kd_she j23 hjj23) hc) dX4_findingForTold_15 rfl ⟨rfl, rfl, Nat.le_of_ble_eq_true rfl, Nat.le_of_ble_eq_true rfl⟩ (Nat.le_of_ble_eq_true rfl) rfl h (fun r25 σ24 h => ?_)
    refine g_if_eq o (tgt := 23) (q := 21) dX4_findingForTold_18 (by decide) rfl h (fun h => ?_) (fun h => ?_)
    · refine g_aload_n o (q := 24) 0 rfl rfl dX4_findingForTold_23 rfl ?_
      refine g_iload_n o (q := 25) 2 rfl rfl dX4_findingForTold_24 rfl ?_
      refine g_cvi o (q := 28) (As := [.int x2]) (rest := []) kv_X4_isCurtain lk_X4_83 kC_0 (by decide) rfl rfl rfl (fun _ _ hc => c_X4_isCurtain o.mk x2 hc) dX4_findingForTold_25 rfl ⟨rfl, rfl, Nat.le_of_ble_eq_true rfl, Nat.le_of_ble_eq_true rfl⟩ (Nat.le_of_ble_eq_true rfl) rfl h (fun r27 σ26 h => ?_)
      refine g_if_eq o (tgt := 35) (q := 31) dX4_findingForTold_28 (by decide) rfl h (fun h => ?_) (fun h => ?_)
      · refine g_iconst o (v := 0) (q := 36) (by decide) dX4_findingForTold_35 rfl ?_
        exact g_iret o hr (h.trans (congrArg some hres)) rfl dX4_findingForTold_36
      · refine g_iconst o (v := (-1)) (q := 32) (by decide) dX4_findingForTold_31 rfl ?_
        refine g_goto o (tgt := 36) dX4_findingForTold_32 (by decide) ?_
        exact g_iret o hr (h.trans (congrArg some hres)) rfl dX4_findingForTold_36
    · refine g_iconst o (v := 5) (q := 22) (by decide) dX4_findingForTold_21 rfl ?_
      exact g_iret o hr (h.trans (congrArg some hres)) rfl dX4_findingForTold_22
  · refine g_iconst o (v := 0) (q := 8) (by decide) dX4_findingForTold_7 rfl ?_
    exact g_iret o hr (h.trans (congrArg some hres)) rfl dX4_findingForTold_8
theorem c_X4_findingForTold {l : Launch} {E : En} {mk : Mem → Mem} (hmk : MK mk sdC) (x1 : Int32) (x2 : Int32)  {σ : Mem} {r : Int32} {τ : Mem} (h : f_X4_findingForTold x1 x2 σ = some (r, τ)) : Met l yX4_findingForTold (Cond.code yX4_findingForTold cX4_findingForTold 3 (some .int) :: wt) rm_X4_findingForTold (PW E mk [.ref (eA E 0), .int x1, .int x2] σ) (QI E mk r τ) 0 0 (WA E) :=
  met_i (fun E => [.ref (eA E 0), .int x1, .int x2]) (by decide) hmk (Nat.le_of_ble_eq_true rfl) (fun X o hr => w_X4_findingForTold rfl o hr x1 x2  h)
set_option maxRecDepth 100000 in
set_option maxHeartbeats 4000000 in
theorem w_X4_isProbeAsTold_J38 {X : Cx} {l : Launch} {r : Int32} {σr : Mem} {res : Int32 × Mem} (hres : res = (r, σr)) (o : OK X cX4_isProbeAsTold RX4 sdC 3 rm_X4_isProbeAsTold l) (hr : RI X .boolean r σr) {k2 : Nat → Int32 → Mem → Option (Int32 × Mem)} (hk2 : ∀ (b1 : Nat) (y2 : Int32) (σ : Mem), kd sdC b1 2 → k2 b1 y2 σ = some res → G X σ 2 [(0, .ref (eA (xE X) 0)), (1, .ref (eA (xE X) b1)), (2, .int y2)] []) {b1 : Nat} {y2 : Int32} (g1 : kd sdC b1 2) {σ : Mem} (h : f_X4_isProbeAsTold_J38 k2 b1 y2 σ = some res) : G X σ 38 [(0, .ref (eA (xE X) 0)), (1, .ref (eA (xE X) b1)), (2, .int y2)] [] := by
  unfold f_X4_isProbeAsTold_J38 at h
  refine g_aload_n o (q := 39) 0 rfl rfl dX4_isProbeAsTold_38 rfl ?_
  refine gf_X4_4 o (q := 42) kC_0 lk_X4_25 dX4_isProbeAsTold_39 rfl ?_
  refine g_aload_n o (q := 43) 0 rfl rfl dX4_isProbeAsTold_42 rfl ?_
  refine gf_X4_3 o (q := 46) kC_0 lk_X4_19 dX4_isProbeAsTold_43 rfl ?_
  refine g_iload_n o (q := 47) 2 rfl rfl dX4_isProbeAsTold_46 rfl ?_
  refine g_cvi o (q := 50) (As := [.int y2]) (rest := [.ref (eA (xE X) 37)]) kv_X1_sceneIn lk_X4_90 kC_25 (by decide) rfl rfl rfl (fun _ _ hc => c_X1_sceneIn o.mk 25 y2 kC_25 hc) dX4_isProbeAsTold_47 rfl ⟨rfl, rfl, Nat.le_of_ble_eq_true rfl, Nat.le_of_ble_eq_true rfl⟩ (Nat.le_of_ble_eq_true rfl) rfl h (fun r24 σ23 h => ?_)
  refine g_aload_n o (q := 51) 0 rfl rfl dX4_isProbeAsTold_50 rfl ?_
  refine gf_X4_3 o (q := 54) kC_0 lk_X4_19 dX4_isProbeAsTold_51 rfl ?_
  refine gf_X1_0 o (q := 57) kC_25 lk_X4_55 dX4_isProbeAsTold_54 rfl ?_
  refine g_cvi o (q := 60) (As := [.int r24, .int (σ23 25 0)]) (rest := []) kv_X0_passBeat lk_X4_252 kC_37 (by decide) rfl rfl rfl (fun _ _ hc => c_X0_passBeat o.mk 37 r24 (σ23 25 0) kC_37 hc) dX4_isProbeAsTold_57 rfl ⟨rfl, rfl, Nat.le_of_ble_eq_true rfl, Nat.le_of_ble_eq_true rfl⟩ (Nat.le_of_ble_eq_true rfl) rfl h (fun r26 σ25 h => ?_)
  refine g_pop o (q := 61) rfl dX4_isProbeAsTold_60 rfl ?_
  refine g_iinc o (q := 64) (dn := 1) dX4_isProbeAsTold_61 rfl 2 rfl (by decide) (by decide) h (fun x27 => [(2, .int x27), (0, .ref (eA (xE X) 0)), (1, .ref (eA (xE X) b1))]) (fun _ => rfl) (fun x27 h => ?_)
  refine g_goto o (tgt := 2) dX4_isProbeAsTold_64 (by decide) ?_
  refine g_sub (lv' := [(0, .ref (eA (xE X) 0)), (1, .ref (eA (xE X) b1)), (2, .int x27)]) [1, 2, 0] rfl ?_
  exact hk2 b1 x27 σ25 g1 h
set_option maxRecDepth 100000 in
set_option maxHeartbeats 4000000 in
theorem w_X4_isProbeAsTold_L2 {X : Cx} {l : Launch} {r : Int32} {σr : Mem} {res : Int32 × Mem} (hres : res = (r, σr)) (o : OK X cX4_isProbeAsTold RX4 sdC 3 rm_X4_isProbeAsTold l) (hr : RI X .boolean r σr)   : ∀ (n : Nat) (b1 : Nat) (y2 : Int32) (σ : Mem), kd sdC b1 2 → f_X4_isProbeAsTold_L2  n b1 y2 σ = some res → G X σ 2 [(0, .ref (eA (xE X) 0)), (1, .ref (eA (xE X) b1)), (2, .int y2)] [] := by
  intro n
  induction n with
  | zero => intro b1 y2 σ g1 h; cases h
  | succ n ih =>
    intro b1 y2 σ g1 h
    rw [f_X4_isProbeAsTold_L2_s] at h
    refine g_iload_n o (q := 3) 2 rfl rfl dX4_isProbeAsTold_2 rfl ?_
    refine g_aload_n o (q := 4) 1 rfl rfl dX4_isProbeAsTold_3 rfl ?_
    refine gf_X2_1 o (q := 7) g1 lk_X4_221 dX4_isProbeAsTold_4 rfl ?_
    refine g_icmp_ge o (tgt := 67) (q := 10) dX4_isProbeAsTold_7 (by decide) rfl h (fun h => ?_) (fun h => ?_)
    · refine g_iconst o (v := 1) (q := 68) (by decide) dX4_isProbeAsTold_67 rfl ?_
      exact g_iret o hr (h.trans (congrArg some hres)) (by decide) dX4_isProbeAsTold_68
    · refine g_aload_n o (q := 11) 1 rfl rfl dX4_isProbeAsTold_10 rfl ?_
      refine gf_X2_2 o (q := 14) g1 lk_X4_235 dX4_isProbeAsTold_11 rfl ?_
      refine g_iload_n o (q := 15) 2 rfl rfl dX4_isProbeAsTold_14 rfl ?_
      refine g_iald o (q := 16) (ka_num g1) dX4_isProbeAsTold_15 rfl h (fun j22 hjj22 h => ?_)
      refine g_iconst o (v := (-1)) (q := 17) (by decide) dX4_isProbeAsTold_16 rfl ?_
      refine g_icmp_eq o (tgt := 38) (q := 20) dX4_isProbeAsTold_17 (by decide) rfl h (fun h => ?_) (fun h => ?_)
      · exact w_X4_isProbeAsTold_J38 hres o hr ih g1 h
      · refine g_aload_n o (q := 21) 1 rfl rfl dX4_isProbeAsTold_20 rfl ?_
        refine gf_X2_2 o (q := 24) g1 lk_X4_235 dX4_isProbeAsTold_21 rfl ?_
        refine g_iload_n o (q := 25) 2 rfl rfl dX4_isProbeAsTold_24 rfl ?_
        refine g_iald o (q := 26) (ka_num g1) dX4_isProbeAsTold_25 rfl h (fun j28 hjj28 h => ?_)
        refine g_aload_n o (q := 27) 0 rfl rfl dX4_isProbeAsTold_26 rfl ?_
        refine gf_X4_4 o (q := 30) kC_0 lk_X4_25 dX4_isProbeAsTold_27 rfl ?_
        refine gf_X0_3 o (q := 33) kC_37 lk_X4_111 dX4_isProbeAsTold_30 rfl ?_
        refine g_icmp_eq o (tgt := 38) (q := 36) dX4_isProbeAsTold_33 (by decide) rfl h (fun h => ?_) (fun h => ?_)
        · exact w_X4_isProbeAsTold_J38 hres o hr ih g1 h
        · refine g_iconst o (v := 0) (q := 37) (by decide) dX4_isProbeAsTold_36 rfl ?_
          exact g_iret o hr (h.trans (congrArg some hres)) (by decide) dX4_isProbeAsTold_37
set_option maxRecDepth 100000 in
set_option maxHeartbeats 4000000 in
theorem w_X4_isProbeAsTold {X : Cx} {l : Launch} {r : Int32} {σr : Mem} {res : Int32 × Mem} (hres : res = (r, σr)) (o : OK X cX4_isProbeAsTold RX4 sdC 3 rm_X4_isProbeAsTold l) (hr : RI X .boolean r σr) (a1 : Nat) (h1 : kd sdC a1 2) {σ : Mem} (h : f_X4_isProbeAsTold a1 σ = some res) : G X σ 0 [(0, .ref (eA (xE X) 0)), (1, .ref (eA (xE X) a1))] [] := by
  unfold f_X4_isProbeAsTold at h
  refine g_iconst o (v := 0) (q := 1) (by decide) dX4_isProbeAsTold_0 rfl ?_
  refine g_istore_n o (q := 2) dX4_isProbeAsTold_1 rfl rfl (by decide) h (fun x21 => [(2, .int x21), (0, .ref (eA (xE X) 0)), (1, .ref (eA (xE X) a1))]) (fun _ => rfl) (fun x21 h => ?_)
  refine g_sub (lv' := [(0, .ref (eA (xE X) 0)), (1, .ref (eA (xE X) a1)), (2, .int x21)]) [1, 2, 0] rfl ?_
  exact w_X4_isProbeAsTold_L2 hres o hr  FU a1 x21 σ h1 h
theorem c_X4_isProbeAsTold {l : Launch} {E : En} {mk : Mem → Mem} (hmk : MK mk sdC) (a1 : Nat) (h1 : kd sdC a1 2) {σ : Mem} {r : Int32} {τ : Mem} (h : f_X4_isProbeAsTold a1 σ = some (r, τ)) : Met l yX4_isProbeAsTold (Cond.code yX4_isProbeAsTold cX4_isProbeAsTold 3 (some .boolean) :: wt) rm_X4_isProbeAsTold (PW E mk [.ref (eA E 0), .ref (eA E a1)] σ) (QI E mk r τ) 0 0 (WA E) :=
  met_i (fun E => [.ref (eA E 0), .ref (eA E a1)]) (by decide) hmk (Nat.le_of_ble_eq_true rfl) (fun X o hr => w_X4_isProbeAsTold rfl o hr a1 h1 h)
set_option maxRecDepth 100000 in
set_option maxHeartbeats 4000000 in
theorem w_X4_fits_J102 {X : Cx} {l : Launch} {r : Int32} {σr : Mem} {res : Int32 × Mem} (hres : res = (r, σr)) (o : OK X cX4_fits RX4 sdC 7 rm_X4_fits l) (hr : RI X .int r σr) {k45 : Int32 → Int32 → Int32 → Int32 → Int32 → Mem → Option (Int32 × Mem)} (hk45 : ∀ (y1 : Int32) (y2 : Int32) (y4 : Int32) (y5 : Int32) (y6 : Int32) (σ : Mem), k45 y1 y2 y4 y5 y6 σ = some res → G X σ 45 [(0, .ref (eA (xE X) 0)), (1, .int y1), (2, .int y2), (4, .int y4), (5, .int y5), (6, .int y6)] []) {y1 : Int32} {y2 : Int32} {y4 : Int32} {y5 : Int32} {y6 : Int32}  {σ : Mem} (h : f_X4_fits_J102 k45 y1 y2 y4 y5 y6 σ = some res) : G X σ 102 [(0, .ref (eA (xE X) 0)), (1, .int y1), (2, .int y2), (4, .int y4), (5, .int y5), (6, .int y6)] [] := by
  unfold f_X4_fits_J102 at h
  refine g_iinc o (q := 105) (dn := 1) dX4_fits_102 rfl 5 rfl (by decide) (by decide) h (fun x37 => [(6, .int x37), (0, .ref (eA (xE X) 0)), (1, .int y1), (2, .int y2), (4, .int y4), (5, .int y5)]) (fun _ => rfl) (fun x37 h => ?_)
  refine g_goto o (tgt := 45) dX4_fits_105 (by decide) ?_
  refine g_sub (lv' := [(0, .ref (eA (xE X) 0)), (1, .int y1), (2, .int y2), (4, .int y4), (5, .int y5), (6, .int x37)]) [1, 2, 3, 4, 5, 0] rfl ?_
  exact hk45 y1 y2 y4 y5 x37 σ  h
set_option maxRecDepth 100000 in
set_option maxHeartbeats 4000000 in
theorem w_X4_fits_L45 {X : Cx} {l : Launch} {r : Int32} {σr : Mem} {res : Int32 × Mem} (hres : res = (r, σr)) (o : OK X cX4_fits RX4 sdC 7 rm_X4_fits l) (hr : RI X .int r σr)   : ∀ (n : Nat) (y1 : Int32) (y2 : Int32) (y4 : Int32) (y5 : Int32) (y6 : Int32) (σ : Mem), f_X4_fits_L45  n y1 y2 y4 y5 y6 σ = some res → G X σ 45 [(0, .ref (eA (xE X) 0)), (1, .int y1), (2, .int y2), (4, .int y4), (5, .int y5), (6, .int y6)] [] := by
  intro n
  induction n with
  | zero => intro y1 y2 y4 y5 y6 σ  h; cases h
  | succ n ih =>
    intro y1 y2 y4 y5 y6 σ  h
    rw [f_X4_fits_L45_s] at h
    refine g_iload o (q := 47) 5 rfl dX4_fits_45 rfl ?_
    refine g_bipush o (v := 12) (q := 49) (by decide) dX4_fits_47 rfl ?_
    refine g_icmp_ge o (tgt := 108) (q := 52) dX4_fits_49 (by decide) rfl h (fun h => ?_) (fun h => ?_)
    · refine g_iload o (q := 110) 4 rfl dX4_fits_108 rfl ?_
      exact g_iret o hr (h.trans (congrArg some hres)) rfl dX4_fits_110
    · refine g_aload_n o (q := 53) 0 rfl rfl dX4_fits_52 rfl ?_
      refine gf_X4_3 o (q := 56) kC_0 lk_X4_19 dX4_fits_53 rfl ?_
      refine gf_X1_6 o (q := 59) kC_25 lk_X4_63 dX4_fits_56 rfl ?_
      refine g_iload o (q := 61) 3 rfl dX4_fits_59 rfl ?_
      refine g_iload o (q := 63) 5 rfl dX4_fits_61 rfl ?_
      refine g_iast o (q := 64) (ka_list kC_25) dX4_fits_63 rfl h (fun j30 σ31 h => ?_)
      refine g_aload_n o (q := 65) 0 rfl rfl dX4_fits_64 rfl ?_
      refine gf_X4_4 o (q := 68) kC_0 lk_X4_25 dX4_fits_65 rfl ?_
      refine g_aload_n o (q := 69) 0 rfl rfl dX4_fits_68 rfl ?_
      refine gf_X4_0 o (q := 72) kC_0 lk_X4_10 dX4_fits_69 rfl ?_
      refine gf_X1_8 o (q := 75) kC_1 lk_X4_86 dX4_fits_72 rfl ?_
      refine g_iload_n o (q := 76) 2 rfl rfl dX4_fits_75 rfl ?_
      refine g_aald8 o (q := 77) (ka_curs kC_1) dX4_fits_76 rfl h (fun j32 hjj32 h => ?_)
      refine g_cvv o (q := 80) (As := [.ref (eA (xE X) (1 + 3 + 1 + j32))]) (rest := []) kv_X0_take lk_X4_140 kC_37 (by decide) rfl rfl rfl (fun _ _ hc => c_X0_take o.mk 37 (1 + 3 + 1 + j32) kC_37 (kd_cur (ka_curs kC_1) hjj32) hc) dX4_fits_77 rfl ⟨rfl, rfl, Nat.le_of_ble_eq_true rfl, Nat.le_of_ble_eq_true rfl⟩ (Nat.le_of_ble_eq_true rfl) rfl h (fun _u33 σ33 h => ?_)
      refine g_aload_n o (q := 81) 0 rfl rfl dX4_fits_80 rfl ?_
      refine g_aload_n o (q := 82) 0 rfl rfl dX4_fits_81 rfl ?_
      refine gf_X4_6 o (q := 85) kC_0 lk_X4_38 dX4_fits_82 rfl ?_
      refine g_iload_n o (q := 86) 1 rfl rfl dX4_fits_85 rfl ?_
      refine g_aald9 o (q := 87) kC_40 dX4_fits_86 rfl h (fun j34 hjj34 h => ?_)
      refine g_cvi o (q := 90) (As := [.ref (eA (xE X) (40 + 1 + 2 * j34))]) (rest := []) kv_X4_isProbeAsTold lk_X4_182 kC_0 (by decide) rfl rfl rfl (fun _ _ hc => c_X4_isProbeAsTold o.mk (40 + 1 + 2 * j34) (kd_she j34 hjj34) hc) dX4_fits_87 rfl ⟨rfl, rfl, Nat.le_of_ble_eq_true rfl, Nat.le_of_ble_eq_true rfl⟩ (Nat.le_of_ble_eq_true rfl) rfl h (fun r36 σ35 h => ?_)
      refine g_if_eq o (tgt := 102) (q := 93) dX4_fits_90 (by decide) rfl h (fun h => ?_) (fun h => ?_)
      · exact w_X4_fits_J102 hres o hr ih  h
      · refine g_iload o (q := 95) 4 rfl dX4_fits_93 rfl ?_
        refine g_iconst o (v := 1) (q := 96) (by decide) dX4_fits_95 rfl ?_
        refine g_iload o (q := 98) 5 rfl dX4_fits_96 rfl ?_
        refine g_ishl o (q := 99) dX4_fits_98 rfl ?_
        refine g_ior o (q := 100) dX4_fits_99 rfl ?_
        refine g_istore o (q := 102) dX4_fits_100 rfl (by decide) h (fun x38 => [(5, .int x38), (0, .ref (eA (xE X) 0)), (1, .int y1), (2, .int y2), (4, .int y4), (6, .int y6)]) (fun _ => rfl) (fun x38 h => ?_)
        refine g_sub (lv' := [(0, .ref (eA (xE X) 0)), (1, .int y1), (2, .int y2), (4, .int y4), (5, .int x38), (6, .int y6)]) [1, 2, 3, 4, 0, 5] rfl ?_
        exact w_X4_fits_J102 hres o hr ih  h
set_option maxRecDepth 100000 in
set_option maxHeartbeats 4000000 in
theorem w_X4_fits {X : Cx} {l : Launch} {r : Int32} {σr : Mem} {res : Int32 × Mem} (hres : res = (r, σr)) (o : OK X cX4_fits RX4 sdC 7 rm_X4_fits l) (hr : RI X .int r σr) (x1 : Int32) (x2 : Int32)  {σ : Mem} (h : f_X4_fits x1 x2 σ = some res) : G X σ 0 [(0, .ref (eA (xE X) 0)), (1, .int x1), (2, .int x2)] [] := by
  unfold f_X4_fits at h
  refine g_aload_n o (q := 1) 0 rfl rfl dX4_fits_0 rfl ?_
  refine g_iload_n o (q := 2) 1 rfl rfl dX4_fits_1 rfl ?_
  refine g_iload_n o (q := 3) 2 rfl rfl dX4_fits_2 rfl ?_
  refine g_cvi o (q := 6) (As := [.int x1, .int x2]) (rest := []) kv_X4_findingForTold lk_X4_175 kC_0 (by decide) rfl rfl rfl (fun _ _ hc => c_X4_findingForTold o.mk x1 x2 hc) dX4_fits_3 rfl ⟨rfl, rfl, Nat.le_of_ble_eq_true rfl, Nat.le_of_ble_eq_true rfl⟩ (Nat.le_of_ble_eq_true rfl) rfl h (fun r22 σ21 h => ?_)
  refine g_istore_n o (q := 7) dX4_fits_6 rfl rfl (by decide) h (fun x23 => [(3, .int x23), (0, .ref (eA (xE X) 0)), (1, .int x1), (2, .int x2)]) (fun _ => rfl) (fun x23 h => ?_)
  refine g_iload_n o (q := 8) 0 rfl rfl dX4_fits_7 rfl ?_
  refine g_iconst o (v := (-1)) (q := 9) (by decide) dX4_fits_8 rfl ?_
  refine g_icmp_eq o (tgt := 18) (q := 12) dX4_fits_9 (by decide) rfl h (fun h => ?_) (fun h => ?_)
  · refine g_aload_n o (q := 19) 1 rfl rfl dX4_fits_18 rfl ?_
    refine gf_X4_3 o (q := 22) kC_0 lk_X4_19 dX4_fits_19 rfl ?_
    refine g_aload_n o (q := 23) 1 rfl rfl dX4_fits_22 rfl ?_
    refine gf_X4_0 o (q := 26) kC_0 lk_X4_10 dX4_fits_23 rfl ?_
    refine g_cvv o (q := 29) (As := [.ref (eA (xE X) 1)]) (rest := []) kv_X1_take lk_X4_147 kC_25 (by decide) rfl rfl rfl (fun _ _ hc => c_X1_take o.mk 25 1 kC_25 kC_1 hc) dX4_fits_26 rfl ⟨rfl, rfl, Nat.le_of_ble_eq_true rfl, Nat.le_of_ble_eq_true rfl⟩ (Nat.le_of_ble_eq_true rfl) rfl h (fun _u24 σ24 h => ?_)
    refine g_aload_n o (q := 30) 1 rfl rfl dX4_fits_29 rfl ?_
    refine gf_X4_0 o (q := 33) kC_0 lk_X4_10 dX4_fits_30 rfl ?_
    refine g_iconst o (v := 0) (q := 34) (by decide) dX4_fits_33 rfl ?_
    refine g_cvi o (q := 37) (As := [.int 0]) (rest := []) kv_X1_placeIn lk_X4_179 kC_1 (by decide) rfl rfl rfl (fun _ _ hc => c_X1_placeIn o.mk 1 0 kC_1 hc) dX4_fits_34 rfl ⟨rfl, rfl, Nat.le_of_ble_eq_true rfl, Nat.le_of_ble_eq_true rfl⟩ (Nat.le_of_ble_eq_true rfl) rfl h (fun r26 σ25 h => ?_)
    refine g_istore o (q := 39) dX4_fits_37 rfl (by decide) h (fun x27 => [(4, .int x27), (3, .int x23), (0, .ref (eA (xE X) 0)), (1, .int x1), (2, .int x2)]) (fun _ => rfl) (fun x27 h => ?_)
    refine g_iconst o (v := 0) (q := 40) (by decide) dX4_fits_39 rfl ?_
    refine g_istore o (q := 42) dX4_fits_40 rfl (by decide) h (fun x28 => [(5, .int x28), (4, .int x27), (3, .int x23), (0, .ref (eA (xE X) 0)), (1, .int x1), (2, .int x2)]) (fun _ => rfl) (fun x28 h => ?_)
    refine g_iconst o (v := 0) (q := 43) (by decide) dX4_fits_42 rfl ?_
    refine g_istore o (q := 45) dX4_fits_43 rfl (by decide) h (fun x29 => [(6, .int x29), (5, .int x28), (4, .int x27), (3, .int x23), (0, .ref (eA (xE X) 0)), (1, .int x1), (2, .int x2)]) (fun _ => rfl) (fun x29 h => ?_)
    refine g_sub (lv' := [(0, .ref (eA (xE X) 0)), (1, .int x1), (2, .int x2), (4, .int x27), (5, .int x28), (6, .int x29)]) [4, 5, 6, 2, 1, 0] rfl ?_
    exact w_X4_fits_L45 hres o hr  FU x1 x2 x27 x28 x29 σ25  h
  · refine g_aload_n o (q := 13) 1 rfl rfl dX4_fits_12 rfl ?_
    refine g_iload_n o (q := 14) 0 rfl rfl dX4_fits_13 rfl ?_
    refine g_cvi o (q := 17) (As := [.int x23]) (rest := []) kv_X4_find lk_X4_51 kC_0 (by decide) rfl rfl rfl (fun _ _ hc => c_X4_find o.mk x23 hc) dX4_fits_14 rfl ⟨rfl, rfl, Nat.le_of_ble_eq_true rfl, Nat.le_of_ble_eq_true rfl⟩ (Nat.le_of_ble_eq_true rfl) rfl h (fun r40 σ39 h => ?_)
    exact g_iret o hr (h.trans (congrArg some hres)) rfl dX4_fits_17
theorem c_X4_fits {l : Launch} {E : En} {mk : Mem → Mem} (hmk : MK mk sdC) (x1 : Int32) (x2 : Int32)  {σ : Mem} {r : Int32} {τ : Mem} (h : f_X4_fits x1 x2 σ = some (r, τ)) : Met l yX4_fits (Cond.code yX4_fits cX4_fits 7 (some .int) :: wt) rm_X4_fits (PW E mk [.ref (eA E 0), .int x1, .int x2] σ) (QI E mk r τ) 0 0 (WA E) :=
  met_i (fun E => [.ref (eA E 0), .int x1, .int x2]) (by decide) hmk (Nat.le_of_ble_eq_true rfl) (fun X o hr => w_X4_fits rfl o hr x1 x2  h)
set_option maxRecDepth 100000 in
set_option maxHeartbeats 4000000 in
theorem w_X4_kinds_J89 {X : Cx} {l : Launch} {r : Int32} {σr : Mem} {res : Int32 × Mem} (hres : res = (r, σr)) (o : OK X cX4_kinds RX4 sdC 6 rm_X4_kinds l) (hr : RI X .int r σr) {k35 : Int32 → Int32 → Int32 → Int32 → Mem → Option (Int32 × Mem)} (hk35 : ∀ (y1 : Int32) (y2 : Int32) (y4 : Int32) (y5 : Int32) (σ : Mem), k35 y1 y2 y4 y5 σ = some res → G X σ 35 [(0, .ref (eA (xE X) 0)), (1, .int y1), (2, .int y2), (4, .int y4), (5, .int y5)] []) {y1 : Int32} {y2 : Int32} {y4 : Int32} {y5 : Int32}  {σ : Mem} (h : f_X4_kinds_J89 k35 y1 y2 y4 y5 σ = some res) : G X σ 89 [(0, .ref (eA (xE X) 0)), (1, .int y1), (2, .int y2), (4, .int y4), (5, .int y5)] [] := by
  unfold f_X4_kinds_J89 at h
  refine g_iinc o (q := 92) (dn := 1) dX4_kinds_89 rfl 4 rfl (by decide) (by decide) h (fun x33 => [(5, .int x33), (0, .ref (eA (xE X) 0)), (1, .int y1), (2, .int y2), (4, .int y4)]) (fun _ => rfl) (fun x33 h => ?_)
  refine g_goto o (tgt := 35) dX4_kinds_92 (by decide) ?_
  refine g_sub (lv' := [(0, .ref (eA (xE X) 0)), (1, .int y1), (2, .int y2), (4, .int y4), (5, .int x33)]) [1, 2, 3, 4, 0] rfl ?_
  exact hk35 y1 y2 y4 x33 σ  h
set_option maxRecDepth 100000 in
set_option maxHeartbeats 4000000 in
theorem w_X4_kinds_L35 {X : Cx} {l : Launch} {r : Int32} {σr : Mem} {res : Int32 × Mem} (hres : res = (r, σr)) (o : OK X cX4_kinds RX4 sdC 6 rm_X4_kinds l) (hr : RI X .int r σr)   : ∀ (n : Nat) (y1 : Int32) (y2 : Int32) (y4 : Int32) (y5 : Int32) (σ : Mem), f_X4_kinds_L35  n y1 y2 y4 y5 σ = some res → G X σ 35 [(0, .ref (eA (xE X) 0)), (1, .int y1), (2, .int y2), (4, .int y4), (5, .int y5)] [] := by
  intro n
  induction n with
  | zero => intro y1 y2 y4 y5 σ  h; cases h
  | succ n ih =>
    intro y1 y2 y4 y5 σ  h
    rw [f_X4_kinds_L35_s] at h
    refine g_iload o (q := 37) 4 rfl dX4_kinds_35 rfl ?_
    refine g_bipush o (v := 7) (q := 39) (by decide) dX4_kinds_37 rfl ?_
    refine g_icmp_ge o (tgt := 95) (q := 42) dX4_kinds_39 (by decide) rfl h (fun h => ?_) (fun h => ?_)
    · refine g_iload o (q := 97) 3 rfl dX4_kinds_95 rfl ?_
      exact g_iret o hr (h.trans (congrArg some hres)) rfl dX4_kinds_97
    · refine g_aload_n o (q := 43) 0 rfl rfl dX4_kinds_42 rfl ?_
      refine gf_X4_4 o (q := 46) kC_0 lk_X4_25 dX4_kinds_43 rfl ?_
      refine g_aload_n o (q := 47) 0 rfl rfl dX4_kinds_46 rfl ?_
      refine gf_X4_0 o (q := 50) kC_0 lk_X4_10 dX4_kinds_47 rfl ?_
      refine gf_X1_8 o (q := 53) kC_1 lk_X4_86 dX4_kinds_50 rfl ?_
      refine g_iload_n o (q := 54) 2 rfl rfl dX4_kinds_53 rfl ?_
      refine g_aald8 o (q := 55) (ka_curs kC_1) dX4_kinds_54 rfl h (fun j27 hjj27 h => ?_)
      refine g_cvv o (q := 58) (As := [.ref (eA (xE X) (1 + 3 + 1 + j27))]) (rest := []) kv_X0_take lk_X4_140 kC_37 (by decide) rfl rfl rfl (fun _ _ hc => c_X0_take o.mk 37 (1 + 3 + 1 + j27) kC_37 (kd_cur (ka_curs kC_1) hjj27) hc) dX4_kinds_55 rfl ⟨rfl, rfl, Nat.le_of_ble_eq_true rfl, Nat.le_of_ble_eq_true rfl⟩ (Nat.le_of_ble_eq_true rfl) rfl h (fun _u28 σ28 h => ?_)
      refine g_aload_n o (q := 59) 0 rfl rfl dX4_kinds_58 rfl ?_
      refine gf_X4_4 o (q := 62) kC_0 lk_X4_25 dX4_kinds_59 rfl ?_
      refine g_iload o (q := 64) 4 rfl dX4_kinds_62 rfl ?_
      refine gp_X0_0 o (q := 67) kC_37 lk_X4_158 dX4_kinds_64 rfl h (fun σ29 h => ?_)
      refine g_aload_n o (q := 68) 0 rfl rfl dX4_kinds_67 rfl ?_
      refine g_aload_n o (q := 69) 0 rfl rfl dX4_kinds_68 rfl ?_
      refine gf_X4_6 o (q := 72) kC_0 lk_X4_38 dX4_kinds_69 rfl ?_
      refine g_iload_n o (q := 73) 1 rfl rfl dX4_kinds_72 rfl ?_
      refine g_aald9 o (q := 74) kC_40 dX4_kinds_73 rfl h (fun j30 hjj30 h => ?_)
      refine g_cvi o (q := 77) (As := [.ref (eA (xE X) (40 + 1 + 2 * j30))]) (rest := []) kv_X4_isProbeAsTold lk_X4_182 kC_0 (by decide) rfl rfl rfl (fun _ _ hc => c_X4_isProbeAsTold o.mk (40 + 1 + 2 * j30) (kd_she j30 hjj30) hc) dX4_kinds_74 rfl ⟨rfl, rfl, Nat.le_of_ble_eq_true rfl, Nat.le_of_ble_eq_true rfl⟩ (Nat.le_of_ble_eq_true rfl) rfl h (fun r32 σ31 h => ?_)
      refine g_if_eq o (tgt := 89) (q := 80) dX4_kinds_77 (by decide) rfl h (fun h => ?_) (fun h => ?_)
      · exact w_X4_kinds_J89 hres o hr ih  h
      · refine g_iload o (q := 82) 3 rfl dX4_kinds_80 rfl ?_
        refine g_iconst o (v := 1) (q := 83) (by decide) dX4_kinds_82 rfl ?_
        refine g_iload o (q := 85) 4 rfl dX4_kinds_83 rfl ?_
        refine g_ishl o (q := 86) dX4_kinds_85 rfl ?_
        refine g_ior o (q := 87) dX4_kinds_86 rfl ?_
        refine g_istore o (q := 89) dX4_kinds_87 rfl (by decide) h (fun x34 => [(4, .int x34), (0, .ref (eA (xE X) 0)), (1, .int y1), (2, .int y2), (5, .int y5)]) (fun _ => rfl) (fun x34 h => ?_)
        refine g_sub (lv' := [(0, .ref (eA (xE X) 0)), (1, .int y1), (2, .int y2), (4, .int x34), (5, .int y5)]) [1, 2, 3, 0, 4] rfl ?_
        exact w_X4_kinds_J89 hres o hr ih  h
set_option maxRecDepth 100000 in
set_option maxHeartbeats 4000000 in
theorem w_X4_kinds {X : Cx} {l : Launch} {r : Int32} {σr : Mem} {res : Int32 × Mem} (hres : res = (r, σr)) (o : OK X cX4_kinds RX4 sdC 6 rm_X4_kinds l) (hr : RI X .int r σr) (x1 : Int32) (x2 : Int32)  {σ : Mem} (h : f_X4_kinds x1 x2 σ = some res) : G X σ 0 [(0, .ref (eA (xE X) 0)), (1, .int x1), (2, .int x2)] [] := by
  unfold f_X4_kinds at h
  refine g_aload_n o (q := 1) 0 rfl rfl dX4_kinds_0 rfl ?_
  refine g_iload_n o (q := 2) 1 rfl rfl dX4_kinds_1 rfl ?_
  refine g_iload_n o (q := 3) 2 rfl rfl dX4_kinds_2 rfl ?_
  refine g_cvi o (q := 6) (As := [.int x1, .int x2]) (rest := []) kv_X4_findingForTold lk_X4_175 kC_0 (by decide) rfl rfl rfl (fun _ _ hc => c_X4_findingForTold o.mk x1 x2 hc) dX4_kinds_3 rfl ⟨rfl, rfl, Nat.le_of_ble_eq_true rfl, Nat.le_of_ble_eq_true rfl⟩ (Nat.le_of_ble_eq_true rfl) rfl h (fun r22 σ21 h => ?_)
  refine g_istore_n o (q := 7) dX4_kinds_6 rfl rfl (by decide) h (fun x23 => [(3, .int x23), (0, .ref (eA (xE X) 0)), (1, .int x1), (2, .int x2)]) (fun _ => rfl) (fun x23 h => ?_)
  refine g_iload_n o (q := 8) 0 rfl rfl dX4_kinds_7 rfl ?_
  refine g_iconst o (v := (-1)) (q := 9) (by decide) dX4_kinds_8 rfl ?_
  refine g_icmp_eq o (tgt := 18) (q := 12) dX4_kinds_9 (by decide) rfl h (fun h => ?_) (fun h => ?_)
  · refine g_aload_n o (q := 19) 1 rfl rfl dX4_kinds_18 rfl ?_
    refine gf_X4_3 o (q := 22) kC_0 lk_X4_19 dX4_kinds_19 rfl ?_
    refine g_aload_n o (q := 23) 1 rfl rfl dX4_kinds_22 rfl ?_
    refine gf_X4_0 o (q := 26) kC_0 lk_X4_10 dX4_kinds_23 rfl ?_
    refine g_cvv o (q := 29) (As := [.ref (eA (xE X) 1)]) (rest := []) kv_X1_take lk_X4_147 kC_25 (by decide) rfl rfl rfl (fun _ _ hc => c_X1_take o.mk 25 1 kC_25 kC_1 hc) dX4_kinds_26 rfl ⟨rfl, rfl, Nat.le_of_ble_eq_true rfl, Nat.le_of_ble_eq_true rfl⟩ (Nat.le_of_ble_eq_true rfl) rfl h (fun _u24 σ24 h => ?_)
    refine g_iconst o (v := 0) (q := 30) (by decide) dX4_kinds_29 rfl ?_
    refine g_istore o (q := 32) dX4_kinds_30 rfl (by decide) h (fun x25 => [(4, .int x25), (3, .int x23), (0, .ref (eA (xE X) 0)), (1, .int x1), (2, .int x2)]) (fun _ => rfl) (fun x25 h => ?_)
    refine g_iconst o (v := 0) (q := 33) (by decide) dX4_kinds_32 rfl ?_
    refine g_istore o (q := 35) dX4_kinds_33 rfl (by decide) h (fun x26 => [(5, .int x26), (4, .int x25), (3, .int x23), (0, .ref (eA (xE X) 0)), (1, .int x1), (2, .int x2)]) (fun _ => rfl) (fun x26 h => ?_)
    refine g_sub (lv' := [(0, .ref (eA (xE X) 0)), (1, .int x1), (2, .int x2), (4, .int x25), (5, .int x26)]) [3, 4, 5, 1, 0] rfl ?_
    exact w_X4_kinds_L35 hres o hr  FU x1 x2 x25 x26 σ24  h
  · refine g_aload_n o (q := 13) 1 rfl rfl dX4_kinds_12 rfl ?_
    refine g_iload_n o (q := 14) 0 rfl rfl dX4_kinds_13 rfl ?_
    refine g_cvi o (q := 17) (As := [.int x23]) (rest := []) kv_X4_find lk_X4_51 kC_0 (by decide) rfl rfl rfl (fun _ _ hc => c_X4_find o.mk x23 hc) dX4_kinds_14 rfl ⟨rfl, rfl, Nat.le_of_ble_eq_true rfl, Nat.le_of_ble_eq_true rfl⟩ (Nat.le_of_ble_eq_true rfl) rfl h (fun r36 σ35 h => ?_)
    exact g_iret o hr (h.trans (congrArg some hres)) rfl dX4_kinds_17
theorem c_X4_kinds {l : Launch} {E : En} {mk : Mem → Mem} (hmk : MK mk sdC) (x1 : Int32) (x2 : Int32)  {σ : Mem} {r : Int32} {τ : Mem} (h : f_X4_kinds x1 x2 σ = some (r, τ)) : Met l yX4_kinds (Cond.code yX4_kinds cX4_kinds 6 (some .int) :: wt) rm_X4_kinds (PW E mk [.ref (eA E 0), .int x1, .int x2] σ) (QI E mk r τ) 0 0 (WA E) :=
  met_i (fun E => [.ref (eA E 0), .int x1, .int x2]) (by decide) hmk (Nat.le_of_ble_eq_true rfl) (fun X o hr => w_X4_kinds rfl o hr x1 x2  h)
set_option maxRecDepth 100000 in
set_option maxHeartbeats 4000000 in
theorem w_X4_evening_J113 {X : Cx} {l : Launch} {r : Int32} {σr : Mem} {res : Int32 × Mem} (hres : res = (r, σr)) (o : OK X cX4_evening RX4 sdC 5 rm_X4_evening l) (hr : RI X .int r σr) {k38 : Int32 → Int32 → Mem → Option (Int32 × Mem)} (hk38 : ∀ (y1 : Int32) (y2 : Int32) (σ : Mem), k38 y1 y2 σ = some res → G X σ 38 [(0, .ref (eA (xE X) 0)), (1, .int y1), (2, .int y2)] []) {y1 : Int32} {y2 : Int32}  {σ : Mem} (h : f_X4_evening_J113 k38 y1 y2 σ = some res) : G X σ 113 [(0, .ref (eA (xE X) 0)), (1, .int y1), (2, .int y2)] [] := by
  unfold f_X4_evening_J113 at h
  refine g_aload_n o (q := 114) 0 rfl rfl dX4_evening_113 rfl ?_
  refine gf_X4_0 o (q := 117) kC_0 lk_X4_10 dX4_evening_114 rfl ?_
  refine g_cvv o (q := 120) (As := []) (rest := []) kv_X1_passBeat lk_X4_154 kC_1 (by decide) rfl rfl rfl (fun _ _ hc => c_X1_passBeat o.mk 1 kC_1 hc) dX4_evening_117 rfl ⟨rfl, rfl, Nat.le_of_ble_eq_true rfl, Nat.le_of_ble_eq_true rfl⟩ (Nat.le_of_ble_eq_true rfl) rfl h (fun _u36 σ36 h => ?_)
  refine g_iinc o (q := 123) (dn := 1) dX4_evening_120 rfl 2 rfl (by decide) (by decide) h (fun x37 => [(2, .int x37), (0, .ref (eA (xE X) 0)), (1, .int y1)]) (fun _ => rfl) (fun x37 h => ?_)
  refine g_goto o (tgt := 38) dX4_evening_123 (by decide) ?_
  refine g_sub (lv' := [(0, .ref (eA (xE X) 0)), (1, .int y1), (2, .int x37)]) [1, 2, 0] rfl ?_
  exact hk38 y1 x37 σ36  h
set_option maxRecDepth 100000 in
set_option maxHeartbeats 4000000 in
theorem w_X4_evening_L38 {X : Cx} {l : Launch} {r : Int32} {σr : Mem} {res : Int32 × Mem} (hres : res = (r, σr)) (o : OK X cX4_evening RX4 sdC 5 rm_X4_evening l) (hr : RI X .int r σr)   : ∀ (n : Nat) (y1 : Int32) (y2 : Int32) (σ : Mem), f_X4_evening_L38  n y1 y2 σ = some res → G X σ 38 [(0, .ref (eA (xE X) 0)), (1, .int y1), (2, .int y2)] [] := by
  intro n
  induction n with
  | zero => intro y1 y2 σ  h; cases h
  | succ n ih =>
    intro y1 y2 σ  h
    rw [f_X4_evening_L38_s] at h
    refine g_iload_n o (q := 39) 2 rfl rfl dX4_evening_38 rfl ?_
    refine g_iload_n o (q := 40) 1 rfl rfl dX4_evening_39 rfl ?_
    refine g_icmp_ge o (tgt := 126) (q := 43) dX4_evening_40 (by decide) rfl h (fun h => ?_) (fun h => ?_)
    · refine g_aload_n o (q := 127) 0 rfl rfl dX4_evening_126 rfl ?_
      refine gf_X4_0 o (q := 130) kC_0 lk_X4_10 dX4_evening_127 rfl ?_
      refine gf_X1_1 o (q := 133) kC_1 lk_X4_121 dX4_evening_130 rfl ?_
      exact g_iret o hr (h.trans (congrArg some hres)) rfl dX4_evening_133
    · refine g_aload_n o (q := 44) 0 rfl rfl dX4_evening_43 rfl ?_
      refine gf_X4_0 o (q := 47) kC_0 lk_X4_10 dX4_evening_44 rfl ?_
      refine g_cvi o (q := 50) (As := []) (rest := []) kv_X1_draw lk_X4_186 kC_1 (by decide) rfl rfl rfl (fun _ _ hc => c_X1_draw o.mk 1 kC_1 hc) dX4_evening_47 rfl ⟨rfl, rfl, Nat.le_of_ble_eq_true rfl, Nat.le_of_ble_eq_true rfl⟩ (Nat.le_of_ble_eq_true rfl) rfl h (fun r25 σ24 h => ?_)
      refine g_bipush o (v := 12) (q := 52) (by decide) dX4_evening_50 rfl ?_
      refine g_irem o (q := 53) (by decide) dX4_evening_52 rfl ?_
      refine g_istore_n o (q := 54) dX4_evening_53 rfl rfl (by decide) h (fun x26 => [(3, .int x26), (0, .ref (eA (xE X) 0)), (1, .int y1), (2, .int y2)]) (fun _ => rfl) (fun x26 h => ?_)
      refine g_aload_n o (q := 55) 1 rfl rfl dX4_evening_54 rfl ?_
      refine gf_X4_0 o (q := 58) kC_0 lk_X4_10 dX4_evening_55 rfl ?_
      refine g_cvi o (q := 61) (As := []) (rest := []) kv_X1_draw lk_X4_186 kC_1 (by decide) rfl rfl rfl (fun _ _ hc => c_X1_draw o.mk 1 kC_1 hc) dX4_evening_58 rfl ⟨rfl, rfl, Nat.le_of_ble_eq_true rfl, Nat.le_of_ble_eq_true rfl⟩ (Nat.le_of_ble_eq_true rfl) rfl h (fun r28 σ27 h => ?_)
      refine g_bipush o (v := 8) (q := 63) (by decide) dX4_evening_61 rfl ?_
      refine g_irem o (q := 64) (by decide) dX4_evening_63 rfl ?_
      refine g_istore o (q := 66) dX4_evening_64 rfl (by decide) h (fun x29 => [(4, .int x29), (3, .int x26), (0, .ref (eA (xE X) 0)), (1, .int y1), (2, .int y2)]) (fun _ => rfl) (fun x29 h => ?_)
      refine g_aload_n o (q := 67) 2 rfl rfl dX4_evening_66 rfl ?_
      refine gf_X4_0 o (q := 70) kC_0 lk_X4_10 dX4_evening_67 rfl ?_
      refine gf_X1_6 o (q := 73) kC_1 lk_X4_63 dX4_evening_70 rfl ?_
      refine g_aload_n o (q := 74) 2 rfl rfl dX4_evening_73 rfl ?_
      refine gf_X4_0 o (q := 77) kC_0 lk_X4_10 dX4_evening_74 rfl ?_
      refine g_iconst o (v := 0) (q := 78) (by decide) dX4_evening_77 rfl ?_
      refine g_cvi o (q := 81) (As := [.int 0]) (rest := [.ref (eA (xE X) (1 + 1))]) kv_X1_placeIn lk_X4_179 kC_1 (by decide) rfl rfl rfl (fun _ _ hc => c_X1_placeIn o.mk 1 0 kC_1 hc) dX4_evening_78 rfl ⟨rfl, rfl, Nat.le_of_ble_eq_true rfl, Nat.le_of_ble_eq_true rfl⟩ (Nat.le_of_ble_eq_true rfl) rfl h (fun r31 σ30 h => ?_)
      refine g_iload_n o (q := 82) 1 rfl rfl dX4_evening_81 rfl ?_
      refine g_iast o (q := 83) (ka_list kC_1) dX4_evening_82 rfl h (fun j32 σ33 h => ?_)
      refine g_aload_n o (q := 84) 2 rfl rfl dX4_evening_83 rfl ?_
      refine g_iload o (q := 86) 0 rfl dX4_evening_84 rfl ?_
      refine g_cvi o (q := 89) (As := [.int x29]) (rest := []) kv_X4_isCurtain lk_X4_83 kC_0 (by decide) rfl rfl rfl (fun _ _ hc => c_X4_isCurtain o.mk x29 hc) dX4_evening_86 rfl ⟨rfl, rfl, Nat.le_of_ble_eq_true rfl, Nat.le_of_ble_eq_true rfl⟩ (Nat.le_of_ble_eq_true rfl) rfl h (fun r35 σ34 h => ?_)
      refine g_if_eq o (tgt := 113) (q := 92) dX4_evening_89 (by decide) rfl h (fun h => ?_) (fun h => ?_)
      · refine g_sub (lv' := [(0, .ref (eA (xE X) 0)), (1, .int y1), (2, .int y2)]) [2, 3, 4] rfl ?_
        exact w_X4_evening_J113 hres o hr ih  h
      · refine g_aload_n o (q := 93) 2 rfl rfl dX4_evening_92 rfl ?_
        refine gf_X4_0 o (q := 96) kC_0 lk_X4_10 dX4_evening_93 rfl ?_
        refine gf_X1_8 o (q := 99) kC_1 lk_X4_86 dX4_evening_96 rfl ?_
        refine g_iload o (q := 101) 0 rfl dX4_evening_99 rfl ?_
        refine g_aald8 o (q := 102) (ka_curs kC_1) dX4_evening_101 rfl h (fun j38 hjj38 h => ?_)
        refine g_dup o (q := 103) rfl dX4_evening_102 rfl ?_
        refine gf_X0_2 o (q := 106) (kd_cur (ka_curs kC_1) hjj38) lk_X4_77 dX4_evening_103 rfl ?_
        refine g_iconst o (v := 1) (q := 107) (by decide) dX4_evening_106 rfl ?_
        refine g_iload_n o (q := 108) 1 rfl rfl dX4_evening_107 rfl ?_
        refine g_ishl o (q := 109) dX4_evening_108 rfl ?_
        refine g_ixor o (q := 110) dX4_evening_109 rfl ?_
        refine gp_X0_2 o (q := 113) (kd_cur (ka_curs kC_1) hjj38) lk_X4_77 dX4_evening_110 rfl h (fun σ39 h => ?_)
        refine g_sub (lv' := [(0, .ref (eA (xE X) 0)), (1, .int y1), (2, .int y2)]) [2, 3, 4] rfl ?_
        exact w_X4_evening_J113 hres o hr ih  h
set_option maxRecDepth 100000 in
set_option maxHeartbeats 4000000 in
theorem w_X4_evening {X : Cx} {l : Launch} {r : Int32} {σr : Mem} {res : Int32 × Mem} (hres : res = (r, σr)) (o : OK X cX4_evening RX4 sdC 5 rm_X4_evening l) (hr : RI X .int r σr) (x1 : Int32)  {σ : Mem} (h : f_X4_evening x1 σ = some res) : G X σ 0 [(0, .ref (eA (xE X) 0)), (1, .int x1)] [] := by
  unfold f_X4_evening at h
  refine g_iload_n o (q := 1) 1 rfl rfl dX4_evening_0 rfl ?_
  refine g_iconst o (v := 1) (q := 2) (by decide) dX4_evening_1 rfl ?_
  refine g_bipush o (v := 20) (q := 4) (by decide) dX4_evening_2 rfl ?_
  refine g_csi o (q := 7) (As := [.int x1, .int 1, .int 20]) (rest := []) kv_X4_isWithin lk_X4_47 rfl (fun _ _ hc => c_X4_isWithin o.mk x1 1 20 hc) dX4_evening_4 rfl ⟨rfl, rfl, Nat.le_of_ble_eq_true rfl, Nat.le_of_ble_eq_true rfl⟩ (Nat.le_of_ble_eq_true rfl) rfl h (fun r22 σ21 h => ?_)
  refine g_if_ne o (tgt := 16) (q := 10) dX4_evening_7 (by decide) rfl h (fun h => ?_) (fun h => ?_)
  · refine g_aload_n o (q := 17) 0 rfl rfl dX4_evening_16 rfl ?_
    refine gf_X4_0 o (q := 20) kC_0 lk_X4_10 dX4_evening_17 rfl ?_
    refine gf_X1_3 o (q := 23) kC_1 lk_X4_114 dX4_evening_20 rfl ?_
    refine g_ldc o (q := 25) lk_X4_117 dX4_evening_23 rfl ?_
    refine g_iload_n o (q := 26) 1 rfl rfl dX4_evening_25 rfl ?_
    refine g_isub o (q := 27) dX4_evening_26 rfl ?_
    refine g_icmp_le o (tgt := 36) (q := 30) dX4_evening_27 (by decide) rfl h (fun h => ?_) (fun h => ?_)
    · refine g_iconst o (v := 0) (q := 37) (by decide) dX4_evening_36 rfl ?_
      refine g_istore_n o (q := 38) dX4_evening_37 rfl rfl (by decide) h (fun x23 => [(2, .int x23), (0, .ref (eA (xE X) 0)), (1, .int x1)]) (fun _ => rfl) (fun x23 h => ?_)
      refine g_sub (lv' := [(0, .ref (eA (xE X) 0)), (1, .int x1), (2, .int x23)]) [1, 2, 0] rfl ?_
      exact w_X4_evening_L38 hres o hr  FU x1 x23 σ21  h
    · refine g_aload_n o (q := 31) 0 rfl rfl dX4_evening_30 rfl ?_
      refine g_iconst o (v := 4) (q := 32) (by decide) dX4_evening_31 rfl ?_
      refine g_cvi o (q := 35) (As := [.int 4]) (rest := []) kv_X4_find lk_X4_51 kC_0 (by decide) rfl rfl rfl (fun _ _ hc => c_X4_find o.mk 4 hc) dX4_evening_32 rfl ⟨rfl, rfl, Nat.le_of_ble_eq_true rfl, Nat.le_of_ble_eq_true rfl⟩ (Nat.le_of_ble_eq_true rfl) rfl h (fun r41 σ40 h => ?_)
      exact g_iret o hr (h.trans (congrArg some hres)) rfl dX4_evening_35
  · refine g_aload_n o (q := 11) 0 rfl rfl dX4_evening_10 rfl ?_
    refine g_iconst o (v := 0) (q := 12) (by decide) dX4_evening_11 rfl ?_
    refine g_cvi o (q := 15) (As := [.int 0]) (rest := []) kv_X4_find lk_X4_51 kC_0 (by decide) rfl rfl rfl (fun _ _ hc => c_X4_find o.mk 0 hc) dX4_evening_12 rfl ⟨rfl, rfl, Nat.le_of_ble_eq_true rfl, Nat.le_of_ble_eq_true rfl⟩ (Nat.le_of_ble_eq_true rfl) rfl h (fun r43 σ42 h => ?_)
    exact g_iret o hr (h.trans (congrArg some hres)) rfl dX4_evening_15
theorem c_X4_evening {l : Launch} {E : En} {mk : Mem → Mem} (hmk : MK mk sdC) (x1 : Int32)  {σ : Mem} {r : Int32} {τ : Mem} (h : f_X4_evening x1 σ = some (r, τ)) : Met l yX4_evening (Cond.code yX4_evening cX4_evening 5 (some .int) :: wt) rm_X4_evening (PW E mk [.ref (eA E 0), .int x1] σ) (QI E mk r τ) 0 0 (WA E) :=
  met_i (fun E => [.ref (eA E 0), .int x1]) (by decide) hmk (Nat.le_of_ble_eq_true rfl) (fun X o hr => w_X4_evening rfl o hr x1  h)
set_option maxRecDepth 100000 in
set_option maxHeartbeats 4000000 in
theorem w_X4_commonDivisorWithScenes_J23 {X : Cx} {l : Launch} {r : Int32} {σr : Mem} {res : Int32 × Mem} (hres : res = (r, σr)) (o : OK X cX4_commonDivisorWithScenes RX4 sdC 2 rm_X4_commonDivisorWithScenes l) (hr : RI X .int r σr) {k3 : Int32 → Int32 → Mem → Option (Int32 × Mem)} (hk3 : ∀ (y0 : Int32) (y1 : Int32) (σ : Mem), k3 y0 y1 σ = some res → G X σ 3 [(0, .int y0), (1, .int y1)] []) {y0 : Int32} {y1 : Int32}  {σ : Mem} (h : f_X4_commonDivisorWithScenes_J23 k3 y0 y1 σ = some res) : G X σ 23 [(0, .int y0), (1, .int y1)] [] := by
  unfold f_X4_commonDivisorWithScenes_J23 at h
  refine g_iinc o (q := 26) (dn := (-1)) dX4_commonDivisorWithScenes_23 rfl 1 rfl (by decide) (by decide) h (fun x22 => [(1, .int x22), (0, .int y0)]) (fun _ => rfl) (fun x22 h => ?_)
  refine g_goto o (tgt := 3) dX4_commonDivisorWithScenes_26 (by decide) ?_
  refine g_sub (lv' := [(0, .int y0), (1, .int x22)]) [1, 0] rfl ?_
  exact hk3 y0 x22 σ  h
set_option maxRecDepth 100000 in
set_option maxHeartbeats 4000000 in
theorem w_X4_commonDivisorWithScenes_L3 {X : Cx} {l : Launch} {r : Int32} {σr : Mem} {res : Int32 × Mem} (hres : res = (r, σr)) (o : OK X cX4_commonDivisorWithScenes RX4 sdC 2 rm_X4_commonDivisorWithScenes l) (hr : RI X .int r σr)   : ∀ (n : Nat) (y0 : Int32) (y1 : Int32) (σ : Mem), f_X4_commonDivisorWithScenes_L3  n y0 y1 σ = some res → G X σ 3 [(0, .int y0), (1, .int y1)] [] := by
  intro n
  induction n with
  | zero => intro y0 y1 σ  h; cases h
  | succ n ih =>
    intro y0 y1 σ  h
    rw [f_X4_commonDivisorWithScenes_L3_s] at h
    refine g_iload_n o (q := 4) 1 rfl rfl dX4_commonDivisorWithScenes_3 rfl ?_
    refine g_iconst o (v := 1) (q := 5) (by decide) dX4_commonDivisorWithScenes_4 rfl ?_
    refine g_icmp_le o (tgt := 29) (q := 8) dX4_commonDivisorWithScenes_5 (by decide) rfl h (fun h => ?_) (fun h => ?_)
    · refine g_iconst o (v := 1) (q := 30) (by decide) dX4_commonDivisorWithScenes_29 rfl ?_
      exact g_iret o hr (h.trans (congrArg some hres)) rfl dX4_commonDivisorWithScenes_30
    · refine g_bipush o (v := 12) (q := 10) (by decide) dX4_commonDivisorWithScenes_8 rfl ?_
      refine g_iload_n o (q := 11) 1 rfl rfl dX4_commonDivisorWithScenes_10 rfl ?_
      obtain ⟨hn, h⟩ := vN_some h
      refine g_irem o (q := 12) hn dX4_commonDivisorWithScenes_11 rfl ?_
      refine g_if_ne o (tgt := 23) (q := 15) dX4_commonDivisorWithScenes_12 (by decide) rfl h (fun h => ?_) (fun h => ?_)
      · exact w_X4_commonDivisorWithScenes_J23 hres o hr ih  h
      · refine g_iload_n o (q := 16) 0 rfl rfl dX4_commonDivisorWithScenes_15 rfl ?_
        refine g_iload_n o (q := 17) 1 rfl rfl dX4_commonDivisorWithScenes_16 rfl ?_
        obtain ⟨hn, h⟩ := vN_some h
        refine g_irem o (q := 18) hn dX4_commonDivisorWithScenes_17 rfl ?_
        refine g_if_ne o (tgt := 23) (q := 21) dX4_commonDivisorWithScenes_18 (by decide) rfl h (fun h => ?_) (fun h => ?_)
        · exact w_X4_commonDivisorWithScenes_J23 hres o hr ih  h
        · refine g_iload_n o (q := 22) 1 rfl rfl dX4_commonDivisorWithScenes_21 rfl ?_
          exact g_iret o hr (h.trans (congrArg some hres)) rfl dX4_commonDivisorWithScenes_22
set_option maxRecDepth 100000 in
set_option maxHeartbeats 4000000 in
theorem w_X4_commonDivisorWithScenes {X : Cx} {l : Launch} {r : Int32} {σr : Mem} {res : Int32 × Mem} (hres : res = (r, σr)) (o : OK X cX4_commonDivisorWithScenes RX4 sdC 2 rm_X4_commonDivisorWithScenes l) (hr : RI X .int r σr) (x0 : Int32)  {σ : Mem} (h : f_X4_commonDivisorWithScenes x0 σ = some res) : G X σ 0 [(0, .int x0)] [] := by
  unfold f_X4_commonDivisorWithScenes at h
  refine g_bipush o (v := 12) (q := 2) (by decide) dX4_commonDivisorWithScenes_0 rfl ?_
  refine g_istore_n o (q := 3) dX4_commonDivisorWithScenes_2 rfl rfl (by decide) h (fun x21 => [(1, .int x21), (0, .int x0)]) (fun _ => rfl) (fun x21 h => ?_)
  refine g_sub (lv' := [(0, .int x0), (1, .int x21)]) [1, 0] rfl ?_
  exact w_X4_commonDivisorWithScenes_L3 hres o hr  FU x0 x21 σ  h
theorem c_X4_commonDivisorWithScenes {l : Launch} {E : En} {mk : Mem → Mem} (hmk : MK mk sdC) (x0 : Int32)  {σ : Mem} {r : Int32} {τ : Mem} (h : f_X4_commonDivisorWithScenes x0 σ = some (r, τ)) : Met l yX4_commonDivisorWithScenes (Cond.code yX4_commonDivisorWithScenes cX4_commonDivisorWithScenes 2 (some .int) :: wt) rm_X4_commonDivisorWithScenes (PW E mk [.int x0] σ) (QI E mk r τ) 0 0 (WA E) :=
  met_i (fun E => [.int x0]) (by decide) hmk (Nat.le_of_ble_eq_true rfl) (fun X o hr => w_X4_commonDivisorWithScenes rfl o hr x0  h)
set_option maxRecDepth 100000 in
set_option maxHeartbeats 4000000 in
theorem w_X4_odds_J27 {X : Cx} {l : Launch} {r : Int64} {σr : Mem} {res : Int64 × Mem} (hres : res = (r, σr)) (o : OK X cX4_odds RX4 sdC 9 rm_X4_odds l) (hr : RJ X r σr)     {σ : Mem} (h : f_X4_odds_J27   σ = some res) : G X σ 27 [(0, .ref (eA (xE X) 0))] [] := by
  unfold f_X4_odds_J27 at h
  refine g_aload_n o (q := 28) 0 rfl rfl dX4_odds_27 rfl ?_
  refine g_iconst o (v := 0) (q := 29) (by decide) dX4_odds_28 rfl ?_
  refine g_cvi o (q := 32) (As := [.int 0]) (rest := []) kv_X4_find lk_X4_51 kC_0 (by decide) rfl rfl rfl (fun _ _ hc => c_X4_find o.mk 0 hc) dX4_odds_29 rfl ⟨rfl, rfl, Nat.le_of_ble_eq_true rfl, Nat.le_of_ble_eq_true rfl⟩ (Nat.le_of_ble_eq_true rfl) rfl h (fun r24 σ23 h => ?_)
  refine g_i2l o (q := 33) dX4_odds_32 rfl ?_
  exact g_lret o hr (h.trans (congrArg some hres)) dX4_odds_33
set_option maxRecDepth 100000 in
set_option maxHeartbeats 4000000 in
theorem w_X4_odds_L76 {X : Cx} {l : Launch} {r : Int64} {σr : Mem} {res : Int64 × Mem} (hres : res = (r, σr)) (o : OK X cX4_odds RX4 sdC 9 rm_X4_odds l) (hr : RJ X r σr)   : ∀ (n : Nat) (y2 : Int32) (y5 : Int32) (z6 : Int64) (y8 : Int32) (σ : Mem), f_X4_odds_L76  n y2 y5 z6 y8 σ = some res → G X σ 76 [(2, .int y2), (5, .int y5), (6, .long z6), (8, .int y8)] [] := by
  intro n
  induction n with
  | zero => intro y2 y5 z6 y8 σ  h; cases h
  | succ n ih =>
    intro y2 y5 z6 y8 σ  h
    rw [f_X4_odds_L76_s] at h
    refine g_iload o (q := 78) 3 rfl dX4_odds_76 rfl ?_
    refine g_iload_n o (q := 79) 0 rfl rfl dX4_odds_78 rfl ?_
    refine g_icmp_ge o (tgt := 96) (q := 82) dX4_odds_79 (by decide) rfl h (fun h => ?_) (fun h => ?_)
    · refine g_lload o (q := 98) 2 rfl dX4_odds_96 rfl ?_
      exact g_lret o hr (h.trans (congrArg some hres)) dX4_odds_98
    · refine g_lload o (q := 84) 2 rfl dX4_odds_82 rfl ?_
      refine g_iload o (q := 86) 1 rfl dX4_odds_84 rfl ?_
      refine g_i2l o (q := 87) dX4_odds_86 rfl ?_
      refine g_lmul o (q := 88) dX4_odds_87 rfl ?_
      refine g_lstore o (q := 90) dX4_odds_88 rfl (by decide) h (fun z38 => [(6, .long z38), (2, .int y2), (5, .int y5), (8, .int y8)]) (fun _ => rfl) (fun z38 h => ?_)
      refine g_iinc o (q := 93) (dn := 1) dX4_odds_90 rfl 3 rfl (by decide) (by decide) h (fun x39 => [(8, .int x39), (6, .long z38), (2, .int y2), (5, .int y5)]) (fun _ => rfl) (fun x39 h => ?_)
      refine g_goto o (tgt := 76) dX4_odds_93 (by decide) ?_
      refine g_sub (lv' := [(2, .int y2), (5, .int y5), (6, .long z38), (8, .int x39)]) [2, 3, 1, 0] rfl ?_
      exact ih y2 y5 z38 x39 σ  h
set_option maxRecDepth 100000 in
set_option maxHeartbeats 4000000 in
theorem w_X4_odds_J62 {X : Cx} {l : Launch} {r : Int64} {σr : Mem} {res : Int64 × Mem} (hres : res = (r, σr)) (o : OK X cX4_odds RX4 sdC 9 rm_X4_odds l) (hr : RJ X r σr)   {y2 : Int32} {y4 : Int32} {s0 : Int32}  {σ : Mem} (h : f_X4_odds_J62  y2 y4 s0 σ = some res) : G X σ 62 [(2, .int y2), (4, .int y4)] [.int s0] := by
  unfold f_X4_odds_J62 at h
  refine g_iload o (q := 64) 1 rfl dX4_odds_62 rfl ?_
  refine g_csi o (q := 67) (As := [.int y4]) (rest := [.int s0]) kv_X4_commonDivisorWithScenes lk_X4_189 rfl (fun _ _ hc => c_X4_commonDivisorWithScenes o.mk y4 hc) dX4_odds_64 rfl ⟨rfl, rfl, Nat.le_of_ble_eq_true rfl, Nat.le_of_ble_eq_true rfl⟩ (Nat.le_of_ble_eq_true rfl) rfl h (fun r34 σ33 h => ?_)
  obtain ⟨hn, h⟩ := vN_some h
  refine g_idiv o (q := 68) hn dX4_odds_67 rfl ?_
  refine g_istore o (q := 70) dX4_odds_68 rfl (by decide) h (fun x35 => [(5, .int x35), (2, .int y2), (4, .int y4)]) (fun _ => rfl) (fun x35 h => ?_)
  refine g_lconst o (v := 1) (q := 71) (by decide) dX4_odds_70 rfl ?_
  refine g_lstore o (q := 73) dX4_odds_71 rfl (by decide) h (fun z36 => [(6, .long z36), (5, .int x35), (2, .int y2), (4, .int y4)]) (fun _ => rfl) (fun z36 h => ?_)
  refine g_iconst o (v := 0) (q := 74) (by decide) dX4_odds_73 rfl ?_
  refine g_istore o (q := 76) dX4_odds_74 rfl (by decide) h (fun x37 => [(8, .int x37), (6, .long z36), (5, .int x35), (2, .int y2), (4, .int y4)]) (fun _ => rfl) (fun x37 h => ?_)
  refine g_sub (lv' := [(2, .int y2), (5, .int x35), (6, .long z36), (8, .int x37)]) [3, 2, 1, 0] rfl ?_
  exact w_X4_odds_L76 hres o hr  FU y2 x35 z36 x37 σ33  h
set_option maxRecDepth 100000 in
set_option maxHeartbeats 4000000 in
theorem w_X4_odds {X : Cx} {l : Launch} {r : Int64} {σr : Mem} {res : Int64 × Mem} (hres : res = (r, σr)) (o : OK X cX4_odds RX4 sdC 9 rm_X4_odds l) (hr : RJ X r σr) (x1 : Int32) (x2 : Int32) (x3 : Int32)  {σ : Mem} (h : f_X4_odds x1 x2 x3 σ = some res) : G X σ 0 [(0, .ref (eA (xE X) 0)), (1, .int x1), (2, .int x2), (3, .int x3)] [] := by
  unfold f_X4_odds at h
  refine g_aload_n o (q := 1) 0 rfl rfl dX4_odds_0 rfl ?_
  refine g_iload_n o (q := 2) 1 rfl rfl dX4_odds_1 rfl ?_
  refine g_cvi o (q := 5) (As := [.int x1]) (rest := []) kv_X4_isCurtain lk_X4_83 kC_0 (by decide) rfl rfl rfl (fun _ _ hc => c_X4_isCurtain o.mk x1 hc) dX4_odds_2 rfl ⟨rfl, rfl, Nat.le_of_ble_eq_true rfl, Nat.le_of_ble_eq_true rfl⟩ (Nat.le_of_ble_eq_true rfl) rfl h (fun r22 σ21 h => ?_)
  refine g_if_eq o (tgt := 27) (q := 8) dX4_odds_5 (by decide) rfl h (fun h => ?_) (fun h => ?_)
  · refine g_sub (lv' := [(0, .ref (eA (xE X) 0))]) [0] rfl ?_
    exact w_X4_odds_J27 hres o hr   h
  · refine g_iload_n o (q := 9) 2 rfl rfl dX4_odds_8 rfl ?_
    refine g_iconst o (v := 0) (q := 10) (by decide) dX4_odds_9 rfl ?_
    refine g_bipush o (v := 17) (q := 12) (by decide) dX4_odds_10 rfl ?_
    refine g_csi o (q := 15) (As := [.int x2, .int 0, .int 17]) (rest := []) kv_X4_isWithin lk_X4_47 rfl (fun _ _ hc => c_X4_isWithin o.mk x2 0 17 hc) dX4_odds_12 rfl ⟨rfl, rfl, Nat.le_of_ble_eq_true rfl, Nat.le_of_ble_eq_true rfl⟩ (Nat.le_of_ble_eq_true rfl) rfl h (fun r26 σ25 h => ?_)
    refine g_if_eq o (tgt := 27) (q := 18) dX4_odds_15 (by decide) rfl h (fun h => ?_) (fun h => ?_)
    · refine g_sub (lv' := [(0, .ref (eA (xE X) 0))]) [0] rfl ?_
      exact w_X4_odds_J27 hres o hr   h
    · refine g_iload_n o (q := 19) 3 rfl rfl dX4_odds_18 rfl ?_
      refine g_iconst o (v := 0) (q := 20) (by decide) dX4_odds_19 rfl ?_
      refine g_iconst o (v := 1) (q := 21) (by decide) dX4_odds_20 rfl ?_
      refine g_csi o (q := 24) (As := [.int x3, .int 0, .int 1]) (rest := []) kv_X4_isWithin lk_X4_47 rfl (fun _ _ hc => c_X4_isWithin o.mk x3 0 1 hc) dX4_odds_21 rfl ⟨rfl, rfl, Nat.le_of_ble_eq_true rfl, Nat.le_of_ble_eq_true rfl⟩ (Nat.le_of_ble_eq_true rfl) rfl h (fun r28 σ27 h => ?_)
      refine g_if_ne o (tgt := 34) (q := 27) dX4_odds_24 (by decide) rfl h (fun h => ?_) (fun h => ?_)
      · refine g_aload_n o (q := 35) 0 rfl rfl dX4_odds_34 rfl ?_
        refine gf_X4_0 o (q := 38) kC_0 lk_X4_10 dX4_odds_35 rfl ?_
        refine gf_X1_8 o (q := 41) kC_1 lk_X4_86 dX4_odds_38 rfl ?_
        refine g_iload_n o (q := 42) 1 rfl rfl dX4_odds_41 rfl ?_
        refine g_aald8 o (q := 43) (ka_curs kC_1) dX4_odds_42 rfl h (fun j29 hjj29 h => ?_)
        refine gf_X0_2 o (q := 46) (kd_cur (ka_curs kC_1) hjj29) lk_X4_77 dX4_odds_43 rfl ?_
        refine g_csi o (q := 49) (As := [.int (σ27 (1 + 3 + 1 + j29) 2)]) (rest := []) kv_J6_bitCount_0f7a4 lk_X4_167 rfl (fun _ _ hc => c_J6_bitCount_0f7a4 o.mk (σ27 (1 + 3 + 1 + j29) 2) hc) dX4_odds_46 rfl ⟨rfl, rfl, Nat.le_of_ble_eq_true rfl, Nat.le_of_ble_eq_true rfl⟩ (Nat.le_of_ble_eq_true rfl) rfl h (fun r31 σ30 h => ?_)
        refine g_istore o (q := 51) dX4_odds_49 rfl (by decide) h (fun x32 => [(4, .int x32), (0, .ref (eA (xE X) 0)), (1, .int x1), (2, .int x2), (3, .int x3)]) (fun _ => rfl) (fun x32 h => ?_)
        refine g_iload_n o (q := 52) 4 rfl rfl dX4_odds_51 rfl ?_
        refine g_if_ne o (tgt := 60) (q := 55) dX4_odds_52 (by decide) rfl h (fun h => ?_) (fun h => ?_)
        · refine g_bipush o (v := 12) (q := 62) (by decide) dX4_odds_60 rfl ?_
          refine g_sub (lv' := [(2, .int x2), (4, .int x32)]) [3, 0] rfl ?_
          exact w_X4_odds_J62 hres o hr   h
        · refine g_iload o (q := 57) 0 rfl dX4_odds_55 rfl ?_
          refine g_goto o (tgt := 62) dX4_odds_57 (by decide) ?_
          refine g_sub (lv' := [(2, .int x2), (4, .int x32)]) [3, 0] rfl ?_
          exact w_X4_odds_J62 hres o hr   h
      · refine g_sub (lv' := [(0, .ref (eA (xE X) 0))]) [0] rfl ?_
        exact w_X4_odds_J27 hres o hr   h
theorem c_X4_odds {l : Launch} {E : En} {mk : Mem → Mem} (hmk : MK mk sdC) (x1 : Int32) (x2 : Int32) (x3 : Int32)  {σ : Mem} {r : Int64} {τ : Mem} (h : f_X4_odds x1 x2 x3 σ = some (r, τ)) : Met l yX4_odds (Cond.code yX4_odds cX4_odds 9 (some .long) :: wt) rm_X4_odds (PW E mk [.ref (eA E 0), .int x1, .int x2, .int x3] σ) (QL E mk r τ) 0 0 (WA E) :=
  met_l (fun E => [.ref (eA E 0), .int x1, .int x2, .int x3]) (by decide) hmk (Nat.le_of_ble_eq_true rfl) (fun X o hr => w_X4_odds rfl o hr x1 x2 x3  h)
set_option maxRecDepth 100000 in
set_option maxHeartbeats 4000000 in
theorem w_X4_seed {X : Cx} {l : Launch} {r : Int32} {σr : Mem} {res : Int32 × Mem} (hres : res = (r, σr)) (o : OK X cX4_seed RX4 sdC 3 rm_X4_seed l) (hr : RI X .int r σr) (x1 : Int32)  {σ : Mem} (h : f_X4_seed x1 σ = some res) : G X σ 0 [(0, .ref (eA (xE X) 0)), (1, .int x1)] [] := by
  unfold f_X4_seed at h
  refine g_aload_n o (q := 1) 0 rfl rfl dX4_seed_0 rfl ?_
  refine gf_X4_0 o (q := 4) kC_0 lk_X4_10 dX4_seed_1 rfl ?_
  refine gf_X1_4 o (q := 7) kC_1 lk_X4_192 dX4_seed_4 rfl ?_
  refine g_istore_n o (q := 8) dX4_seed_7 rfl rfl (by decide) h (fun x21 => [(2, .int x21), (0, .ref (eA (xE X) 0)), (1, .int x1)]) (fun _ => rfl) (fun x21 h => ?_)
  refine g_aload_n o (q := 9) 1 rfl rfl dX4_seed_8 rfl ?_
  refine gf_X4_0 o (q := 12) kC_0 lk_X4_10 dX4_seed_9 rfl ?_
  refine g_iload_n o (q := 13) 2 rfl rfl dX4_seed_12 rfl ?_
  refine gp_X1_4 o (q := 16) kC_1 lk_X4_192 dX4_seed_13 rfl h (fun σ22 h => ?_)
  refine g_iload_n o (q := 17) 0 rfl rfl dX4_seed_16 rfl ?_
  exact g_iret o hr (h.trans (congrArg some hres)) rfl dX4_seed_17
theorem c_X4_seed {l : Launch} {E : En} {mk : Mem → Mem} (hmk : MK mk sdC) (x1 : Int32)  {σ : Mem} {r : Int32} {τ : Mem} (h : f_X4_seed x1 σ = some (r, τ)) : Met l yX4_seed (Cond.code yX4_seed cX4_seed 3 (some .int) :: wt) rm_X4_seed (PW E mk [.ref (eA E 0), .int x1] σ) (QI E mk r τ) 0 0 (WA E) :=
  met_i (fun E => [.ref (eA E 0), .int x1]) (by decide) hmk (Nat.le_of_ble_eq_true rfl) (fun X o hr => w_X4_seed rfl o hr x1  h)
set_option maxRecDepth 100000 in
set_option maxHeartbeats 4000000 in
theorem w_X4_feed_L39 {X : Cx} {l : Launch} {r : Int32} {σr : Mem} {res : Int32 × Mem} (hres : res = (r, σr)) (o : OK X cX4_feed RX4 sdC 4 rm_X4_feed l) (hr : RI X .int r σr)   : ∀ (n : Nat) (y1 : Int32) (y3 : Int32) (σ : Mem), f_X4_feed_L39  n y1 y3 σ = some res → G X σ 39 [(0, .ref (eA (xE X) 0)), (1, .int y1), (3, .int y3)] [] := by
  intro n
  induction n with
  | zero => intro y1 y3 σ  h; cases h
  | succ n ih =>
    intro y1 y3 σ  h
    rw [f_X4_feed_L39_s] at h
    refine g_iload_n o (q := 40) 2 rfl rfl dX4_feed_39 rfl ?_
    refine g_if_lt o (tgt := 63) (q := 43) dX4_feed_40 (by decide) rfl h (fun h => ?_) (fun h => ?_)
    · refine g_aload_n o (q := 64) 0 rfl rfl dX4_feed_63 rfl ?_
      refine gf_X4_5 o (q := 67) kC_0 lk_X4_32 dX4_feed_64 rfl ?_
      refine gf_X3_1 o (q := 70) kC_38 lk_X4_195 dX4_feed_67 rfl ?_
      exact g_iret o hr (h.trans (congrArg some hres)) rfl dX4_feed_70
    · refine g_aload_n o (q := 44) 0 rfl rfl dX4_feed_43 rfl ?_
      refine gf_X4_5 o (q := 47) kC_0 lk_X4_32 dX4_feed_44 rfl ?_
      refine g_iload_n o (q := 48) 1 rfl rfl dX4_feed_47 rfl ?_
      refine g_bipush o (v := 8) (q := 50) (by decide) dX4_feed_48 rfl ?_
      refine g_iload_n o (q := 51) 2 rfl rfl dX4_feed_50 rfl ?_
      refine g_imul o (q := 52) dX4_feed_51 rfl ?_
      refine g_ishr o (q := 53) dX4_feed_52 rfl ?_
      refine g_i2b o (q := 54) dX4_feed_53 rfl ?_
      refine g_cvv o (q := 57) (As := [.int ((y1 >>> ((8 * y3) &&& 31)).toInt8.toInt32)]) (rest := []) kv_X3_add lk_X4_198 kC_38 (by decide) rfl rfl rfl (fun _ _ hc => c_X3_add o.mk ((y1 >>> ((8 * y3) &&& 31)).toInt8.toInt32) hc) dX4_feed_54 rfl ⟨rfl, rfl, Nat.le_of_ble_eq_true rfl, Nat.le_of_ble_eq_true rfl⟩ (Nat.le_of_ble_eq_true rfl) rfl h (fun _u24 σ24 h => ?_)
      refine g_iinc o (q := 60) (dn := (-1)) dX4_feed_57 rfl 2 rfl (by decide) (by decide) h (fun x25 => [(3, .int x25), (0, .ref (eA (xE X) 0)), (1, .int y1)]) (fun _ => rfl) (fun x25 h => ?_)
      refine g_goto o (tgt := 39) dX4_feed_60 (by decide) ?_
      refine g_sub (lv' := [(0, .ref (eA (xE X) 0)), (1, .int y1), (3, .int x25)]) [1, 2, 0] rfl ?_
      exact ih y1 x25 σ24  h
set_option maxRecDepth 100000 in
set_option maxHeartbeats 4000000 in
theorem w_X4_feed {X : Cx} {l : Launch} {r : Int32} {σr : Mem} {res : Int32 × Mem} (hres : res = (r, σr)) (o : OK X cX4_feed RX4 sdC 4 rm_X4_feed l) (hr : RI X .int r σr) (x1 : Int32) (x2 : Int32)  {σ : Mem} (h : f_X4_feed x1 x2 σ = some res) : G X σ 0 [(0, .ref (eA (xE X) 0)), (1, .int x1), (2, .int x2)] [] := by
  unfold f_X4_feed at h
  refine g_iload_n o (q := 1) 2 rfl rfl dX4_feed_0 rfl ?_
  refine g_iconst o (v := 1) (q := 2) (by decide) dX4_feed_1 rfl ?_
  refine g_iconst o (v := 4) (q := 3) (by decide) dX4_feed_2 rfl ?_
  refine g_csi o (q := 6) (As := [.int x2, .int 1, .int 4]) (rest := []) kv_X4_isWithin lk_X4_47 rfl (fun _ _ hc => c_X4_isWithin o.mk x2 1 4 hc) dX4_feed_3 rfl ⟨rfl, rfl, Nat.le_of_ble_eq_true rfl, Nat.le_of_ble_eq_true rfl⟩ (Nat.le_of_ble_eq_true rfl) rfl h (fun r22 σ21 h => ?_)
  refine g_if_ne o (tgt := 15) (q := 9) dX4_feed_6 (by decide) rfl h (fun h => ?_) (fun h => ?_)
  · refine g_aload_n o (q := 16) 0 rfl rfl dX4_feed_15 rfl ?_
    refine gf_X4_5 o (q := 19) kC_0 lk_X4_32 dX4_feed_16 rfl ?_
    refine gf_X3_1 o (q := 22) kC_38 lk_X4_195 dX4_feed_19 rfl ?_
    refine g_bipush o (v := 120) (q := 24) (by decide) dX4_feed_22 rfl ?_
    refine g_iload_n o (q := 25) 2 rfl rfl dX4_feed_24 rfl ?_
    refine g_isub o (q := 26) dX4_feed_25 rfl ?_
    refine g_icmp_le o (tgt := 35) (q := 29) dX4_feed_26 (by decide) rfl h (fun h => ?_) (fun h => ?_)
    · refine g_iload_n o (q := 36) 2 rfl rfl dX4_feed_35 rfl ?_
      refine g_iconst o (v := 1) (q := 37) (by decide) dX4_feed_36 rfl ?_
      refine g_isub o (q := 38) dX4_feed_37 rfl ?_
      refine g_istore_n o (q := 39) dX4_feed_38 rfl rfl (by decide) h (fun x23 => [(3, .int x23), (0, .ref (eA (xE X) 0)), (1, .int x1), (2, .int x2)]) (fun _ => rfl) (fun x23 h => ?_)
      refine g_sub (lv' := [(0, .ref (eA (xE X) 0)), (1, .int x1), (3, .int x23)]) [1, 2, 0] rfl ?_
      exact w_X4_feed_L39 hres o hr  FU x1 x23 σ21  h
    · refine g_aload_n o (q := 30) 0 rfl rfl dX4_feed_29 rfl ?_
      refine g_iconst o (v := 1) (q := 31) (by decide) dX4_feed_30 rfl ?_
      refine g_cvi o (q := 34) (As := [.int 1]) (rest := []) kv_X4_find lk_X4_51 kC_0 (by decide) rfl rfl rfl (fun _ _ hc => c_X4_find o.mk 1 hc) dX4_feed_31 rfl ⟨rfl, rfl, Nat.le_of_ble_eq_true rfl, Nat.le_of_ble_eq_true rfl⟩ (Nat.le_of_ble_eq_true rfl) rfl h (fun r27 σ26 h => ?_)
      exact g_iret o hr (h.trans (congrArg some hres)) rfl dX4_feed_34
  · refine g_aload_n o (q := 10) 0 rfl rfl dX4_feed_9 rfl ?_
    refine g_iconst o (v := 0) (q := 11) (by decide) dX4_feed_10 rfl ?_
    refine g_cvi o (q := 14) (As := [.int 0]) (rest := []) kv_X4_find lk_X4_51 kC_0 (by decide) rfl rfl rfl (fun _ _ hc => c_X4_find o.mk 0 hc) dX4_feed_11 rfl ⟨rfl, rfl, Nat.le_of_ble_eq_true rfl, Nat.le_of_ble_eq_true rfl⟩ (Nat.le_of_ble_eq_true rfl) rfl h (fun r29 σ28 h => ?_)
    exact g_iret o hr (h.trans (congrArg some hres)) rfl dX4_feed_14
theorem c_X4_feed {l : Launch} {E : En} {mk : Mem → Mem} (hmk : MK mk sdC) (x1 : Int32) (x2 : Int32)  {σ : Mem} {r : Int32} {τ : Mem} (h : f_X4_feed x1 x2 σ = some (r, τ)) : Met l yX4_feed (Cond.code yX4_feed cX4_feed 4 (some .int) :: wt) rm_X4_feed (PW E mk [.ref (eA E 0), .int x1, .int x2] σ) (QI E mk r τ) 0 0 (WA E) :=
  met_i (fun E => [.ref (eA E 0), .int x1, .int x2]) (by decide) hmk (Nat.le_of_ble_eq_true rfl) (fun X o hr => w_X4_feed rfl o hr x1 x2  h)
set_option maxRecDepth 100000 in
set_option maxHeartbeats 4000000 in
theorem w_X4_wipe {X : Cx} {l : Launch} {r : Int32} {σr : Mem} {res : Int32 × Mem} (hres : res = (r, σr)) (o : OK X cX4_wipe RX4 sdC 2 rm_X4_wipe l) (hr : RI X .int r σr)   {σ : Mem} (h : f_X4_wipe  σ = some res) : G X σ 0 [(0, .ref (eA (xE X) 0))] [] := by
  unfold f_X4_wipe at h
  refine g_aload_n o (q := 1) 0 rfl rfl dX4_wipe_0 rfl ?_
  refine gf_X4_5 o (q := 4) kC_0 lk_X4_32 dX4_wipe_1 rfl ?_
  refine gf_X3_1 o (q := 7) kC_38 lk_X4_195 dX4_wipe_4 rfl ?_
  refine g_istore_n o (q := 8) dX4_wipe_7 rfl rfl (by decide) h (fun x21 => [(1, .int x21), (0, .ref (eA (xE X) 0))]) (fun _ => rfl) (fun x21 h => ?_)
  refine g_aload_n o (q := 9) 1 rfl rfl dX4_wipe_8 rfl ?_
  refine gf_X4_5 o (q := 12) kC_0 lk_X4_32 dX4_wipe_9 rfl ?_
  refine g_iconst o (v := 0) (q := 13) (by decide) dX4_wipe_12 rfl ?_
  refine gp_X3_1 o (q := 16) kC_38 lk_X4_195 dX4_wipe_13 rfl h (fun σ22 h => ?_)
  refine g_iload_n o (q := 17) 0 rfl rfl dX4_wipe_16 rfl ?_
  exact g_iret o hr (h.trans (congrArg some hres)) rfl dX4_wipe_17
theorem c_X4_wipe {l : Launch} {E : En} {mk : Mem → Mem} (hmk : MK mk sdC)   {σ : Mem} {r : Int32} {τ : Mem} (h : f_X4_wipe  σ = some (r, τ)) : Met l yX4_wipe (Cond.code yX4_wipe cX4_wipe 2 (some .int) :: wt) rm_X4_wipe (PW E mk [.ref (eA E 0)] σ) (QI E mk r τ) 0 0 (WA E) :=
  met_i (fun E => [.ref (eA E 0)]) (by decide) hmk (Nat.le_of_ble_eq_true rfl) (fun X o hr => w_X4_wipe rfl o hr   h)
