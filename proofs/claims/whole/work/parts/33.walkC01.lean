set_option maxRecDepth 100000 in
set_option maxHeartbeats 4000000 in
theorem w_X4_beatsUntil_L19 {X : Cx} {l : Launch} {r : Int32} {σr : Mem} {res : Int32 × Mem} (hres : res = (r, σr)) (o : OK X cX4_beatsUntil RX4 sdC 7 rm_X4_beatsUntil l) (hr : RI X .int r σr)   : ∀ (n : Nat) (y2 : Int32) (y3 : Int32) (y4 : Int32) (y5 : Int32) (σ : Mem), f_X4_beatsUntil_L19  n y2 y3 y4 y5 σ = some res → G X σ 19 [(0, .ref (eA (xE X) 0)), (2, .int y2), (3, .int y3), (4, .int y4), (5, .int y5)] [] := by
  intro n
  induction n with
  | zero => intro y2 y3 y4 y5 σ  h; cases h
  | succ n ih =>
    intro y2 y3 y4 y5 σ  h
    rw [f_X4_beatsUntil_L19_s] at h
    refine g_iload o (q := 21) 4 rfl dX4_beatsUntil_19 rfl ?_
    refine g_sipush o (v := 200) (q := 24) (by decide) dX4_beatsUntil_21 rfl ?_
    refine g_icmp_gt o (tgt := 90) (q := 27) dX4_beatsUntil_24 (by decide) rfl h (fun h => ?_) (fun h => ?_)
    · refine g_aload_n o (q := 91) 0 rfl rfl dX4_beatsUntil_90 rfl ?_
      refine g_iconst o (v := 3) (q := 92) (by decide) dX4_beatsUntil_91 rfl ?_
      refine g_cvi o (q := 95) (As := [.int 3]) (rest := []) kv_X4_find lk_X4_51 kC_0 (by decide) rfl rfl rfl (fun _ _ hc => c_X4_find o.mk 3 hc) dX4_beatsUntil_92 rfl ⟨rfl, rfl, Nat.le_of_ble_eq_true rfl, Nat.le_of_ble_eq_true rfl⟩ (Nat.le_of_ble_eq_true rfl) rfl h (fun r25 σ24 h => ?_)
      exact g_iret o hr (h.trans (congrArg some hres)) rfl dX4_beatsUntil_95
    · refine g_aload_n o (q := 28) 0 rfl rfl dX4_beatsUntil_27 rfl ?_
      refine gf_X4_0 o (q := 31) kC_0 lk_X4_10 dX4_beatsUntil_28 rfl ?_
      refine g_iload o (q := 33) 4 rfl dX4_beatsUntil_31 rfl ?_
      refine g_cvi o (q := 36) (As := [.int y5]) (rest := []) kv_X1_sceneIn lk_X4_90 kC_1 (by decide) rfl rfl rfl (fun _ _ hc => c_X1_sceneIn o.mk 1 y5 kC_1 hc) dX4_beatsUntil_33 rfl ⟨rfl, rfl, Nat.le_of_ble_eq_true rfl, Nat.le_of_ble_eq_true rfl⟩ (Nat.le_of_ble_eq_true rfl) rfl h (fun r27 σ26 h => ?_)
      refine g_istore o (q := 38) dX4_beatsUntil_36 rfl (by decide) h (fun x28 => [(6, .int x28), (0, .ref (eA (xE X) 0)), (2, .int y2), (3, .int y3), (4, .int y4), (5, .int y5)]) (fun _ => rfl) (fun x28 h => ?_)
      refine g_aload_n o (q := 39) 1 rfl rfl dX4_beatsUntil_38 rfl ?_
      refine gf_X4_4 o (q := 42) kC_0 lk_X4_25 dX4_beatsUntil_39 rfl ?_
      refine g_iload_n o (q := 43) 2 rfl rfl dX4_beatsUntil_42 rfl ?_
      refine g_iload o (q := 45) 0 rfl dX4_beatsUntil_43 rfl ?_
      refine g_aload_n o (q := 46) 1 rfl rfl dX4_beatsUntil_45 rfl ?_
      refine gf_X4_0 o (q := 49) kC_0 lk_X4_10 dX4_beatsUntil_46 rfl ?_
      refine gf_X1_0 o (q := 52) kC_1 lk_X4_55 dX4_beatsUntil_49 rfl ?_
      refine g_cvi o (q := 55) (As := [.int y2, .int x28, .int (σ26 1 0)]) (rest := []) kv_X0_tell lk_X4_93 kC_37 (by decide) rfl rfl rfl (fun _ _ hc => c_X0_tell o.mk 37 y2 x28 (σ26 1 0) kC_37 hc) dX4_beatsUntil_52 rfl ⟨rfl, rfl, Nat.le_of_ble_eq_true rfl, Nat.le_of_ble_eq_true rfl⟩ (Nat.le_of_ble_eq_true rfl) rfl h (fun r30 σ29 h => ?_)
      refine g_iload_n o (q := 56) 3 rfl rfl dX4_beatsUntil_55 rfl ?_
      refine g_iload o (q := 58) 4 rfl dX4_beatsUntil_56 rfl ?_
      refine g_csi o (q := 61) (As := [.int r30, .int y3, .int y4]) (rest := []) kv_X4_isWithin lk_X4_47 rfl (fun _ _ hc => c_X4_isWithin o.mk r30 y3 y4 hc) dX4_beatsUntil_58 rfl ⟨rfl, rfl, Nat.le_of_ble_eq_true rfl, Nat.le_of_ble_eq_true rfl⟩ (Nat.le_of_ble_eq_true rfl) rfl h (fun r32 σ31 h => ?_)
      refine g_if_eq o (tgt := 67) (q := 64) dX4_beatsUntil_61 (by decide) rfl h (fun h => ?_) (fun h => ?_)
      · refine g_aload_n o (q := 68) 1 rfl rfl dX4_beatsUntil_67 rfl ?_
        refine gf_X4_4 o (q := 71) kC_0 lk_X4_25 dX4_beatsUntil_68 rfl ?_
        refine g_iload o (q := 73) 0 rfl dX4_beatsUntil_71 rfl ?_
        refine g_aload_n o (q := 74) 1 rfl rfl dX4_beatsUntil_73 rfl ?_
        refine gf_X4_0 o (q := 77) kC_0 lk_X4_10 dX4_beatsUntil_74 rfl ?_
        refine gf_X1_0 o (q := 80) kC_1 lk_X4_55 dX4_beatsUntil_77 rfl ?_
        refine g_cvi o (q := 83) (As := [.int x28, .int (σ31 1 0)]) (rest := []) kv_X0_passBeat lk_X4_252 kC_37 (by decide) rfl rfl rfl (fun _ _ hc => c_X0_passBeat o.mk 37 x28 (σ31 1 0) kC_37 hc) dX4_beatsUntil_80 rfl ⟨rfl, rfl, Nat.le_of_ble_eq_true rfl, Nat.le_of_ble_eq_true rfl⟩ (Nat.le_of_ble_eq_true rfl) rfl h (fun r34 σ33 h => ?_)
        refine g_pop o (q := 84) rfl dX4_beatsUntil_83 rfl ?_
        refine g_iinc o (q := 87) (dn := 1) dX4_beatsUntil_84 rfl 5 rfl (by decide) (by decide) h (fun x35 => [(5, .int x35), (6, .int x28), (0, .ref (eA (xE X) 0)), (2, .int y2), (3, .int y3), (4, .int y4)]) (fun _ => rfl) (fun x35 h => ?_)
        refine g_goto o (tgt := 19) dX4_beatsUntil_87 (by decide) ?_
        refine g_sub (lv' := [(0, .ref (eA (xE X) 0)), (2, .int y2), (3, .int y3), (4, .int y4), (5, .int x35)]) [2, 3, 4, 5, 0] rfl ?_
        exact ih y2 y3 y4 x35 σ33  h
      · refine g_iload o (q := 66) 5 rfl dX4_beatsUntil_64 rfl ?_
        exact g_iret o hr (h.trans (congrArg some hres)) rfl dX4_beatsUntil_66
set_option maxRecDepth 100000 in
set_option maxHeartbeats 4000000 in
theorem w_X4_beatsUntil {X : Cx} {l : Launch} {r : Int32} {σr : Mem} {res : Int32 × Mem} (hres : res = (r, σr)) (o : OK X cX4_beatsUntil RX4 sdC 7 rm_X4_beatsUntil l) (hr : RI X .int r σr) (x1 : Int32) (x2 : Int32) (x3 : Int32) (x4 : Int32)  {σ : Mem} (h : f_X4_beatsUntil x1 x2 x3 x4 σ = some res) : G X σ 0 [(0, .ref (eA (xE X) 0)), (1, .int x1), (2, .int x2), (3, .int x3), (4, .int x4)] [] := by
  unfold f_X4_beatsUntil at h
  refine g_aload_n o (q := 1) 0 rfl rfl dX4_beatsUntil_0 rfl ?_
  refine gf_X4_4 o (q := 4) kC_0 lk_X4_25 dX4_beatsUntil_1 rfl ?_
  refine g_aload_n o (q := 5) 0 rfl rfl dX4_beatsUntil_4 rfl ?_
  refine gf_X4_0 o (q := 8) kC_0 lk_X4_10 dX4_beatsUntil_5 rfl ?_
  refine gf_X1_8 o (q := 11) kC_1 lk_X4_86 dX4_beatsUntil_8 rfl ?_
  refine g_iload_n o (q := 12) 1 rfl rfl dX4_beatsUntil_11 rfl ?_
  refine g_aald8 o (q := 13) (ka_curs kC_1) dX4_beatsUntil_12 rfl h (fun j21 hjj21 h => ?_)
  refine g_cvv o (q := 16) (As := [.ref (eA (xE X) (1 + 3 + 1 + j21))]) (rest := []) kv_X0_take lk_X4_140 kC_37 (by decide) rfl rfl rfl (fun _ _ hc => c_X0_take o.mk 37 (1 + 3 + 1 + j21) kC_37 (kd_cur (ka_curs kC_1) hjj21) hc) dX4_beatsUntil_13 rfl ⟨rfl, rfl, Nat.le_of_ble_eq_true rfl, Nat.le_of_ble_eq_true rfl⟩ (Nat.le_of_ble_eq_true rfl) rfl h (fun _u22 σ22 h => ?_)
  refine g_iconst o (v := 0) (q := 17) (by decide) dX4_beatsUntil_16 rfl ?_
  refine g_istore o (q := 19) dX4_beatsUntil_17 rfl (by decide) h (fun x23 => [(5, .int x23), (0, .ref (eA (xE X) 0)), (1, .int x1), (2, .int x2), (3, .int x3), (4, .int x4)]) (fun _ => rfl) (fun x23 h => ?_)
  refine g_sub (lv' := [(0, .ref (eA (xE X) 0)), (2, .int x2), (3, .int x3), (4, .int x4), (5, .int x23)]) [1, 3, 4, 5, 0] rfl ?_
  exact w_X4_beatsUntil_L19 hres o hr  FU x2 x3 x4 x23 σ22  h
theorem c_X4_beatsUntil {l : Launch} {E : En} {mk : Mem → Mem} (hmk : MK mk sdC) (x1 : Int32) (x2 : Int32) (x3 : Int32) (x4 : Int32)  {σ : Mem} {r : Int32} {τ : Mem} (h : f_X4_beatsUntil x1 x2 x3 x4 σ = some (r, τ)) : Met l yX4_beatsUntil (Cond.code yX4_beatsUntil cX4_beatsUntil 7 (some .int) :: wt) rm_X4_beatsUntil (PW E mk [.ref (eA E 0), .int x1, .int x2, .int x3, .int x4] σ) (QI E mk r τ) 0 0 (WA E) :=
  met_i (fun E => [.ref (eA E 0), .int x1, .int x2, .int x3, .int x4]) (by decide) hmk (Nat.le_of_ble_eq_true rfl) (fun X o hr => w_X4_beatsUntil rfl o hr x1 x2 x3 x4  h)
set_option maxRecDepth 100000 in
set_option maxHeartbeats 4000000 in
theorem w_X4_down {X : Cx} {l : Launch} {r : Int32} {σr : Mem} {res : Int32 × Mem} (hres : res = (r, σr)) (o : OK X cX4_down RX4 sdC 2 rm_X4_down l) (hr : RI X .int r σr) (x1 : Int32)  {σ : Mem} (h : f_X4_down x1 σ = some res) : G X σ 0 [(0, .ref (eA (xE X) 0)), (1, .int x1)] [] := by
  unfold f_X4_down at h
  refine g_aload_n o (q := 1) 0 rfl rfl dX4_down_0 rfl ?_
  refine g_iload_n o (q := 2) 1 rfl rfl dX4_down_1 rfl ?_
  refine g_cvi o (q := 5) (As := [.int x1]) (rest := []) kv_X4_isCurtain lk_X4_83 kC_0 (by decide) rfl rfl rfl (fun _ _ hc => c_X4_isCurtain o.mk x1 hc) dX4_down_2 rfl ⟨rfl, rfl, Nat.le_of_ble_eq_true rfl, Nat.le_of_ble_eq_true rfl⟩ (Nat.le_of_ble_eq_true rfl) rfl h (fun r22 σ21 h => ?_)
  refine g_if_ne o (tgt := 14) (q := 8) dX4_down_5 (by decide) rfl h (fun h => ?_) (fun h => ?_)
  · refine g_aload_n o (q := 15) 0 rfl rfl dX4_down_14 rfl ?_
    refine g_iload_n o (q := 16) 1 rfl rfl dX4_down_15 rfl ?_
    refine g_iconst o (v := 3) (q := 17) (by decide) dX4_down_16 rfl ?_
    refine g_iconst o (v := 0) (q := 18) (by decide) dX4_down_17 rfl ?_
    refine g_iconst o (v := 0) (q := 19) (by decide) dX4_down_18 rfl ?_
    refine g_cvi o (q := 22) (As := [.int x1, .int 3, .int 0, .int 0]) (rest := []) kv_X4_beatsUntil lk_X4_150 kC_0 (by decide) rfl rfl rfl (fun _ _ hc => c_X4_beatsUntil o.mk x1 3 0 0 hc) dX4_down_19 rfl ⟨rfl, rfl, Nat.le_of_ble_eq_true rfl, Nat.le_of_ble_eq_true rfl⟩ (Nat.le_of_ble_eq_true rfl) rfl h (fun r24 σ23 h => ?_)
    exact g_iret o hr (h.trans (congrArg some hres)) rfl dX4_down_22
  · refine g_aload_n o (q := 9) 0 rfl rfl dX4_down_8 rfl ?_
    refine g_iconst o (v := 0) (q := 10) (by decide) dX4_down_9 rfl ?_
    refine g_cvi o (q := 13) (As := [.int 0]) (rest := []) kv_X4_find lk_X4_51 kC_0 (by decide) rfl rfl rfl (fun _ _ hc => c_X4_find o.mk 0 hc) dX4_down_10 rfl ⟨rfl, rfl, Nat.le_of_ble_eq_true rfl, Nat.le_of_ble_eq_true rfl⟩ (Nat.le_of_ble_eq_true rfl) rfl h (fun r26 σ25 h => ?_)
    exact g_iret o hr (h.trans (congrArg some hres)) rfl dX4_down_13
theorem c_X4_down {l : Launch} {E : En} {mk : Mem → Mem} (hmk : MK mk sdC) (x1 : Int32)  {σ : Mem} {r : Int32} {τ : Mem} (h : f_X4_down x1 σ = some (r, τ)) : Met l yX4_down (Cond.code yX4_down cX4_down 2 (some .int) :: wt) rm_X4_down (PW E mk [.ref (eA E 0), .int x1] σ) (QI E mk r τ) 0 0 (WA E) :=
  met_i (fun E => [.ref (eA E 0), .int x1]) (by decide) hmk (Nat.le_of_ble_eq_true rfl) (fun X o hr => w_X4_down rfl o hr x1  h)
set_option maxRecDepth 100000 in
set_option maxHeartbeats 4000000 in
theorem w_X4_up {X : Cx} {l : Launch} {r : Int32} {σr : Mem} {res : Int32 × Mem} (hres : res = (r, σr)) (o : OK X cX4_up RX4 sdC 2 rm_X4_up l) (hr : RI X .int r σr) (x1 : Int32)  {σ : Mem} (h : f_X4_up x1 σ = some res) : G X σ 0 [(0, .ref (eA (xE X) 0)), (1, .int x1)] [] := by
  unfold f_X4_up at h
  refine g_aload_n o (q := 1) 0 rfl rfl dX4_up_0 rfl ?_
  refine g_iload_n o (q := 2) 1 rfl rfl dX4_up_1 rfl ?_
  refine g_cvi o (q := 5) (As := [.int x1]) (rest := []) kv_X4_isCurtain lk_X4_83 kC_0 (by decide) rfl rfl rfl (fun _ _ hc => c_X4_isCurtain o.mk x1 hc) dX4_up_2 rfl ⟨rfl, rfl, Nat.le_of_ble_eq_true rfl, Nat.le_of_ble_eq_true rfl⟩ (Nat.le_of_ble_eq_true rfl) rfl h (fun r22 σ21 h => ?_)
  refine g_if_ne o (tgt := 14) (q := 8) dX4_up_5 (by decide) rfl h (fun h => ?_) (fun h => ?_)
  · refine g_aload_n o (q := 15) 0 rfl rfl dX4_up_14 rfl ?_
    refine g_iload_n o (q := 16) 1 rfl rfl dX4_up_15 rfl ?_
    refine g_iconst o (v := 3) (q := 17) (by decide) dX4_up_16 rfl ?_
    refine g_bipush o (v := 20) (q := 19) (by decide) dX4_up_17 rfl ?_
    refine g_bipush o (v := 20) (q := 21) (by decide) dX4_up_19 rfl ?_
    refine g_cvi o (q := 24) (As := [.int x1, .int 3, .int 20, .int 20]) (rest := []) kv_X4_beatsUntil lk_X4_150 kC_0 (by decide) rfl rfl rfl (fun _ _ hc => c_X4_beatsUntil o.mk x1 3 20 20 hc) dX4_up_21 rfl ⟨rfl, rfl, Nat.le_of_ble_eq_true rfl, Nat.le_of_ble_eq_true rfl⟩ (Nat.le_of_ble_eq_true rfl) rfl h (fun r24 σ23 h => ?_)
    exact g_iret o hr (h.trans (congrArg some hres)) rfl dX4_up_24
  · refine g_aload_n o (q := 9) 0 rfl rfl dX4_up_8 rfl ?_
    refine g_iconst o (v := 0) (q := 10) (by decide) dX4_up_9 rfl ?_
    refine g_cvi o (q := 13) (As := [.int 0]) (rest := []) kv_X4_find lk_X4_51 kC_0 (by decide) rfl rfl rfl (fun _ _ hc => c_X4_find o.mk 0 hc) dX4_up_10 rfl ⟨rfl, rfl, Nat.le_of_ble_eq_true rfl, Nat.le_of_ble_eq_true rfl⟩ (Nat.le_of_ble_eq_true rfl) rfl h (fun r26 σ25 h => ?_)
    exact g_iret o hr (h.trans (congrArg some hres)) rfl dX4_up_13
theorem c_X4_up {l : Launch} {E : En} {mk : Mem → Mem} (hmk : MK mk sdC) (x1 : Int32)  {σ : Mem} {r : Int32} {τ : Mem} (h : f_X4_up x1 σ = some (r, τ)) : Met l yX4_up (Cond.code yX4_up cX4_up 2 (some .int) :: wt) rm_X4_up (PW E mk [.ref (eA E 0), .int x1] σ) (QI E mk r τ) 0 0 (WA E) :=
  met_i (fun E => [.ref (eA E 0), .int x1]) (by decide) hmk (Nat.le_of_ble_eq_true rfl) (fun X o hr => w_X4_up rfl o hr x1  h)
set_option maxRecDepth 100000 in
set_option maxHeartbeats 4000000 in
theorem w_X4_weary_J18 {X : Cx} {l : Launch} {r : Int32} {σr : Mem} {res : Int32 × Mem} (hres : res = (r, σr)) (o : OK X cX4_weary RX4 sdC 3 rm_X4_weary l) (hr : RI X .int r σr)     {σ : Mem} (h : f_X4_weary_J18   σ = some res) : G X σ 18 [(0, .ref (eA (xE X) 0))] [] := by
  unfold f_X4_weary_J18 at h
  refine g_aload_n o (q := 19) 0 rfl rfl dX4_weary_18 rfl ?_
  refine g_iconst o (v := 0) (q := 20) (by decide) dX4_weary_19 rfl ?_
  refine g_cvi o (q := 23) (As := [.int 0]) (rest := []) kv_X4_find lk_X4_51 kC_0 (by decide) rfl rfl rfl (fun _ _ hc => c_X4_find o.mk 0 hc) dX4_weary_20 rfl ⟨rfl, rfl, Nat.le_of_ble_eq_true rfl, Nat.le_of_ble_eq_true rfl⟩ (Nat.le_of_ble_eq_true rfl) rfl h (fun r24 σ23 h => ?_)
  exact g_iret o hr (h.trans (congrArg some hres)) rfl dX4_weary_23
set_option maxRecDepth 100000 in
set_option maxHeartbeats 4000000 in
theorem w_X4_weary {X : Cx} {l : Launch} {r : Int32} {σr : Mem} {res : Int32 × Mem} (hres : res = (r, σr)) (o : OK X cX4_weary RX4 sdC 3 rm_X4_weary l) (hr : RI X .int r σr) (x1 : Int32) (x2 : Int32)  {σ : Mem} (h : f_X4_weary x1 x2 σ = some res) : G X σ 0 [(0, .ref (eA (xE X) 0)), (1, .int x1), (2, .int x2)] [] := by
  unfold f_X4_weary at h
  refine g_aload_n o (q := 1) 0 rfl rfl dX4_weary_0 rfl ?_
  refine g_iload_n o (q := 2) 1 rfl rfl dX4_weary_1 rfl ?_
  refine g_cvi o (q := 5) (As := [.int x1]) (rest := []) kv_X4_isCurtain lk_X4_83 kC_0 (by decide) rfl rfl rfl (fun _ _ hc => c_X4_isCurtain o.mk x1 hc) dX4_weary_2 rfl ⟨rfl, rfl, Nat.le_of_ble_eq_true rfl, Nat.le_of_ble_eq_true rfl⟩ (Nat.le_of_ble_eq_true rfl) rfl h (fun r22 σ21 h => ?_)
  refine g_if_eq o (tgt := 18) (q := 8) dX4_weary_5 (by decide) rfl h (fun h => ?_) (fun h => ?_)
  · refine g_sub (lv' := [(0, .ref (eA (xE X) 0))]) [0] rfl ?_
    exact w_X4_weary_J18 hres o hr   h
  · refine g_iload_n o (q := 9) 2 rfl rfl dX4_weary_8 rfl ?_
    refine g_iconst o (v := 0) (q := 10) (by decide) dX4_weary_9 rfl ?_
    refine g_bipush o (v := 99) (q := 12) (by decide) dX4_weary_10 rfl ?_
    refine g_csi o (q := 15) (As := [.int x2, .int 0, .int 99]) (rest := []) kv_X4_isWithin lk_X4_47 rfl (fun _ _ hc => c_X4_isWithin o.mk x2 0 99 hc) dX4_weary_12 rfl ⟨rfl, rfl, Nat.le_of_ble_eq_true rfl, Nat.le_of_ble_eq_true rfl⟩ (Nat.le_of_ble_eq_true rfl) rfl h (fun r26 σ25 h => ?_)
    refine g_if_ne o (tgt := 24) (q := 18) dX4_weary_15 (by decide) rfl h (fun h => ?_) (fun h => ?_)
    · refine g_aload_n o (q := 25) 0 rfl rfl dX4_weary_24 rfl ?_
      refine g_iload_n o (q := 26) 1 rfl rfl dX4_weary_25 rfl ?_
      refine g_iconst o (v := 1) (q := 27) (by decide) dX4_weary_26 rfl ?_
      refine g_iconst o (v := 0) (q := 28) (by decide) dX4_weary_27 rfl ?_
      refine g_iload_n o (q := 29) 2 rfl rfl dX4_weary_28 rfl ?_
      refine g_cvi o (q := 32) (As := [.int x1, .int 1, .int 0, .int x2]) (rest := []) kv_X4_beatsUntil lk_X4_150 kC_0 (by decide) rfl rfl rfl (fun _ _ hc => c_X4_beatsUntil o.mk x1 1 0 x2 hc) dX4_weary_29 rfl ⟨rfl, rfl, Nat.le_of_ble_eq_true rfl, Nat.le_of_ble_eq_true rfl⟩ (Nat.le_of_ble_eq_true rfl) rfl h (fun r28 σ27 h => ?_)
      exact g_iret o hr (h.trans (congrArg some hres)) rfl dX4_weary_32
    · refine g_sub (lv' := [(0, .ref (eA (xE X) 0))]) [0] rfl ?_
      exact w_X4_weary_J18 hres o hr   h
theorem c_X4_weary {l : Launch} {E : En} {mk : Mem → Mem} (hmk : MK mk sdC) (x1 : Int32) (x2 : Int32)  {σ : Mem} {r : Int32} {τ : Mem} (h : f_X4_weary x1 x2 σ = some (r, τ)) : Met l yX4_weary (Cond.code yX4_weary cX4_weary 3 (some .int) :: wt) rm_X4_weary (PW E mk [.ref (eA E 0), .int x1, .int x2] σ) (QI E mk r τ) 0 0 (WA E) :=
  met_i (fun E => [.ref (eA E 0), .int x1, .int x2]) (by decide) hmk (Nat.le_of_ble_eq_true rfl) (fun X o hr => w_X4_weary rfl o hr x1 x2  h)
set_option maxRecDepth 100000 in
set_option maxHeartbeats 4000000 in
theorem w_X4_saved_L30 {X : Cx} {l : Launch} {r : Int32} {σr : Mem} {res : Int32 × Mem} (hres : res = (r, σr)) (o : OK X cX4_saved RX4 sdC 3 rm_X4_saved l) (hr : RI X .int r σr)   : ∀ (n : Nat) (y1 : Int32) (y2 : Int32) (σ : Mem), f_X4_saved_L30  n y1 y2 σ = some res → G X σ 30 [(0, .ref (eA (xE X) 0)), (1, .int y1), (2, .int y2)] [] := by
  intro n
  induction n with
  | zero => intro y1 y2 σ  h; cases h
  | succ n ih =>
    intro y1 y2 σ  h
    rw [f_X4_saved_L30_s] at h
    refine g_iload_n o (q := 31) 2 rfl rfl dX4_saved_30 rfl ?_
    refine g_sipush o (v := 200) (q := 34) (by decide) dX4_saved_31 rfl ?_
    refine g_icmp_gt o (tgt := 63) (q := 37) dX4_saved_34 (by decide) rfl h (fun h => ?_) (fun h => ?_)
    · refine g_aload_n o (q := 64) 0 rfl rfl dX4_saved_63 rfl ?_
      refine g_iconst o (v := 3) (q := 65) (by decide) dX4_saved_64 rfl ?_
      refine g_cvi o (q := 68) (As := [.int 3]) (rest := []) kv_X4_find lk_X4_51 kC_0 (by decide) rfl rfl rfl (fun _ _ hc => c_X4_find o.mk 3 hc) dX4_saved_65 rfl ⟨rfl, rfl, Nat.le_of_ble_eq_true rfl, Nat.le_of_ble_eq_true rfl⟩ (Nat.le_of_ble_eq_true rfl) rfl h (fun r26 σ25 h => ?_)
      exact g_iret o hr (h.trans (congrArg some hres)) rfl dX4_saved_68
    · refine g_aload_n o (q := 38) 0 rfl rfl dX4_saved_37 rfl ?_
      refine gf_X4_3 o (q := 41) kC_0 lk_X4_19 dX4_saved_38 rfl ?_
      refine gf_X1_2 o (q := 44) kC_25 lk_X4_124 dX4_saved_41 rfl ?_
      refine g_iload_n o (q := 45) 1 rfl rfl dX4_saved_44 rfl ?_
      refine g_icmp_lt o (tgt := 50) (q := 48) dX4_saved_45 (by decide) rfl h (fun h => ?_) (fun h => ?_)
      · refine g_aload_n o (q := 51) 0 rfl rfl dX4_saved_50 rfl ?_
        refine gf_X4_3 o (q := 54) kC_0 lk_X4_19 dX4_saved_51 rfl ?_
        refine g_cvv o (q := 57) (As := []) (rest := []) kv_X1_passBeat lk_X4_154 kC_25 (by decide) rfl rfl rfl (fun _ _ hc => c_X1_passBeat o.mk 25 kC_25 hc) dX4_saved_54 rfl ⟨rfl, rfl, Nat.le_of_ble_eq_true rfl, Nat.le_of_ble_eq_true rfl⟩ (Nat.le_of_ble_eq_true rfl) rfl h (fun _u27 σ27 h => ?_)
        refine g_iinc o (q := 60) (dn := 1) dX4_saved_57 rfl 2 rfl (by decide) (by decide) h (fun x28 => [(2, .int x28), (0, .ref (eA (xE X) 0)), (1, .int y1)]) (fun _ => rfl) (fun x28 h => ?_)
        refine g_goto o (tgt := 30) dX4_saved_60 (by decide) ?_
        refine g_sub (lv' := [(0, .ref (eA (xE X) 0)), (1, .int y1), (2, .int x28)]) [1, 2, 0] rfl ?_
        exact ih y1 x28 σ27  h
      · refine g_iload_n o (q := 49) 2 rfl rfl dX4_saved_48 rfl ?_
        exact g_iret o hr (h.trans (congrArg some hres)) rfl dX4_saved_49
set_option maxRecDepth 100000 in
set_option maxHeartbeats 4000000 in
theorem w_X4_saved {X : Cx} {l : Launch} {r : Int32} {σr : Mem} {res : Int32 × Mem} (hres : res = (r, σr)) (o : OK X cX4_saved RX4 sdC 3 rm_X4_saved l) (hr : RI X .int r σr) (x1 : Int32)  {σ : Mem} (h : f_X4_saved x1 σ = some res) : G X σ 0 [(0, .ref (eA (xE X) 0)), (1, .int x1)] [] := by
  unfold f_X4_saved at h
  refine g_iload_n o (q := 1) 1 rfl rfl dX4_saved_0 rfl ?_
  refine g_iconst o (v := 0) (q := 2) (by decide) dX4_saved_1 rfl ?_
  refine g_sipush o (v := 900) (q := 5) (by decide) dX4_saved_2 rfl ?_
  refine g_csi o (q := 8) (As := [.int x1, .int 0, .int 900]) (rest := []) kv_X4_isWithin lk_X4_47 rfl (fun _ _ hc => c_X4_isWithin o.mk x1 0 900 hc) dX4_saved_5 rfl ⟨rfl, rfl, Nat.le_of_ble_eq_true rfl, Nat.le_of_ble_eq_true rfl⟩ (Nat.le_of_ble_eq_true rfl) rfl h (fun r22 σ21 h => ?_)
  refine g_if_ne o (tgt := 17) (q := 11) dX4_saved_8 (by decide) rfl h (fun h => ?_) (fun h => ?_)
  · refine g_aload_n o (q := 18) 0 rfl rfl dX4_saved_17 rfl ?_
    refine gf_X4_3 o (q := 21) kC_0 lk_X4_19 dX4_saved_18 rfl ?_
    refine g_aload_n o (q := 22) 0 rfl rfl dX4_saved_21 rfl ?_
    refine gf_X4_0 o (q := 25) kC_0 lk_X4_10 dX4_saved_22 rfl ?_
    refine g_cvv o (q := 28) (As := [.ref (eA (xE X) 1)]) (rest := []) kv_X1_take lk_X4_147 kC_25 (by decide) rfl rfl rfl (fun _ _ hc => c_X1_take o.mk 25 1 kC_25 kC_1 hc) dX4_saved_25 rfl ⟨rfl, rfl, Nat.le_of_ble_eq_true rfl, Nat.le_of_ble_eq_true rfl⟩ (Nat.le_of_ble_eq_true rfl) rfl h (fun _u23 σ23 h => ?_)
    refine g_iconst o (v := 0) (q := 29) (by decide) dX4_saved_28 rfl ?_
    refine g_istore_n o (q := 30) dX4_saved_29 rfl rfl (by decide) h (fun x24 => [(2, .int x24), (0, .ref (eA (xE X) 0)), (1, .int x1)]) (fun _ => rfl) (fun x24 h => ?_)
    refine g_sub (lv' := [(0, .ref (eA (xE X) 0)), (1, .int x1), (2, .int x24)]) [1, 2, 0] rfl ?_
    exact w_X4_saved_L30 hres o hr  FU x1 x24 σ23  h
  · refine g_aload_n o (q := 12) 0 rfl rfl dX4_saved_11 rfl ?_
    refine g_iconst o (v := 0) (q := 13) (by decide) dX4_saved_12 rfl ?_
    refine g_cvi o (q := 16) (As := [.int 0]) (rest := []) kv_X4_find lk_X4_51 kC_0 (by decide) rfl rfl rfl (fun _ _ hc => c_X4_find o.mk 0 hc) dX4_saved_13 rfl ⟨rfl, rfl, Nat.le_of_ble_eq_true rfl, Nat.le_of_ble_eq_true rfl⟩ (Nat.le_of_ble_eq_true rfl) rfl h (fun r30 σ29 h => ?_)
    exact g_iret o hr (h.trans (congrArg some hres)) rfl dX4_saved_16
theorem c_X4_saved {l : Launch} {E : En} {mk : Mem → Mem} (hmk : MK mk sdC) (x1 : Int32)  {σ : Mem} {r : Int32} {τ : Mem} (h : f_X4_saved x1 σ = some (r, τ)) : Met l yX4_saved (Cond.code yX4_saved cX4_saved 3 (some .int) :: wt) rm_X4_saved (PW E mk [.ref (eA E 0), .int x1] σ) (QI E mk r τ) 0 0 (WA E) :=
  met_i (fun E => [.ref (eA E 0), .int x1]) (by decide) hmk (Nat.le_of_ble_eq_true rfl) (fun X o hr => w_X4_saved rfl o hr x1  h)
set_option maxRecDepth 100000 in
set_option maxHeartbeats 4000000 in
theorem w_X4_sceneFor_J17 {X : Cx} {l : Launch} {r : Int32} {σr : Mem} {res : Int32 × Mem} (hres : res = (r, σr)) (o : OK X cX4_sceneFor RX4 sdC 6 rm_X4_sceneFor l) (hr : RI X .int r σr)     {σ : Mem} (h : f_X4_sceneFor_J17   σ = some res) : G X σ 17 [(0, .ref (eA (xE X) 0))] [] := by
  unfold f_X4_sceneFor_J17 at h
  refine g_aload_n o (q := 18) 0 rfl rfl dX4_sceneFor_17 rfl ?_
  refine g_iconst o (v := 0) (q := 19) (by decide) dX4_sceneFor_18 rfl ?_
  refine g_cvi o (q := 22) (As := [.int 0]) (rest := []) kv_X4_find lk_X4_51 kC_0 (by decide) rfl rfl rfl (fun _ _ hc => c_X4_find o.mk 0 hc) dX4_sceneFor_19 rfl ⟨rfl, rfl, Nat.le_of_ble_eq_true rfl, Nat.le_of_ble_eq_true rfl⟩ (Nat.le_of_ble_eq_true rfl) rfl h (fun r24 σ23 h => ?_)
  exact g_iret o hr (h.trans (congrArg some hres)) rfl dX4_sceneFor_22
set_option maxRecDepth 100000 in
set_option maxHeartbeats 4000000 in
theorem w_X4_sceneFor_J93 {X : Cx} {l : Launch} {r : Int32} {σr : Mem} {res : Int32 × Mem} (hres : res = (r, σr)) (o : OK X cX4_sceneFor RX4 sdC 6 rm_X4_sceneFor l) (hr : RI X .int r σr) {k32 : Int32 → Int32 → Int32 → Int32 → Int32 → Mem → Option (Int32 × Mem)} (hk32 : ∀ (y1 : Int32) (y2 : Int32) (y3 : Int32) (y4 : Int32) (y5 : Int32) (σ : Mem), k32 y1 y2 y3 y4 y5 σ = some res → G X σ 32 [(0, .ref (eA (xE X) 0)), (1, .int y1), (2, .int y2), (3, .int y3), (4, .int y4), (5, .int y5)] []) {y1 : Int32} {y2 : Int32} {y3 : Int32} {y4 : Int32} {y5 : Int32}  {σ : Mem} (h : f_X4_sceneFor_J93 k32 y1 y2 y3 y4 y5 σ = some res) : G X σ 93 [(0, .ref (eA (xE X) 0)), (1, .int y1), (2, .int y2), (3, .int y3), (4, .int y4), (5, .int y5)] [] := by
  unfold f_X4_sceneFor_J93 at h
  refine g_iinc o (q := 96) (dn := 1) dX4_sceneFor_93 rfl 5 rfl (by decide) (by decide) h (fun x34 => [(5, .int x34), (0, .ref (eA (xE X) 0)), (1, .int y1), (2, .int y2), (3, .int y3), (4, .int y4)]) (fun _ => rfl) (fun x34 h => ?_)
  refine g_goto o (tgt := 32) dX4_sceneFor_96 (by decide) ?_
  refine g_sub (lv' := [(0, .ref (eA (xE X) 0)), (1, .int y1), (2, .int y2), (3, .int y3), (4, .int y4), (5, .int x34)]) [1, 2, 3, 4, 5, 0] rfl ?_
  exact hk32 y1 y2 y3 y4 x34 σ  h
set_option maxRecDepth 100000 in
set_option maxHeartbeats 4000000 in
theorem w_X4_sceneFor_L32 {X : Cx} {l : Launch} {r : Int32} {σr : Mem} {res : Int32 × Mem} (hres : res = (r, σr)) (o : OK X cX4_sceneFor RX4 sdC 6 rm_X4_sceneFor l) (hr : RI X .int r σr)   : ∀ (n : Nat) (y1 : Int32) (y2 : Int32) (y3 : Int32) (y4 : Int32) (y5 : Int32) (σ : Mem), f_X4_sceneFor_L32  n y1 y2 y3 y4 y5 σ = some res → G X σ 32 [(0, .ref (eA (xE X) 0)), (1, .int y1), (2, .int y2), (3, .int y3), (4, .int y4), (5, .int y5)] [] := by
  intro n
  induction n with
  | zero => intro y1 y2 y3 y4 y5 σ  h; cases h
  | succ n ih =>
    intro y1 y2 y3 y4 y5 σ  h
    rw [f_X4_sceneFor_L32_s] at h
    refine g_iload o (q := 34) 5 rfl dX4_sceneFor_32 rfl ?_
    refine g_bipush o (v := 12) (q := 36) (by decide) dX4_sceneFor_34 rfl ?_
    refine g_icmp_ge o (tgt := 99) (q := 39) dX4_sceneFor_36 (by decide) rfl h (fun h => ?_) (fun h => ?_)
    · refine g_iload_n o (q := 100) 3 rfl rfl dX4_sceneFor_99 rfl ?_
      exact g_iret o hr (h.trans (congrArg some hres)) rfl dX4_sceneFor_100
    · refine g_aload_n o (q := 40) 0 rfl rfl dX4_sceneFor_39 rfl ?_
      refine gf_X4_3 o (q := 43) kC_0 lk_X4_19 dX4_sceneFor_40 rfl ?_
      refine g_aload_n o (q := 44) 0 rfl rfl dX4_sceneFor_43 rfl ?_
      refine gf_X4_0 o (q := 47) kC_0 lk_X4_10 dX4_sceneFor_44 rfl ?_
      refine g_cvv o (q := 50) (As := [.ref (eA (xE X) 1)]) (rest := []) kv_X1_take lk_X4_147 kC_25 (by decide) rfl rfl rfl (fun _ _ hc => c_X1_take o.mk 25 1 kC_25 kC_1 hc) dX4_sceneFor_47 rfl ⟨rfl, rfl, Nat.le_of_ble_eq_true rfl, Nat.le_of_ble_eq_true rfl⟩ (Nat.le_of_ble_eq_true rfl) rfl h (fun _u30 σ30 h => ?_)
      refine g_aload_n o (q := 51) 0 rfl rfl dX4_sceneFor_50 rfl ?_
      refine gf_X4_3 o (q := 54) kC_0 lk_X4_19 dX4_sceneFor_51 rfl ?_
      refine gf_X1_6 o (q := 57) kC_25 lk_X4_63 dX4_sceneFor_54 rfl ?_
      refine g_iload_n o (q := 58) 1 rfl rfl dX4_sceneFor_57 rfl ?_
      refine g_iload o (q := 60) 5 rfl dX4_sceneFor_58 rfl ?_
      refine g_iast o (q := 61) (ka_list kC_25) dX4_sceneFor_60 rfl h (fun j31 σ32 h => ?_)
      refine g_aload_n o (q := 62) 0 rfl rfl dX4_sceneFor_61 rfl ?_
      refine gf_X4_3 o (q := 65) kC_0 lk_X4_19 dX4_sceneFor_62 rfl ?_
      refine g_iload_n o (q := 66) 2 rfl rfl dX4_sceneFor_65 rfl ?_
      refine g_cvv o (q := 69) (As := [.int y2]) (rest := []) kv_X1_passBeats lk_X4_118 kC_25 (by decide) rfl rfl rfl (fun _ _ hc => c_X1_passBeats o.mk 25 y2 kC_25 hc) dX4_sceneFor_66 rfl ⟨rfl, rfl, Nat.le_of_ble_eq_true rfl, Nat.le_of_ble_eq_true rfl⟩ (Nat.le_of_ble_eq_true rfl) rfl h (fun _u33 σ33 h => ?_)
      refine g_aload_n o (q := 70) 0 rfl rfl dX4_sceneFor_69 rfl ?_
      refine gf_X4_3 o (q := 73) kC_0 lk_X4_19 dX4_sceneFor_70 rfl ?_
      refine gf_X1_1 o (q := 76) kC_25 lk_X4_121 dX4_sceneFor_73 rfl ?_
      refine g_iload o (q := 78) 4 rfl dX4_sceneFor_76 rfl ?_
      refine g_icmp_ge o (tgt := 93) (q := 81) dX4_sceneFor_78 (by decide) rfl h (fun h => ?_) (fun h => ?_)
      · exact w_X4_sceneFor_J93 hres o hr ih  h
      · refine g_aload_n o (q := 82) 0 rfl rfl dX4_sceneFor_81 rfl ?_
        refine gf_X4_3 o (q := 85) kC_0 lk_X4_19 dX4_sceneFor_82 rfl ?_
        refine gf_X1_1 o (q := 88) kC_25 lk_X4_121 dX4_sceneFor_85 rfl ?_
        refine g_istore o (q := 90) dX4_sceneFor_88 rfl (by decide) h (fun x35 => [(4, .int x35), (0, .ref (eA (xE X) 0)), (1, .int y1), (2, .int y2), (3, .int y3), (5, .int y5)]) (fun _ => rfl) (fun x35 h => ?_)
        refine g_iload o (q := 92) 5 rfl dX4_sceneFor_90 rfl ?_
        refine g_istore_n o (q := 93) dX4_sceneFor_92 rfl rfl (by decide) h (fun x36 => [(3, .int x36), (4, .int x35), (0, .ref (eA (xE X) 0)), (1, .int y1), (2, .int y2), (5, .int y5)]) (fun _ => rfl) (fun x36 h => ?_)
        refine g_sub (lv' := [(0, .ref (eA (xE X) 0)), (1, .int y1), (2, .int y2), (3, .int x36), (4, .int x35), (5, .int y5)]) [2, 3, 4, 0, 1, 5] rfl ?_
        exact w_X4_sceneFor_J93 hres o hr ih  h
set_option maxRecDepth 100000 in
set_option maxHeartbeats 4000000 in
theorem w_X4_sceneFor {X : Cx} {l : Launch} {r : Int32} {σr : Mem} {res : Int32 × Mem} (hres : res = (r, σr)) (o : OK X cX4_sceneFor RX4 sdC 6 rm_X4_sceneFor l) (hr : RI X .int r σr) (x1 : Int32) (x2 : Int32)  {σ : Mem} (h : f_X4_sceneFor x1 x2 σ = some res) : G X σ 0 [(0, .ref (eA (xE X) 0)), (1, .int x1), (2, .int x2)] [] := by
  unfold f_X4_sceneFor at h
  refine g_iload_n o (q := 1) 1 rfl rfl dX4_sceneFor_0 rfl ?_
  refine g_csi o (q := 4) (As := [.int x1]) (rest := []) kv_X4_isPlace lk_X4_59 rfl (fun _ _ hc => c_X4_isPlace o.mk x1 hc) dX4_sceneFor_1 rfl ⟨rfl, rfl, Nat.le_of_ble_eq_true rfl, Nat.le_of_ble_eq_true rfl⟩ (Nat.le_of_ble_eq_true rfl) rfl h (fun r22 σ21 h => ?_)
  refine g_if_eq o (tgt := 17) (q := 7) dX4_sceneFor_4 (by decide) rfl h (fun h => ?_) (fun h => ?_)
  · refine g_sub (lv' := [(0, .ref (eA (xE X) 0))]) [0] rfl ?_
    exact w_X4_sceneFor_J17 hres o hr   h
  · refine g_iload_n o (q := 8) 2 rfl rfl dX4_sceneFor_7 rfl ?_
    refine g_iconst o (v := 0) (q := 9) (by decide) dX4_sceneFor_8 rfl ?_
    refine g_bipush o (v := 60) (q := 11) (by decide) dX4_sceneFor_9 rfl ?_
    refine g_csi o (q := 14) (As := [.int x2, .int 0, .int 60]) (rest := []) kv_X4_isWithin lk_X4_47 rfl (fun _ _ hc => c_X4_isWithin o.mk x2 0 60 hc) dX4_sceneFor_11 rfl ⟨rfl, rfl, Nat.le_of_ble_eq_true rfl, Nat.le_of_ble_eq_true rfl⟩ (Nat.le_of_ble_eq_true rfl) rfl h (fun r26 σ25 h => ?_)
    refine g_if_ne o (tgt := 23) (q := 17) dX4_sceneFor_14 (by decide) rfl h (fun h => ?_) (fun h => ?_)
    · refine g_iconst o (v := 0) (q := 24) (by decide) dX4_sceneFor_23 rfl ?_
      refine g_istore_n o (q := 25) dX4_sceneFor_24 rfl rfl (by decide) h (fun x27 => [(3, .int x27), (0, .ref (eA (xE X) 0)), (1, .int x1), (2, .int x2)]) (fun _ => rfl) (fun x27 h => ?_)
      refine g_ldc o (q := 27) lk_X4_157 dX4_sceneFor_25 rfl ?_
      refine g_istore o (q := 29) dX4_sceneFor_27 rfl (by decide) h (fun x28 => [(4, .int x28), (3, .int x27), (0, .ref (eA (xE X) 0)), (1, .int x1), (2, .int x2)]) (fun _ => rfl) (fun x28 h => ?_)
      refine g_iconst o (v := 0) (q := 30) (by decide) dX4_sceneFor_29 rfl ?_
      refine g_istore o (q := 32) dX4_sceneFor_30 rfl (by decide) h (fun x29 => [(5, .int x29), (4, .int x28), (3, .int x27), (0, .ref (eA (xE X) 0)), (1, .int x1), (2, .int x2)]) (fun _ => rfl) (fun x29 h => ?_)
      refine g_sub (lv' := [(0, .ref (eA (xE X) 0)), (1, .int x1), (2, .int x2), (3, .int x27), (4, .int x28), (5, .int x29)]) [3, 4, 5, 2, 1, 0] rfl ?_
      exact w_X4_sceneFor_L32 hres o hr  FU x1 x2 x27 x28 x29 σ25  h
    · refine g_sub (lv' := [(0, .ref (eA (xE X) 0))]) [0] rfl ?_
      exact w_X4_sceneFor_J17 hres o hr   h
theorem c_X4_sceneFor {l : Launch} {E : En} {mk : Mem → Mem} (hmk : MK mk sdC) (x1 : Int32) (x2 : Int32)  {σ : Mem} {r : Int32} {τ : Mem} (h : f_X4_sceneFor x1 x2 σ = some (r, τ)) : Met l yX4_sceneFor (Cond.code yX4_sceneFor cX4_sceneFor 6 (some .int) :: wt) rm_X4_sceneFor (PW E mk [.ref (eA E 0), .int x1, .int x2] σ) (QI E mk r τ) 0 0 (WA E) :=
  met_i (fun E => [.ref (eA E 0), .int x1, .int x2]) (by decide) hmk (Nat.le_of_ble_eq_true rfl) (fun X o hr => w_X4_sceneFor rfl o hr x1 x2  h)
set_option maxRecDepth 100000 in
set_option maxHeartbeats 4000000 in
theorem w_X4_kindFor_J18 {X : Cx} {l : Launch} {r : Int32} {σr : Mem} {res : Int32 × Mem} (hres : res = (r, σr)) (o : OK X cX4_kindFor RX4 sdC 6 rm_X4_kindFor l) (hr : RI X .int r σr)     {σ : Mem} (h : f_X4_kindFor_J18   σ = some res) : G X σ 18 [(0, .ref (eA (xE X) 0))] [] := by
  unfold f_X4_kindFor_J18 at h
  refine g_aload_n o (q := 19) 0 rfl rfl dX4_kindFor_18 rfl ?_
  refine g_iconst o (v := 0) (q := 20) (by decide) dX4_kindFor_19 rfl ?_
  refine g_cvi o (q := 23) (As := [.int 0]) (rest := []) kv_X4_find lk_X4_51 kC_0 (by decide) rfl rfl rfl (fun _ _ hc => c_X4_find o.mk 0 hc) dX4_kindFor_20 rfl ⟨rfl, rfl, Nat.le_of_ble_eq_true rfl, Nat.le_of_ble_eq_true rfl⟩ (Nat.le_of_ble_eq_true rfl) rfl h (fun r24 σ23 h => ?_)
  exact g_iret o hr (h.trans (congrArg some hres)) rfl dX4_kindFor_23
set_option maxRecDepth 100000 in
set_option maxHeartbeats 4000000 in
theorem w_X4_kindFor_J94 {X : Cx} {l : Launch} {r : Int32} {σr : Mem} {res : Int32 × Mem} (hres : res = (r, σr)) (o : OK X cX4_kindFor RX4 sdC 6 rm_X4_kindFor l) (hr : RI X .int r σr) {k32 : Int32 → Int32 → Int32 → Int32 → Int32 → Mem → Option (Int32 × Mem)} (hk32 : ∀ (y1 : Int32) (y2 : Int32) (y3 : Int32) (y4 : Int32) (y5 : Int32) (σ : Mem), k32 y1 y2 y3 y4 y5 σ = some res → G X σ 32 [(0, .ref (eA (xE X) 0)), (1, .int y1), (2, .int y2), (3, .int y3), (4, .int y4), (5, .int y5)] []) {y1 : Int32} {y2 : Int32} {y3 : Int32} {y4 : Int32} {y5 : Int32}  {σ : Mem} (h : f_X4_kindFor_J94 k32 y1 y2 y3 y4 y5 σ = some res) : G X σ 94 [(0, .ref (eA (xE X) 0)), (1, .int y1), (2, .int y2), (3, .int y3), (4, .int y4), (5, .int y5)] [] := by
  unfold f_X4_kindFor_J94 at h
  refine g_iinc o (q := 97) (dn := 1) dX4_kindFor_94 rfl 5 rfl (by decide) (by decide) h (fun x35 => [(5, .int x35), (0, .ref (eA (xE X) 0)), (1, .int y1), (2, .int y2), (3, .int y3), (4, .int y4)]) (fun _ => rfl) (fun x35 h => ?_)
  refine g_goto o (tgt := 32) dX4_kindFor_97 (by decide) ?_
  refine g_sub (lv' := [(0, .ref (eA (xE X) 0)), (1, .int y1), (2, .int y2), (3, .int y3), (4, .int y4), (5, .int x35)]) [1, 2, 3, 4, 5, 0] rfl ?_
  exact hk32 y1 y2 y3 y4 x35 σ  h
set_option maxRecDepth 100000 in
set_option maxHeartbeats 4000000 in
theorem w_X4_kindFor_L32 {X : Cx} {l : Launch} {r : Int32} {σr : Mem} {res : Int32 × Mem} (hres : res = (r, σr)) (o : OK X cX4_kindFor RX4 sdC 6 rm_X4_kindFor l) (hr : RI X .int r σr)   : ∀ (n : Nat) (y1 : Int32) (y2 : Int32) (y3 : Int32) (y4 : Int32) (y5 : Int32) (σ : Mem), f_X4_kindFor_L32  n y1 y2 y3 y4 y5 σ = some res → G X σ 32 [(0, .ref (eA (xE X) 0)), (1, .int y1), (2, .int y2), (3, .int y3), (4, .int y4), (5, .int y5)] [] := by
  intro n
  induction n with
  | zero => intro y1 y2 y3 y4 y5 σ  h; cases h
  | succ n ih =>
    intro y1 y2 y3 y4 y5 σ  h
    rw [f_X4_kindFor_L32_s] at h
    refine g_iload o (q := 34) 5 rfl dX4_kindFor_32 rfl ?_
    refine g_bipush o (v := 7) (q := 36) (by decide) dX4_kindFor_34 rfl ?_
    refine g_icmp_ge o (tgt := 100) (q := 39) dX4_kindFor_36 (by decide) rfl h (fun h => ?_) (fun h => ?_)
    · refine g_iload_n o (q := 101) 3 rfl rfl dX4_kindFor_100 rfl ?_
      exact g_iret o hr (h.trans (congrArg some hres)) rfl dX4_kindFor_101
    · refine g_aload_n o (q := 40) 0 rfl rfl dX4_kindFor_39 rfl ?_
      refine gf_X4_4 o (q := 43) kC_0 lk_X4_25 dX4_kindFor_40 rfl ?_
      refine g_aload_n o (q := 44) 0 rfl rfl dX4_kindFor_43 rfl ?_
      refine gf_X4_0 o (q := 47) kC_0 lk_X4_10 dX4_kindFor_44 rfl ?_
      refine gf_X1_8 o (q := 50) kC_1 lk_X4_86 dX4_kindFor_47 rfl ?_
      refine g_iload_n o (q := 51) 1 rfl rfl dX4_kindFor_50 rfl ?_
      refine g_aald8 o (q := 52) (ka_curs kC_1) dX4_kindFor_51 rfl h (fun j30 hjj30 h => ?_)
      refine g_cvv o (q := 55) (As := [.ref (eA (xE X) (1 + 3 + 1 + j30))]) (rest := []) kv_X0_take lk_X4_140 kC_37 (by decide) rfl rfl rfl (fun _ _ hc => c_X0_take o.mk 37 (1 + 3 + 1 + j30) kC_37 (kd_cur (ka_curs kC_1) hjj30) hc) dX4_kindFor_52 rfl ⟨rfl, rfl, Nat.le_of_ble_eq_true rfl, Nat.le_of_ble_eq_true rfl⟩ (Nat.le_of_ble_eq_true rfl) rfl h (fun _u31 σ31 h => ?_)
      refine g_aload_n o (q := 56) 0 rfl rfl dX4_kindFor_55 rfl ?_
      refine gf_X4_4 o (q := 59) kC_0 lk_X4_25 dX4_kindFor_56 rfl ?_
      refine g_iload o (q := 61) 5 rfl dX4_kindFor_59 rfl ?_
      refine gp_X0_0 o (q := 64) kC_37 lk_X4_158 dX4_kindFor_61 rfl h (fun σ32 h => ?_)
      refine g_aload_n o (q := 65) 0 rfl rfl dX4_kindFor_64 rfl ?_
      refine g_iload_n o (q := 66) 2 rfl rfl dX4_kindFor_65 rfl ?_
      refine g_cvi o (q := 69) (As := [.int y2]) (rest := []) kv_X4_passProbe lk_X4_144 kC_0 (by decide) rfl rfl rfl (fun _ _ hc => c_X4_passProbe o.mk y2 hc) dX4_kindFor_66 rfl ⟨rfl, rfl, Nat.le_of_ble_eq_true rfl, Nat.le_of_ble_eq_true rfl⟩ (Nat.le_of_ble_eq_true rfl) rfl h (fun r34 σ33 h => ?_)
      refine g_pop o (q := 70) rfl dX4_kindFor_69 rfl ?_
      refine g_aload_n o (q := 71) 0 rfl rfl dX4_kindFor_70 rfl ?_
      refine gf_X4_4 o (q := 74) kC_0 lk_X4_25 dX4_kindFor_71 rfl ?_
      refine gf_X0_1 o (q := 77) kC_37 lk_X4_161 dX4_kindFor_74 rfl ?_
      refine g_iload o (q := 79) 4 rfl dX4_kindFor_77 rfl ?_
      refine g_icmp_le o (tgt := 94) (q := 82) dX4_kindFor_79 (by decide) rfl h (fun h => ?_) (fun h => ?_)
      · exact w_X4_kindFor_J94 hres o hr ih  h
      · refine g_aload_n o (q := 83) 0 rfl rfl dX4_kindFor_82 rfl ?_
        refine gf_X4_4 o (q := 86) kC_0 lk_X4_25 dX4_kindFor_83 rfl ?_
        refine gf_X0_1 o (q := 89) kC_37 lk_X4_161 dX4_kindFor_86 rfl ?_
        refine g_istore o (q := 91) dX4_kindFor_89 rfl (by decide) h (fun x36 => [(4, .int x36), (0, .ref (eA (xE X) 0)), (1, .int y1), (2, .int y2), (3, .int y3), (5, .int y5)]) (fun _ => rfl) (fun x36 h => ?_)
        refine g_iload o (q := 93) 5 rfl dX4_kindFor_91 rfl ?_
        refine g_istore_n o (q := 94) dX4_kindFor_93 rfl rfl (by decide) h (fun x37 => [(3, .int x37), (4, .int x36), (0, .ref (eA (xE X) 0)), (1, .int y1), (2, .int y2), (5, .int y5)]) (fun _ => rfl) (fun x37 h => ?_)
        refine g_sub (lv' := [(0, .ref (eA (xE X) 0)), (1, .int y1), (2, .int y2), (3, .int x37), (4, .int x36), (5, .int y5)]) [2, 3, 4, 0, 1, 5] rfl ?_
        exact w_X4_kindFor_J94 hres o hr ih  h
set_option maxRecDepth 100000 in
set_option maxHeartbeats 4000000 in
theorem w_X4_kindFor {X : Cx} {l : Launch} {r : Int32} {σr : Mem} {res : Int32 × Mem} (hres : res = (r, σr)) (o : OK X cX4_kindFor RX4 sdC 6 rm_X4_kindFor l) (hr : RI X .int r σr) (x1 : Int32) (x2 : Int32)  {σ : Mem} (h : f_X4_kindFor x1 x2 σ = some res) : G X σ 0 [(0, .ref (eA (xE X) 0)), (1, .int x1), (2, .int x2)] [] := by
  unfold f_X4_kindFor at h
  refine g_aload_n o (q := 1) 0 rfl rfl dX4_kindFor_0 rfl ?_
  refine g_iload_n o (q := 2) 1 rfl rfl dX4_kindFor_1 rfl ?_
  refine g_cvi o (q := 5) (As := [.int x1]) (rest := []) kv_X4_isCurtain lk_X4_83 kC_0 (by decide) rfl rfl rfl (fun _ _ hc => c_X4_isCurtain o.mk x1 hc) dX4_kindFor_2 rfl ⟨rfl, rfl, Nat.le_of_ble_eq_true rfl, Nat.le_of_ble_eq_true rfl⟩ (Nat.le_of_ble_eq_true rfl) rfl h (fun r22 σ21 h => ?_)
  refine g_if_eq o (tgt := 18) (q := 8) dX4_kindFor_5 (by decide) rfl h (fun h => ?_) (fun h => ?_)
  · refine g_sub (lv' := [(0, .ref (eA (xE X) 0))]) [0] rfl ?_
    exact w_X4_kindFor_J18 hres o hr   h
  · refine g_iload_n o (q := 9) 2 rfl rfl dX4_kindFor_8 rfl ?_
    refine g_iconst o (v := 0) (q := 10) (by decide) dX4_kindFor_9 rfl ?_
    refine g_bipush o (v := 60) (q := 12) (by decide) dX4_kindFor_10 rfl ?_
    refine g_csi o (q := 15) (As := [.int x2, .int 0, .int 60]) (rest := []) kv_X4_isWithin lk_X4_47 rfl (fun _ _ hc => c_X4_isWithin o.mk x2 0 60 hc) dX4_kindFor_12 rfl ⟨rfl, rfl, Nat.le_of_ble_eq_true rfl, Nat.le_of_ble_eq_true rfl⟩ (Nat.le_of_ble_eq_true rfl) rfl h (fun r26 σ25 h => ?_)
    refine g_if_ne o (tgt := 24) (q := 18) dX4_kindFor_15 (by decide) rfl h (fun h => ?_) (fun h => ?_)
    · refine g_iconst o (v := 0) (q := 25) (by decide) dX4_kindFor_24 rfl ?_
      refine g_istore_n o (q := 26) dX4_kindFor_25 rfl rfl (by decide) h (fun x27 => [(3, .int x27), (0, .ref (eA (xE X) 0)), (1, .int x1), (2, .int x2)]) (fun _ => rfl) (fun x27 h => ?_)
      refine g_iconst o (v := (-1)) (q := 27) (by decide) dX4_kindFor_26 rfl ?_
      refine g_istore o (q := 29) dX4_kindFor_27 rfl (by decide) h (fun x28 => [(4, .int x28), (3, .int x27), (0, .ref (eA (xE X) 0)), (1, .int x1), (2, .int x2)]) (fun _ => rfl) (fun x28 h => ?_)
      refine g_iconst o (v := 0) (q := 30) (by decide) dX4_kindFor_29 rfl ?_
      refine g_istore o (q := 32) dX4_kindFor_30 rfl (by decide) h (fun x29 => [(5, .int x29), (4, .int x28), (3, .int x27), (0, .ref (eA (xE X) 0)), (1, .int x1), (2, .int x2)]) (fun _ => rfl) (fun x29 h => ?_)
      refine g_sub (lv' := [(0, .ref (eA (xE X) 0)), (1, .int x1), (2, .int x2), (3, .int x27), (4, .int x28), (5, .int x29)]) [3, 4, 5, 2, 1, 0] rfl ?_
      exact w_X4_kindFor_L32 hres o hr  FU x1 x2 x27 x28 x29 σ25  h
    · refine g_sub (lv' := [(0, .ref (eA (xE X) 0))]) [0] rfl ?_
      exact w_X4_kindFor_J18 hres o hr   h
theorem c_X4_kindFor {l : Launch} {E : En} {mk : Mem → Mem} (hmk : MK mk sdC) (x1 : Int32) (x2 : Int32)  {σ : Mem} {r : Int32} {τ : Mem} (h : f_X4_kindFor x1 x2 σ = some (r, τ)) : Met l yX4_kindFor (Cond.code yX4_kindFor cX4_kindFor 6 (some .int) :: wt) rm_X4_kindFor (PW E mk [.ref (eA E 0), .int x1, .int x2] σ) (QI E mk r τ) 0 0 (WA E) :=
  met_i (fun E => [.ref (eA E 0), .int x1, .int x2]) (by decide) hmk (Nat.le_of_ble_eq_true rfl) (fun X o hr => w_X4_kindFor rfl o hr x1 x2  h)
set_option maxRecDepth 100000 in
set_option maxHeartbeats 4000000 in
theorem w_X4_moodFor_J18 {X : Cx} {l : Launch} {r : Int32} {σr : Mem} {res : Int32 × Mem} (hres : res = (r, σr)) (o : OK X cX4_moodFor RX4 sdC 5 rm_X4_moodFor l) (hr : RI X .int r σr)     {σ : Mem} (h : f_X4_moodFor_J18   σ = some res) : G X σ 18 [(0, .ref (eA (xE X) 0))] [] := by
  unfold f_X4_moodFor_J18 at h
  refine g_aload_n o (q := 19) 0 rfl rfl dX4_moodFor_18 rfl ?_
  refine g_iconst o (v := 0) (q := 20) (by decide) dX4_moodFor_19 rfl ?_
  refine g_cvi o (q := 23) (As := [.int 0]) (rest := []) kv_X4_find lk_X4_51 kC_0 (by decide) rfl rfl rfl (fun _ _ hc => c_X4_find o.mk 0 hc) dX4_moodFor_20 rfl ⟨rfl, rfl, Nat.le_of_ble_eq_true rfl, Nat.le_of_ble_eq_true rfl⟩ (Nat.le_of_ble_eq_true rfl) rfl h (fun r24 σ23 h => ?_)
  exact g_iret o hr (h.trans (congrArg some hres)) rfl dX4_moodFor_23
set_option maxRecDepth 100000 in
set_option maxHeartbeats 4000000 in
theorem w_X4_moodFor_L37 {X : Cx} {l : Launch} {r : Int32} {σr : Mem} {res : Int32 × Mem} (hres : res = (r, σr)) (o : OK X cX4_moodFor RX4 sdC 5 rm_X4_moodFor l) (hr : RI X .int r σr)   : ∀ (n : Nat) (y2 : Int32) (b3 : Nat) (y4 : Int32) (σ : Mem), kd sdC b3 0 → f_X4_moodFor_L37  n y2 b3 y4 σ = some res → G X σ 37 [(0, .ref (eA (xE X) 0)), (2, .int y2), (3, .ref (eA (xE X) b3)), (4, .int y4)] [] := by
  intro n
  induction n with
  | zero => intro y2 b3 y4 σ g3 h; cases h
  | succ n ih =>
    intro y2 b3 y4 σ g3 h
    rw [f_X4_moodFor_L37_s] at h
    refine g_iload o (q := 39) 3 rfl dX4_moodFor_37 rfl ?_
    refine g_bipush o (v := 99) (q := 41) (by decide) dX4_moodFor_39 rfl ?_
    refine g_icmp_gt o (tgt := 90) (q := 44) dX4_moodFor_41 (by decide) rfl h (fun h => ?_) (fun h => ?_)
    · refine g_aload_n o (q := 91) 0 rfl rfl dX4_moodFor_90 rfl ?_
      refine g_iconst o (v := 3) (q := 92) (by decide) dX4_moodFor_91 rfl ?_
      refine g_cvi o (q := 95) (As := [.int 3]) (rest := []) kv_X4_find lk_X4_51 kC_0 (by decide) rfl rfl rfl (fun _ _ hc => c_X4_find o.mk 3 hc) dX4_moodFor_92 rfl ⟨rfl, rfl, Nat.le_of_ble_eq_true rfl, Nat.le_of_ble_eq_true rfl⟩ (Nat.le_of_ble_eq_true rfl) rfl h (fun r30 σ29 h => ?_)
      exact g_iret o hr (h.trans (congrArg some hres)) rfl dX4_moodFor_95
    · refine g_aload_n o (q := 45) 0 rfl rfl dX4_moodFor_44 rfl ?_
      refine gf_X4_4 o (q := 48) kC_0 lk_X4_25 dX4_moodFor_45 rfl ?_
      refine g_aload_n o (q := 49) 2 rfl rfl dX4_moodFor_48 rfl ?_
      refine g_cvv o (q := 52) (As := [.ref (eA (xE X) b3)]) (rest := []) kv_X0_take lk_X4_140 kC_37 (by decide) rfl rfl rfl (fun _ _ hc => c_X0_take o.mk 37 b3 kC_37 g3 hc) dX4_moodFor_49 rfl ⟨rfl, rfl, Nat.le_of_ble_eq_true rfl, Nat.le_of_ble_eq_true rfl⟩ (Nat.le_of_ble_eq_true rfl) rfl h (fun _u31 σ31 h => ?_)
      refine g_aload_n o (q := 53) 0 rfl rfl dX4_moodFor_52 rfl ?_
      refine gf_X4_4 o (q := 56) kC_0 lk_X4_25 dX4_moodFor_53 rfl ?_
      refine g_iload o (q := 58) 3 rfl dX4_moodFor_56 rfl ?_
      refine gp_X0_1 o (q := 61) kC_37 lk_X4_161 dX4_moodFor_58 rfl h (fun σ32 h => ?_)
      refine g_aload_n o (q := 62) 0 rfl rfl dX4_moodFor_61 rfl ?_
      refine g_iload_n o (q := 63) 1 rfl rfl dX4_moodFor_62 rfl ?_
      refine g_cvi o (q := 66) (As := [.int y2]) (rest := []) kv_X4_passProbe lk_X4_144 kC_0 (by decide) rfl rfl rfl (fun _ _ hc => c_X4_passProbe o.mk y2 hc) dX4_moodFor_63 rfl ⟨rfl, rfl, Nat.le_of_ble_eq_true rfl, Nat.le_of_ble_eq_true rfl⟩ (Nat.le_of_ble_eq_true rfl) rfl h (fun r34 σ33 h => ?_)
      refine g_pop o (q := 67) rfl dX4_moodFor_66 rfl ?_
      refine g_aload_n o (q := 68) 0 rfl rfl dX4_moodFor_67 rfl ?_
      refine gf_X4_4 o (q := 71) kC_0 lk_X4_25 dX4_moodFor_68 rfl ?_
      refine gf_X0_5 o (q := 74) kC_37 lk_X4_164 dX4_moodFor_71 rfl ?_
      refine g_aload_n o (q := 75) 2 rfl rfl dX4_moodFor_74 rfl ?_
      refine gf_X0_5 o (q := 78) g3 lk_X4_164 dX4_moodFor_75 rfl ?_
      refine g_icmp_ne o (tgt := 84) (q := 81) dX4_moodFor_78 (by decide) rfl h (fun h => ?_) (fun h => ?_)
      · refine g_iinc o (q := 87) (dn := 1) dX4_moodFor_84 rfl 3 rfl (by decide) (by decide) h (fun x35 => [(4, .int x35), (0, .ref (eA (xE X) 0)), (2, .int y2), (3, .ref (eA (xE X) b3))]) (fun _ => rfl) (fun x35 h => ?_)
        refine g_goto o (tgt := 37) dX4_moodFor_87 (by decide) ?_
        refine g_sub (lv' := [(0, .ref (eA (xE X) 0)), (2, .int y2), (3, .ref (eA (xE X) b3)), (4, .int x35)]) [1, 2, 3, 0] rfl ?_
        exact ih y2 b3 x35 σ33 g3 h
      · refine g_iload o (q := 83) 3 rfl dX4_moodFor_81 rfl ?_
        exact g_iret o hr (h.trans (congrArg some hres)) rfl dX4_moodFor_83
set_option maxRecDepth 100000 in
set_option maxHeartbeats 4000000 in
theorem w_X4_moodFor {X : Cx} {l : Launch} {r : Int32} {σr : Mem} {res : Int32 × Mem} (hres : res = (r, σr)) (o : OK X cX4_moodFor RX4 sdC 5 rm_X4_moodFor l) (hr : RI X .int r σr) (x1 : Int32) (x2 : Int32)  {σ : Mem} (h : f_X4_moodFor x1 x2 σ = some res) : G X σ 0 [(0, .ref (eA (xE X) 0)), (1, .int x1), (2, .int x2)] [] := by
  unfold f_X4_moodFor at h
  refine g_aload_n o (q := 1) 0 rfl rfl dX4_moodFor_0 rfl ?_
  refine g_iload_n o (q := 2) 1 rfl rfl dX4_moodFor_1 rfl ?_
  refine g_cvi o (q := 5) (As := [.int x1]) (rest := []) kv_X4_isCurtain lk_X4_83 kC_0 (by decide) rfl rfl rfl (fun _ _ hc => c_X4_isCurtain o.mk x1 hc) dX4_moodFor_2 rfl ⟨rfl, rfl, Nat.le_of_ble_eq_true rfl, Nat.le_of_ble_eq_true rfl⟩ (Nat.le_of_ble_eq_true rfl) rfl h (fun r22 σ21 h => ?_)
  refine g_if_eq o (tgt := 18) (q := 8) dX4_moodFor_5 (by decide) rfl h (fun h => ?_) (fun h => ?_)
  · refine g_sub (lv' := [(0, .ref (eA (xE X) 0))]) [0] rfl ?_
    exact w_X4_moodFor_J18 hres o hr   h
  · refine g_iload_n o (q := 9) 2 rfl rfl dX4_moodFor_8 rfl ?_
    refine g_iconst o (v := 0) (q := 10) (by decide) dX4_moodFor_9 rfl ?_
    refine g_bipush o (v := 60) (q := 12) (by decide) dX4_moodFor_10 rfl ?_
    refine g_csi o (q := 15) (As := [.int x2, .int 0, .int 60]) (rest := []) kv_X4_isWithin lk_X4_47 rfl (fun _ _ hc => c_X4_isWithin o.mk x2 0 60 hc) dX4_moodFor_12 rfl ⟨rfl, rfl, Nat.le_of_ble_eq_true rfl, Nat.le_of_ble_eq_true rfl⟩ (Nat.le_of_ble_eq_true rfl) rfl h (fun r26 σ25 h => ?_)
    refine g_if_ne o (tgt := 24) (q := 18) dX4_moodFor_15 (by decide) rfl h (fun h => ?_) (fun h => ?_)
    · refine g_aload_n o (q := 25) 0 rfl rfl dX4_moodFor_24 rfl ?_
      refine gf_X4_0 o (q := 28) kC_0 lk_X4_10 dX4_moodFor_25 rfl ?_
      refine gf_X1_8 o (q := 31) kC_1 lk_X4_86 dX4_moodFor_28 rfl ?_
      refine g_iload_n o (q := 32) 1 rfl rfl dX4_moodFor_31 rfl ?_
      refine g_aald8 o (q := 33) (ka_curs kC_1) dX4_moodFor_32 rfl h (fun j27 hjj27 h => ?_)
      refine g_astore_n o (q := 34) dX4_moodFor_33 rfl rfl (by decide) [(3, .ref (eA (xE X) (1 + 3 + 1 + j27))), (0, .ref (eA (xE X) 0)), (1, .int x1), (2, .int x2)] rfl ?_
      refine g_iconst o (v := 0) (q := 35) (by decide) dX4_moodFor_34 rfl ?_
      refine g_istore o (q := 37) dX4_moodFor_35 rfl (by decide) h (fun x28 => [(4, .int x28), (3, .ref (eA (xE X) (1 + 3 + 1 + j27))), (0, .ref (eA (xE X) 0)), (1, .int x1), (2, .int x2)]) (fun _ => rfl) (fun x28 h => ?_)
      refine g_sub (lv' := [(0, .ref (eA (xE X) 0)), (2, .int x2), (3, .ref (eA (xE X) (1 + 3 + 1 + j27))), (4, .int x28)]) [2, 4, 1, 0] rfl ?_
      exact w_X4_moodFor_L37 hres o hr  FU x2 (1 + 3 + 1 + j27) x28 σ25 (kd_cur (ka_curs kC_1) hjj27) h
    · refine g_sub (lv' := [(0, .ref (eA (xE X) 0))]) [0] rfl ?_
      exact w_X4_moodFor_J18 hres o hr   h
theorem c_X4_moodFor {l : Launch} {E : En} {mk : Mem → Mem} (hmk : MK mk sdC) (x1 : Int32) (x2 : Int32)  {σ : Mem} {r : Int32} {τ : Mem} (h : f_X4_moodFor x1 x2 σ = some (r, τ)) : Met l yX4_moodFor (Cond.code yX4_moodFor cX4_moodFor 5 (some .int) :: wt) rm_X4_moodFor (PW E mk [.ref (eA E 0), .int x1, .int x2] σ) (QI E mk r τ) 0 0 (WA E) :=
  met_i (fun E => [.ref (eA E 0), .int x1, .int x2]) (by decide) hmk (Nat.le_of_ble_eq_true rfl) (fun X o hr => w_X4_moodFor rfl o hr x1 x2  h)
set_option maxRecDepth 100000 in
set_option maxHeartbeats 4000000 in
theorem w_X4_handsFor_J18 {X : Cx} {l : Launch} {r : Int32} {σr : Mem} {res : Int32 × Mem} (hres : res = (r, σr)) (o : OK X cX4_handsFor RX4 sdC 5 rm_X4_handsFor l) (hr : RI X .int r σr)     {σ : Mem} (h : f_X4_handsFor_J18   σ = some res) : G X σ 18 [(0, .ref (eA (xE X) 0))] [] := by
  unfold f_X4_handsFor_J18 at h
  refine g_aload_n o (q := 19) 0 rfl rfl dX4_handsFor_18 rfl ?_
  refine g_iconst o (v := 0) (q := 20) (by decide) dX4_handsFor_19 rfl ?_
  refine g_cvi o (q := 23) (As := [.int 0]) (rest := []) kv_X4_find lk_X4_51 kC_0 (by decide) rfl rfl rfl (fun _ _ hc => c_X4_find o.mk 0 hc) dX4_handsFor_20 rfl ⟨rfl, rfl, Nat.le_of_ble_eq_true rfl, Nat.le_of_ble_eq_true rfl⟩ (Nat.le_of_ble_eq_true rfl) rfl h (fun r24 σ23 h => ?_)
  exact g_iret o hr (h.trans (congrArg some hres)) rfl dX4_handsFor_23
set_option maxRecDepth 100000 in
set_option maxHeartbeats 4000000 in
theorem w_X4_handsFor_L51 {X : Cx} {l : Launch} {r : Int32} {σr : Mem} {res : Int32 × Mem} (hres : res = (r, σr)) (o : OK X cX4_handsFor RX4 sdC 5 rm_X4_handsFor l) (hr : RI X .int r σr)   : ∀ (n : Nat) (y2 : Int32) (b3 : Nat) (y4 : Int32) (σ : Mem), kd sdC b3 0 → f_X4_handsFor_L51  n y2 b3 y4 σ = some res → G X σ 51 [(0, .ref (eA (xE X) 0)), (2, .int y2), (3, .ref (eA (xE X) b3)), (4, .int y4)] [] := by
  intro n
  induction n with
  | zero => intro y2 b3 y4 σ g3 h; cases h
  | succ n ih =>
    intro y2 b3 y4 σ g3 h
    rw [f_X4_handsFor_L51_s] at h
    refine g_iload o (q := 53) 3 rfl dX4_handsFor_51 rfl ?_
    refine g_bipush o (v := 40) (q := 55) (by decide) dX4_handsFor_53 rfl ?_
    refine g_icmp_gt o (tgt := 100) (q := 58) dX4_handsFor_55 (by decide) rfl h (fun h => ?_) (fun h => ?_)
    · refine g_aload_n o (q := 101) 0 rfl rfl dX4_handsFor_100 rfl ?_
      refine g_iconst o (v := 3) (q := 102) (by decide) dX4_handsFor_101 rfl ?_
      refine g_cvi o (q := 105) (As := [.int 3]) (rest := []) kv_X4_find lk_X4_51 kC_0 (by decide) rfl rfl rfl (fun _ _ hc => c_X4_find o.mk 3 hc) dX4_handsFor_102 rfl ⟨rfl, rfl, Nat.le_of_ble_eq_true rfl, Nat.le_of_ble_eq_true rfl⟩ (Nat.le_of_ble_eq_true rfl) rfl h (fun r30 σ29 h => ?_)
      exact g_iret o hr (h.trans (congrArg some hres)) rfl dX4_handsFor_105
    · refine g_aload_n o (q := 59) 0 rfl rfl dX4_handsFor_58 rfl ?_
      refine gf_X4_4 o (q := 62) kC_0 lk_X4_25 dX4_handsFor_59 rfl ?_
      refine g_aload_n o (q := 63) 2 rfl rfl dX4_handsFor_62 rfl ?_
      refine g_cvv o (q := 66) (As := [.ref (eA (xE X) b3)]) (rest := []) kv_X0_take lk_X4_140 kC_37 (by decide) rfl rfl rfl (fun _ _ hc => c_X0_take o.mk 37 b3 kC_37 g3 hc) dX4_handsFor_63 rfl ⟨rfl, rfl, Nat.le_of_ble_eq_true rfl, Nat.le_of_ble_eq_true rfl⟩ (Nat.le_of_ble_eq_true rfl) rfl h (fun _u31 σ31 h => ?_)
      refine g_aload_n o (q := 67) 0 rfl rfl dX4_handsFor_66 rfl ?_
      refine gf_X4_4 o (q := 70) kC_0 lk_X4_25 dX4_handsFor_67 rfl ?_
      refine g_iload o (q := 72) 3 rfl dX4_handsFor_70 rfl ?_
      refine g_cvv o (q := 75) (As := [.int y4]) (rest := []) kv_X0_getPulled lk_X4_107 kC_37 (by decide) rfl rfl rfl (fun _ _ hc => c_X0_getPulled o.mk 37 y4 kC_37 hc) dX4_handsFor_72 rfl ⟨rfl, rfl, Nat.le_of_ble_eq_true rfl, Nat.le_of_ble_eq_true rfl⟩ (Nat.le_of_ble_eq_true rfl) rfl h (fun _u32 σ32 h => ?_)
      refine g_aload_n o (q := 76) 0 rfl rfl dX4_handsFor_75 rfl ?_
      refine g_iload_n o (q := 77) 1 rfl rfl dX4_handsFor_76 rfl ?_
      refine g_cvi o (q := 80) (As := [.int y2]) (rest := []) kv_X4_passProbe lk_X4_144 kC_0 (by decide) rfl rfl rfl (fun _ _ hc => c_X4_passProbe o.mk y2 hc) dX4_handsFor_77 rfl ⟨rfl, rfl, Nat.le_of_ble_eq_true rfl, Nat.le_of_ble_eq_true rfl⟩ (Nat.le_of_ble_eq_true rfl) rfl h (fun r34 σ33 h => ?_)
      refine g_pop o (q := 81) rfl dX4_handsFor_80 rfl ?_
      refine g_aload_n o (q := 82) 0 rfl rfl dX4_handsFor_81 rfl ?_
      refine gf_X4_4 o (q := 85) kC_0 lk_X4_25 dX4_handsFor_82 rfl ?_
      refine gf_X0_3 o (q := 88) kC_37 lk_X4_111 dX4_handsFor_85 rfl ?_
      refine g_if_le o (tgt := 94) (q := 91) dX4_handsFor_88 (by decide) rfl h (fun h => ?_) (fun h => ?_)
      · refine g_iinc o (q := 97) (dn := 1) dX4_handsFor_94 rfl 3 rfl (by decide) (by decide) h (fun x35 => [(4, .int x35), (0, .ref (eA (xE X) 0)), (2, .int y2), (3, .ref (eA (xE X) b3))]) (fun _ => rfl) (fun x35 h => ?_)
        refine g_goto o (tgt := 51) dX4_handsFor_97 (by decide) ?_
        refine g_sub (lv' := [(0, .ref (eA (xE X) 0)), (2, .int y2), (3, .ref (eA (xE X) b3)), (4, .int x35)]) [1, 2, 3, 0] rfl ?_
        exact ih y2 b3 x35 σ33 g3 h
      · refine g_iload o (q := 93) 3 rfl dX4_handsFor_91 rfl ?_
        exact g_iret o hr (h.trans (congrArg some hres)) rfl dX4_handsFor_93
set_option maxRecDepth 100000 in
set_option maxHeartbeats 4000000 in
theorem w_X4_handsFor {X : Cx} {l : Launch} {r : Int32} {σr : Mem} {res : Int32 × Mem} (hres : res = (r, σr)) (o : OK X cX4_handsFor RX4 sdC 5 rm_X4_handsFor l) (hr : RI X .int r σr) (x1 : Int32) (x2 : Int32)  {σ : Mem} (h : f_X4_handsFor x1 x2 σ = some res) : G X σ 0 [(0, .ref (eA (xE X) 0)), (1, .int x1), (2, .int x2)] [] := by
  unfold f_X4_handsFor at h
  refine g_aload_n o (q := 1) 0 rfl rfl dX4_handsFor_0 rfl ?_
  refine g_iload_n o (q := 2) 1 rfl rfl dX4_handsFor_1 rfl ?_
  refine g_cvi o (q := 5) (As := [.int x1]) (rest := []) kv_X4_isCurtain lk_X4_83 kC_0 (by decide) rfl rfl rfl (fun _ _ hc => c_X4_isCurtain o.mk x1 hc) dX4_handsFor_2 rfl ⟨rfl, rfl, Nat.le_of_ble_eq_true rfl, Nat.le_of_ble_eq_true rfl⟩ (Nat.le_of_ble_eq_true rfl) rfl h (fun r22 σ21 h => ?_)
  refine g_if_eq o (tgt := 18) (q := 8) dX4_handsFor_5 (by decide) rfl h (fun h => ?_) (fun h => ?_)
  · refine g_sub (lv' := [(0, .ref (eA (xE X) 0))]) [0] rfl ?_
    exact w_X4_handsFor_J18 hres o hr   h
  · refine g_iload_n o (q := 9) 2 rfl rfl dX4_handsFor_8 rfl ?_
    refine g_iconst o (v := 0) (q := 10) (by decide) dX4_handsFor_9 rfl ?_
    refine g_bipush o (v := 60) (q := 12) (by decide) dX4_handsFor_10 rfl ?_
    refine g_csi o (q := 15) (As := [.int x2, .int 0, .int 60]) (rest := []) kv_X4_isWithin lk_X4_47 rfl (fun _ _ hc => c_X4_isWithin o.mk x2 0 60 hc) dX4_handsFor_12 rfl ⟨rfl, rfl, Nat.le_of_ble_eq_true rfl, Nat.le_of_ble_eq_true rfl⟩ (Nat.le_of_ble_eq_true rfl) rfl h (fun r26 σ25 h => ?_)
    refine g_if_ne o (tgt := 24) (q := 18) dX4_handsFor_15 (by decide) rfl h (fun h => ?_) (fun h => ?_)
    · refine g_aload_n o (q := 25) 0 rfl rfl dX4_handsFor_24 rfl ?_
      refine gf_X4_0 o (q := 28) kC_0 lk_X4_10 dX4_handsFor_25 rfl ?_
      refine gf_X1_8 o (q := 31) kC_1 lk_X4_86 dX4_handsFor_28 rfl ?_
      refine g_iload_n o (q := 32) 1 rfl rfl dX4_handsFor_31 rfl ?_
      refine g_aald8 o (q := 33) (ka_curs kC_1) dX4_handsFor_32 rfl h (fun j27 hjj27 h => ?_)
      refine g_astore_n o (q := 34) dX4_handsFor_33 rfl rfl (by decide) [(3, .ref (eA (xE X) (1 + 3 + 1 + j27))), (0, .ref (eA (xE X) 0)), (1, .int x1), (2, .int x2)] rfl ?_
      refine g_aload_n o (q := 35) 0 rfl rfl dX4_handsFor_34 rfl ?_
      refine gf_X0_4 o (q := 38) (kd_cur (ka_curs kC_1) hjj27) lk_X4_104 dX4_handsFor_35 rfl ?_
      refine g_iconst o (v := 1) (q := 39) (by decide) dX4_handsFor_38 rfl ?_
      refine g_icmp_ne o (tgt := 48) (q := 42) dX4_handsFor_39 (by decide) rfl h (fun h => ?_) (fun h => ?_)
      · refine g_iconst o (v := 1) (q := 49) (by decide) dX4_handsFor_48 rfl ?_
        refine g_istore o (q := 51) dX4_handsFor_49 rfl (by decide) h (fun x28 => [(4, .int x28), (3, .ref (eA (xE X) (1 + 3 + 1 + j27))), (0, .ref (eA (xE X) 0)), (1, .int x1), (2, .int x2)]) (fun _ => rfl) (fun x28 h => ?_)
        refine g_sub (lv' := [(0, .ref (eA (xE X) 0)), (2, .int x2), (3, .ref (eA (xE X) (1 + 3 + 1 + j27))), (4, .int x28)]) [2, 4, 1, 0] rfl ?_
        exact w_X4_handsFor_L51 hres o hr  FU x2 (1 + 3 + 1 + j27) x28 σ25 (kd_cur (ka_curs kC_1) hjj27) h
      · refine g_aload_n o (q := 43) 1 rfl rfl dX4_handsFor_42 rfl ?_
        refine g_iconst o (v := 4) (q := 44) (by decide) dX4_handsFor_43 rfl ?_
        refine g_cvi o (q := 47) (As := [.int 4]) (rest := []) kv_X4_find lk_X4_51 kC_0 (by decide) rfl rfl rfl (fun _ _ hc => c_X4_find o.mk 4 hc) dX4_handsFor_44 rfl ⟨rfl, rfl, Nat.le_of_ble_eq_true rfl, Nat.le_of_ble_eq_true rfl⟩ (Nat.le_of_ble_eq_true rfl) rfl h (fun r37 σ36 h => ?_)
        exact g_iret o hr (h.trans (congrArg some hres)) rfl dX4_handsFor_47
    · refine g_sub (lv' := [(0, .ref (eA (xE X) 0))]) [0] rfl ?_
      exact w_X4_handsFor_J18 hres o hr   h
theorem c_X4_handsFor {l : Launch} {E : En} {mk : Mem → Mem} (hmk : MK mk sdC) (x1 : Int32) (x2 : Int32)  {σ : Mem} {r : Int32} {τ : Mem} (h : f_X4_handsFor x1 x2 σ = some (r, τ)) : Met l yX4_handsFor (Cond.code yX4_handsFor cX4_handsFor 5 (some .int) :: wt) rm_X4_handsFor (PW E mk [.ref (eA E 0), .int x1, .int x2] σ) (QI E mk r τ) 0 0 (WA E) :=
  met_i (fun E => [.ref (eA E 0), .int x1, .int x2]) (by decide) hmk (Nat.le_of_ble_eq_true rfl) (fun X o hr => w_X4_handsFor rfl o hr x1 x2  h)
set_option maxRecDepth 100000 in
set_option maxHeartbeats 4000000 in
theorem w_X4_tie_J87 {X : Cx} {l : Launch} {r : Int32} {σr : Mem} {res : Int32 × Mem} (hres : res = (r, σr)) (o : OK X cX4_tie RX4 sdC 5 rm_X4_tie l) (hr : RI X .int r σr) {k39 : Int32 → Int32 → Int32 → Int32 → Mem → Option (Int32 × Mem)} (hk39 : ∀ (y1 : Int32) (y2 : Int32) (y3 : Int32) (y4 : Int32) (σ : Mem), k39 y1 y2 y3 y4 σ = some res → G X σ 39 [(0, .ref (eA (xE X) 0)), (1, .int y1), (2, .int y2), (3, .int y3), (4, .int y4)] []) {y1 : Int32} {y2 : Int32} {y3 : Int32} {y4 : Int32}  {σ : Mem} (h : f_X4_tie_J87 k39 y1 y2 y3 y4 σ = some res) : G X σ 87 [(0, .ref (eA (xE X) 0)), (1, .int y1), (2, .int y2), (3, .int y3), (4, .int y4)] [] := by
  unfold f_X4_tie_J87 at h
  refine g_iinc o (q := 90) (dn := 1) dX4_tie_87 rfl 4 rfl (by decide) (by decide) h (fun x30 => [(4, .int x30), (0, .ref (eA (xE X) 0)), (1, .int y1), (2, .int y2), (3, .int y3)]) (fun _ => rfl) (fun x30 h => ?_)
  refine g_goto o (tgt := 39) dX4_tie_90 (by decide) ?_
  refine g_sub (lv' := [(0, .ref (eA (xE X) 0)), (1, .int y1), (2, .int y2), (3, .int y3), (4, .int x30)]) [1, 2, 3, 4, 0] rfl ?_
  exact hk39 y1 y2 y3 x30 σ  h
set_option maxRecDepth 100000 in
set_option maxHeartbeats 4000000 in
theorem w_X4_tie_L39 {X : Cx} {l : Launch} {r : Int32} {σr : Mem} {res : Int32 × Mem} (hres : res = (r, σr)) (o : OK X cX4_tie RX4 sdC 5 rm_X4_tie l) (hr : RI X .int r σr)   : ∀ (n : Nat) (y1 : Int32) (y2 : Int32) (y3 : Int32) (y4 : Int32) (σ : Mem), f_X4_tie_L39  n y1 y2 y3 y4 σ = some res → G X σ 39 [(0, .ref (eA (xE X) 0)), (1, .int y1), (2, .int y2), (3, .int y3), (4, .int y4)] [] := by
  intro n
  induction n with
  | zero => intro y1 y2 y3 y4 σ  h; cases h
  | succ n ih =>
    intro y1 y2 y3 y4 σ  h
    rw [f_X4_tie_L39_s] at h
    refine g_iload_n o (q := 40) 2 rfl rfl dX4_tie_39 rfl ?_
    refine g_if_eq o (tgt := 93) (q := 43) dX4_tie_40 (by decide) rfl h (fun h => ?_) (fun h => ?_)
    · refine g_iload_n o (q := 94) 3 rfl rfl dX4_tie_93 rfl ?_
      exact g_iret o hr (h.trans (congrArg some hres)) rfl dX4_tie_94
    · refine g_iload o (q := 45) 4 rfl dX4_tie_43 rfl ?_
      refine g_aload_n o (q := 46) 0 rfl rfl dX4_tie_45 rfl ?_
      refine gf_X4_0 o (q := 49) kC_0 lk_X4_10 dX4_tie_46 rfl ?_
      refine gf_X1_5 o (q := 52) kC_1 lk_X4_80 dX4_tie_49 rfl ?_
      refine g_icmp_ge o (tgt := 93) (q := 55) dX4_tie_52 (by decide) rfl h (fun h => ?_) (fun h => ?_)
      · refine g_iload_n o (q := 94) 3 rfl rfl dX4_tie_93 rfl ?_
        exact g_iret o hr (h.trans (congrArg some hres)) rfl dX4_tie_94
      · refine g_aload_n o (q := 56) 0 rfl rfl dX4_tie_55 rfl ?_
        refine gf_X4_4 o (q := 59) kC_0 lk_X4_25 dX4_tie_56 rfl ?_
        refine g_aload_n o (q := 60) 0 rfl rfl dX4_tie_59 rfl ?_
        refine gf_X4_0 o (q := 63) kC_0 lk_X4_10 dX4_tie_60 rfl ?_
        refine gf_X1_8 o (q := 66) kC_1 lk_X4_86 dX4_tie_63 rfl ?_
        refine g_iload o (q := 68) 4 rfl dX4_tie_66 rfl ?_
        refine g_aald8 o (q := 69) (ka_curs kC_1) dX4_tie_68 rfl h (fun j26 hjj26 h => ?_)
        refine g_cvv o (q := 72) (As := [.ref (eA (xE X) (1 + 3 + 1 + j26))]) (rest := []) kv_X0_take lk_X4_140 kC_37 (by decide) rfl rfl rfl (fun _ _ hc => c_X0_take o.mk 37 (1 + 3 + 1 + j26) kC_37 (kd_cur (ka_curs kC_1) hjj26) hc) dX4_tie_69 rfl ⟨rfl, rfl, Nat.le_of_ble_eq_true rfl, Nat.le_of_ble_eq_true rfl⟩ (Nat.le_of_ble_eq_true rfl) rfl h (fun _u27 σ27 h => ?_)
        refine g_aload_n o (q := 73) 0 rfl rfl dX4_tie_72 rfl ?_
        refine g_iload_n o (q := 74) 1 rfl rfl dX4_tie_73 rfl ?_
        refine g_cvi o (q := 77) (As := [.int y1]) (rest := []) kv_X4_passProbe lk_X4_144 kC_0 (by decide) rfl rfl rfl (fun _ _ hc => c_X4_passProbe o.mk y1 hc) dX4_tie_74 rfl ⟨rfl, rfl, Nat.le_of_ble_eq_true rfl, Nat.le_of_ble_eq_true rfl⟩ (Nat.le_of_ble_eq_true rfl) rfl h (fun r29 σ28 h => ?_)
        refine g_if_le o (tgt := 87) (q := 80) dX4_tie_77 (by decide) rfl h (fun h => ?_) (fun h => ?_)
        · exact w_X4_tie_J87 hres o hr ih  h
        · refine g_iload_n o (q := 81) 3 rfl rfl dX4_tie_80 rfl ?_
          refine g_iconst o (v := 1) (q := 82) (by decide) dX4_tie_81 rfl ?_
          refine g_iload o (q := 84) 4 rfl dX4_tie_82 rfl ?_
          refine g_ishl o (q := 85) dX4_tie_84 rfl ?_
          refine g_ior o (q := 86) dX4_tie_85 rfl ?_
          refine g_istore_n o (q := 87) dX4_tie_86 rfl rfl (by decide) h (fun x31 => [(3, .int x31), (0, .ref (eA (xE X) 0)), (1, .int y1), (2, .int y2), (4, .int y4)]) (fun _ => rfl) (fun x31 h => ?_)
          refine g_sub (lv' := [(0, .ref (eA (xE X) 0)), (1, .int y1), (2, .int y2), (3, .int x31), (4, .int y4)]) [1, 2, 3, 0, 4] rfl ?_
          exact w_X4_tie_J87 hres o hr ih  h
set_option maxRecDepth 100000 in
set_option maxHeartbeats 4000000 in
theorem w_X4_tie_J33 {X : Cx} {l : Launch} {r : Int32} {σr : Mem} {res : Int32 × Mem} (hres : res = (r, σr)) (o : OK X cX4_tie RX4 sdC 5 rm_X4_tie l) (hr : RI X .int r σr)   {y1 : Int32} {s0 : Int32}  {σ : Mem} (h : f_X4_tie_J33  y1 s0 σ = some res) : G X σ 33 [(0, .ref (eA (xE X) 0)), (1, .int y1)] [.int s0] := by
  unfold f_X4_tie_J33 at h
  refine g_istore_n o (q := 34) dX4_tie_33 rfl rfl (by decide) h (fun x23 => [(2, .int x23), (0, .ref (eA (xE X) 0)), (1, .int y1)]) (fun _ => rfl) (fun x23 h => ?_)
  refine g_iconst o (v := 0) (q := 35) (by decide) dX4_tie_34 rfl ?_
  refine g_istore_n o (q := 36) dX4_tie_35 rfl rfl (by decide) h (fun x24 => [(3, .int x24), (2, .int x23), (0, .ref (eA (xE X) 0)), (1, .int y1)]) (fun _ => rfl) (fun x24 h => ?_)
  refine g_iconst o (v := 0) (q := 37) (by decide) dX4_tie_36 rfl ?_
  refine g_istore o (q := 39) dX4_tie_37 rfl (by decide) h (fun x25 => [(4, .int x25), (3, .int x24), (2, .int x23), (0, .ref (eA (xE X) 0)), (1, .int y1)]) (fun _ => rfl) (fun x25 h => ?_)
  refine g_sub (lv' := [(0, .ref (eA (xE X) 0)), (1, .int y1), (2, .int x23), (3, .int x24), (4, .int x25)]) [3, 4, 2, 1, 0] rfl ?_
  exact w_X4_tie_L39 hres o hr  FU y1 x23 x24 x25 σ  h
set_option maxRecDepth 100000 in
set_option maxHeartbeats 4000000 in
theorem w_X4_tie {X : Cx} {l : Launch} {r : Int32} {σr : Mem} {res : Int32 × Mem} (hres : res = (r, σr)) (o : OK X cX4_tie RX4 sdC 5 rm_X4_tie l) (hr : RI X .int r σr) (x1 : Int32)  {σ : Mem} (h : f_X4_tie x1 σ = some res) : G X σ 0 [(0, .ref (eA (xE X) 0)), (1, .int x1)] [] := by
  unfold f_X4_tie at h
  refine g_iload_n o (q := 1) 1 rfl rfl dX4_tie_0 rfl ?_
  refine g_iconst o (v := 0) (q := 2) (by decide) dX4_tie_1 rfl ?_
  refine g_bipush o (v := 20) (q := 4) (by decide) dX4_tie_2 rfl ?_
  refine g_csi o (q := 7) (As := [.int x1, .int 0, .int 20]) (rest := []) kv_X4_isWithin lk_X4_47 rfl (fun _ _ hc => c_X4_isWithin o.mk x1 0 20 hc) dX4_tie_4 rfl ⟨rfl, rfl, Nat.le_of_ble_eq_true rfl, Nat.le_of_ble_eq_true rfl⟩ (Nat.le_of_ble_eq_true rfl) rfl h (fun r22 σ21 h => ?_)
  refine g_if_ne o (tgt := 16) (q := 10) dX4_tie_7 (by decide) rfl h (fun h => ?_) (fun h => ?_)
  · refine g_aload_n o (q := 17) 0 rfl rfl dX4_tie_16 rfl ?_
    refine gf_X4_0 o (q := 20) kC_0 lk_X4_10 dX4_tie_17 rfl ?_
    refine gf_X1_1 o (q := 23) kC_1 lk_X4_121 dX4_tie_20 rfl ?_
    refine g_ldc o (q := 25) lk_X4_117 dX4_tie_23 rfl ?_
    refine g_icmp_ge o (tgt := 32) (q := 28) dX4_tie_25 (by decide) rfl h (fun h => ?_) (fun h => ?_)
    · refine g_iconst o (v := 0) (q := 33) (by decide) dX4_tie_32 rfl ?_
      exact w_X4_tie_J33 hres o hr   h
    · refine g_iconst o (v := 1) (q := 29) (by decide) dX4_tie_28 rfl ?_
      refine g_goto o (tgt := 33) dX4_tie_29 (by decide) ?_
      exact w_X4_tie_J33 hres o hr   h
  · refine g_aload_n o (q := 11) 0 rfl rfl dX4_tie_10 rfl ?_
    refine g_iconst o (v := 0) (q := 12) (by decide) dX4_tie_11 rfl ?_
    refine g_cvi o (q := 15) (As := [.int 0]) (rest := []) kv_X4_find lk_X4_51 kC_0 (by decide) rfl rfl rfl (fun _ _ hc => c_X4_find o.mk 0 hc) dX4_tie_12 rfl ⟨rfl, rfl, Nat.le_of_ble_eq_true rfl, Nat.le_of_ble_eq_true rfl⟩ (Nat.le_of_ble_eq_true rfl) rfl h (fun r33 σ32 h => ?_)
    exact g_iret o hr (h.trans (congrArg some hres)) rfl dX4_tie_15
theorem c_X4_tie {l : Launch} {E : En} {mk : Mem → Mem} (hmk : MK mk sdC) (x1 : Int32)  {σ : Mem} {r : Int32} {τ : Mem} (h : f_X4_tie x1 σ = some (r, τ)) : Met l yX4_tie (Cond.code yX4_tie cX4_tie 5 (some .int) :: wt) rm_X4_tie (PW E mk [.ref (eA E 0), .int x1] σ) (QI E mk r τ) 0 0 (WA E) :=
  met_i (fun E => [.ref (eA E 0), .int x1]) (by decide) hmk (Nat.le_of_ble_eq_true rfl) (fun X o hr => w_X4_tie rfl o hr x1  h)
