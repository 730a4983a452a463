set_option maxRecDepth 100000 in
set_option maxHeartbeats 4000000 in
theorem w_X4_text_J38 {X : Cx} {l : Launch} {r : Int32} {σr : Mem} {res : Int32 × Mem} (hres : res = (r, σr)) (o : OK X cX4_text RX4 sdC 2 rm_X4_text l) (hr : RI X .int r σr)   {y1 : Int32}  {σ : Mem} (h : f_X4_text_J38  y1 σ = some res) : G X σ 38 [(0, .ref (eA (xE X) 0)), (1, .int y1)] [] := by
  unfold f_X4_text_J38 at h
  refine g_aload_n o (q := 39) 0 rfl rfl dX4_text_38 rfl ?_
  refine gf_X4_5 o (q := 42) kC_0 lk_X4_32 dX4_text_39 rfl ?_
  refine g_iconst o (v := 0) (q := 43) (by decide) dX4_text_42 rfl ?_
  refine gp_X3_1 o (q := 46) kC_38 lk_X4_195 dX4_text_43 rfl h (fun σ25 h => ?_)
  refine g_iload_n o (q := 47) 1 rfl rfl dX4_text_46 rfl ?_
  exact g_iret o hr (h.trans (congrArg some hres)) rfl dX4_text_47
set_option maxRecDepth 100000 in
set_option maxHeartbeats 4000000 in
theorem w_X4_text {X : Cx} {l : Launch} {r : Int32} {σr : Mem} {res : Int32 × Mem} (hres : res = (r, σr)) (o : OK X cX4_text RX4 sdC 2 rm_X4_text l) (hr : RI X .int r σr)   {σ : Mem} (h : f_X4_text  σ = some res) : G X σ 0 [(0, .ref (eA (xE X) 0))] [] := by
  unfold f_X4_text at h
  refine g_aload_n o (q := 1) 0 rfl rfl dX4_text_0 rfl ?_
  refine gf_X4_3 o (q := 4) kC_0 lk_X4_19 dX4_text_1 rfl ?_
  refine g_aload_n o (q := 5) 0 rfl rfl dX4_text_4 rfl ?_
  refine gf_X4_0 o (q := 8) kC_0 lk_X4_10 dX4_text_5 rfl ?_
  refine g_cvv o (q := 11) (As := [.ref (eA (xE X) 1)]) (rest := []) kv_X1_take lk_X4_147 kC_25 (by decide) rfl rfl rfl (fun _ _ hc => c_X1_take o.mk 25 1 kC_25 kC_1 hc) dX4_text_8 rfl ⟨rfl, rfl, Nat.le_of_ble_eq_true rfl, Nat.le_of_ble_eq_true rfl⟩ (Nat.le_of_ble_eq_true rfl) rfl h (fun _u21 σ21 h => ?_)
  refine g_aload_n o (q := 12) 0 rfl rfl dX4_text_11 rfl ?_
  refine gf_X4_5 o (q := 15) kC_0 lk_X4_32 dX4_text_12 rfl ?_
  refine g_aload_n o (q := 16) 0 rfl rfl dX4_text_15 rfl ?_
  refine gf_X4_3 o (q := 19) kC_0 lk_X4_19 dX4_text_16 rfl ?_
  refine g_cvi o (q := 22) (As := [.ref (eA (xE X) 25)]) (rest := []) kv_X3_readInto lk_X4_202 kC_38 (by decide) rfl rfl rfl (fun _ _ hc => c_X3_readInto o.mk 25 kC_25 hc) dX4_text_19 rfl ⟨rfl, rfl, Nat.le_of_ble_eq_true rfl, Nat.le_of_ble_eq_true rfl⟩ (Nat.le_of_ble_eq_true rfl) rfl h (fun r23 σ22 h => ?_)
  refine g_istore_n o (q := 23) dX4_text_22 rfl rfl (by decide) h (fun x24 => [(1, .int x24), (0, .ref (eA (xE X) 0))]) (fun _ => rfl) (fun x24 h => ?_)
  refine g_iload_n o (q := 24) 0 rfl rfl dX4_text_23 rfl ?_
  refine g_if_lt o (tgt := 38) (q := 27) dX4_text_24 (by decide) rfl h (fun h => ?_) (fun h => ?_)
  · refine g_sub (lv' := [(0, .ref (eA (xE X) 0)), (1, .int x24)]) [1, 0] rfl ?_
    exact w_X4_text_J38 hres o hr   h
  · refine g_aload_n o (q := 28) 1 rfl rfl dX4_text_27 rfl ?_
    refine gf_X4_0 o (q := 31) kC_0 lk_X4_10 dX4_text_28 rfl ?_
    refine g_aload_n o (q := 32) 1 rfl rfl dX4_text_31 rfl ?_
    refine gf_X4_3 o (q := 35) kC_0 lk_X4_19 dX4_text_32 rfl ?_
    refine g_cvv o (q := 38) (As := [.ref (eA (xE X) 25)]) (rest := []) kv_X1_take lk_X4_147 kC_1 (by decide) rfl rfl rfl (fun _ _ hc => c_X1_take o.mk 1 25 kC_1 kC_25 hc) dX4_text_35 rfl ⟨rfl, rfl, Nat.le_of_ble_eq_true rfl, Nat.le_of_ble_eq_true rfl⟩ (Nat.le_of_ble_eq_true rfl) rfl h (fun _u26 σ26 h => ?_)
    refine g_sub (lv' := [(0, .ref (eA (xE X) 0)), (1, .int x24)]) [1, 0] rfl ?_
    exact w_X4_text_J38 hres o hr   h
theorem c_X4_text {l : Launch} {E : En} {mk : Mem → Mem} (hmk : MK mk sdC)   {σ : Mem} {r : Int32} {τ : Mem} (h : f_X4_text  σ = some (r, τ)) : Met l yX4_text (Cond.code yX4_text cX4_text 2 (some .int) :: wt) rm_X4_text (PW E mk [.ref (eA E 0)] σ) (QI E mk r τ) 0 0 (WA E) :=
  met_i (fun E => [.ref (eA E 0)]) (by decide) hmk (Nat.le_of_ble_eq_true rfl) (fun X o hr => w_X4_text rfl o hr   h)
set_option maxRecDepth 100000 in
set_option maxHeartbeats 4000000 in
theorem w_X4_isSpot {X : Cx} {l : Launch} {r : Int32} {σr : Mem} {res : Int32 × Mem} (hres : res = (r, σr)) (o : OK X cX4_isSpot RX4 sdC 1 rm_X4_isSpot l) (hr : RI X .boolean r σr) (x0 : Int32)  {σ : Mem} (h : f_X4_isSpot x0 σ = some res) : G X σ 0 [(0, .int x0)] [] := by
  unfold f_X4_isSpot at h
  refine g_iload_n o (q := 1) 0 rfl rfl dX4_isSpot_0 rfl ?_
  refine g_iconst o (v := 0) (q := 2) (by decide) dX4_isSpot_1 rfl ?_
  refine g_bipush o (v := 9) (q := 4) (by decide) dX4_isSpot_2 rfl ?_
  refine g_csi o (q := 7) (As := [.int x0, .int 0, .int 9]) (rest := []) kv_X4_isWithin lk_X4_47 rfl (fun _ _ hc => c_X4_isWithin o.mk x0 0 9 hc) dX4_isSpot_4 rfl ⟨rfl, rfl, Nat.le_of_ble_eq_true rfl, Nat.le_of_ble_eq_true rfl⟩ (Nat.le_of_ble_eq_true rfl) rfl h (fun r22 σ21 h => ?_)
  obtain ⟨hb, h⟩ := vB_some h
  exact g_iret o hr (h.trans (congrArg some hres)) (by rcases hb with hb | hb <;> rw [hb] <;> rfl) dX4_isSpot_7
theorem c_X4_isSpot {l : Launch} {E : En} {mk : Mem → Mem} (hmk : MK mk sdC) (x0 : Int32)  {σ : Mem} {r : Int32} {τ : Mem} (h : f_X4_isSpot x0 σ = some (r, τ)) : Met l yX4_isSpot (Cond.code yX4_isSpot cX4_isSpot 1 (some .boolean) :: wt) rm_X4_isSpot (PW E mk [.int x0] σ) (QI E mk r τ) 0 0 (WA E) :=
  met_i (fun E => [.int x0]) (by decide) hmk (Nat.le_of_ble_eq_true rfl) (fun X o hr => w_X4_isSpot rfl o hr x0  h)
set_option maxRecDepth 100000 in
set_option maxHeartbeats 4000000 in
theorem w_X4_hold_J20 {X : Cx} {l : Launch} {r : Int32} {σr : Mem} {res : Int32 × Mem} (hres : res = (r, σr)) (o : OK X cX4_hold RX4 sdC 3 rm_X4_hold l) (hr : RI X .int r σr)     {σ : Mem} (h : f_X4_hold_J20   σ = some res) : G X σ 20 [(0, .ref (eA (xE X) 0))] [] := by
  unfold f_X4_hold_J20 at h
  refine g_aload_n o (q := 21) 0 rfl rfl dX4_hold_20 rfl ?_
  refine g_iconst o (v := 0) (q := 22) (by decide) dX4_hold_21 rfl ?_
  refine g_cvi o (q := 25) (As := [.int 0]) (rest := []) kv_X4_find lk_X4_51 kC_0 (by decide) rfl rfl rfl (fun _ _ hc => c_X4_find o.mk 0 hc) dX4_hold_22 rfl ⟨rfl, rfl, Nat.le_of_ble_eq_true rfl, Nat.le_of_ble_eq_true rfl⟩ (Nat.le_of_ble_eq_true rfl) rfl h (fun r24 σ23 h => ?_)
  exact g_iret o hr (h.trans (congrArg some hres)) rfl dX4_hold_25
set_option maxRecDepth 100000 in
set_option maxHeartbeats 4000000 in
theorem w_X4_hold_J26 {X : Cx} {l : Launch} {r : Int32} {σr : Mem} {res : Int32 × Mem} (hres : res = (r, σr)) (o : OK X cX4_hold RX4 sdC 3 rm_X4_hold l) (hr : RI X .int r σr)   {y1 : Int32} {y2 : Int32}  {σ : Mem} (h : f_X4_hold_J26  y1 y2 σ = some res) : G X σ 26 [(0, .ref (eA (xE X) 0)), (1, .int y1), (2, .int y2)] [] := by
  unfold f_X4_hold_J26 at h
  refine g_aload_n o (q := 27) 0 rfl rfl dX4_hold_26 rfl ?_
  refine gf_X4_0 o (q := 30) kC_0 lk_X4_10 dX4_hold_27 rfl ?_
  refine gf_X1_7 o (q := 33) kC_1 lk_X4_209 dX4_hold_30 rfl ?_
  refine g_iload_n o (q := 34) 1 rfl rfl dX4_hold_33 rfl ?_
  refine g_iload_n o (q := 35) 2 rfl rfl dX4_hold_34 rfl ?_
  refine g_iast o (q := 36) (ka_spots kC_1) dX4_hold_35 rfl h (fun j25 σ26 h => ?_)
  refine g_iconst o (v := 1) (q := 37) (by decide) dX4_hold_36 rfl ?_
  exact g_iret o hr (h.trans (congrArg some hres)) rfl dX4_hold_37
set_option maxRecDepth 100000 in
set_option maxHeartbeats 4000000 in
theorem w_X4_hold {X : Cx} {l : Launch} {r : Int32} {σr : Mem} {res : Int32 × Mem} (hres : res = (r, σr)) (o : OK X cX4_hold RX4 sdC 3 rm_X4_hold l) (hr : RI X .int r σr) (x1 : Int32) (x2 : Int32)  {σ : Mem} (h : f_X4_hold x1 x2 σ = some res) : G X σ 0 [(0, .ref (eA (xE X) 0)), (1, .int x1), (2, .int x2)] [] := by
  unfold f_X4_hold at h
  refine g_iload_n o (q := 1) 1 rfl rfl dX4_hold_0 rfl ?_
  refine g_csi o (q := 4) (As := [.int x1]) (rest := []) kv_X4_isSpot lk_X4_206 rfl (fun _ _ hc => c_X4_isSpot o.mk x1 hc) dX4_hold_1 rfl ⟨rfl, rfl, Nat.le_of_ble_eq_true rfl, Nat.le_of_ble_eq_true rfl⟩ (Nat.le_of_ble_eq_true rfl) rfl h (fun r22 σ21 h => ?_)
  refine g_if_eq o (tgt := 20) (q := 7) dX4_hold_4 (by decide) rfl h (fun h => ?_) (fun h => ?_)
  · refine g_sub (lv' := [(0, .ref (eA (xE X) 0))]) [0] rfl ?_
    exact w_X4_hold_J20 hres o hr   h
  · refine g_iload_n o (q := 8) 2 rfl rfl dX4_hold_7 rfl ?_
    refine g_iconst o (v := (-1)) (q := 9) (by decide) dX4_hold_8 rfl ?_
    refine g_icmp_eq o (tgt := 26) (q := 12) dX4_hold_9 (by decide) rfl h (fun h => ?_) (fun h => ?_)
    · exact w_X4_hold_J26 hres o hr   h
    · refine g_aload_n o (q := 13) 0 rfl rfl dX4_hold_12 rfl ?_
      refine g_iload_n o (q := 14) 2 rfl rfl dX4_hold_13 rfl ?_
      refine g_cvi o (q := 17) (As := [.int x2]) (rest := []) kv_X4_isCurtain lk_X4_83 kC_0 (by decide) rfl rfl rfl (fun _ _ hc => c_X4_isCurtain o.mk x2 hc) dX4_hold_14 rfl ⟨rfl, rfl, Nat.le_of_ble_eq_true rfl, Nat.le_of_ble_eq_true rfl⟩ (Nat.le_of_ble_eq_true rfl) rfl h (fun r28 σ27 h => ?_)
      refine g_if_ne o (tgt := 26) (q := 20) dX4_hold_17 (by decide) rfl h (fun h => ?_) (fun h => ?_)
      · exact w_X4_hold_J26 hres o hr   h
      · refine g_sub (lv' := [(0, .ref (eA (xE X) 0))]) [0] rfl ?_
        exact w_X4_hold_J20 hres o hr   h
theorem c_X4_hold {l : Launch} {E : En} {mk : Mem → Mem} (hmk : MK mk sdC) (x1 : Int32) (x2 : Int32)  {σ : Mem} {r : Int32} {τ : Mem} (h : f_X4_hold x1 x2 σ = some (r, τ)) : Met l yX4_hold (Cond.code yX4_hold cX4_hold 3 (some .int) :: wt) rm_X4_hold (PW E mk [.ref (eA E 0), .int x1, .int x2] σ) (QI E mk r τ) 0 0 (WA E) :=
  met_i (fun E => [.ref (eA E 0), .int x1, .int x2]) (by decide) hmk (Nat.le_of_ble_eq_true rfl) (fun X o hr => w_X4_hold rfl o hr x1 x2  h)
set_option maxRecDepth 100000 in
set_option maxHeartbeats 4000000 in
theorem w_X4_as_J14 {X : Cx} {l : Launch} {r : Int32} {σr : Mem} {res : Int32 × Mem} (hres : res = (r, σr)) (o : OK X cX4_as RX4 sdC 4 rm_X4_as l) (hr : RI X .int r σr)     {σ : Mem} (h : f_X4_as_J14   σ = some res) : G X σ 14 [(0, .ref (eA (xE X) 0))] [] := by
  unfold f_X4_as_J14 at h
  refine g_aload_n o (q := 15) 0 rfl rfl dX4_as_14 rfl ?_
  refine g_iconst o (v := 0) (q := 16) (by decide) dX4_as_15 rfl ?_
  refine g_cvi o (q := 19) (As := [.int 0]) (rest := []) kv_X4_find lk_X4_51 kC_0 (by decide) rfl rfl rfl (fun _ _ hc => c_X4_find o.mk 0 hc) dX4_as_16 rfl ⟨rfl, rfl, Nat.le_of_ble_eq_true rfl, Nat.le_of_ble_eq_true rfl⟩ (Nat.le_of_ble_eq_true rfl) rfl h (fun r24 σ23 h => ?_)
  exact g_iret o hr (h.trans (congrArg some hres)) rfl dX4_as_19
set_option maxRecDepth 100000 in
set_option maxHeartbeats 4000000 in
theorem w_X4_as {X : Cx} {l : Launch} {r : Int32} {σr : Mem} {res : Int32 × Mem} (hres : res = (r, σr)) (o : OK X cX4_as RX4 sdC 4 rm_X4_as l) (hr : RI X .int r σr) (x1 : Int32) (x2 : Int32)  {σ : Mem} (h : f_X4_as x1 x2 σ = some res) : G X σ 0 [(0, .ref (eA (xE X) 0)), (1, .int x1), (2, .int x2)] [] := by
  unfold f_X4_as at h
  refine g_iload_n o (q := 1) 1 rfl rfl dX4_as_0 rfl ?_
  refine g_csi o (q := 4) (As := [.int x1]) (rest := []) kv_X4_isSpot lk_X4_206 rfl (fun _ _ hc => c_X4_isSpot o.mk x1 hc) dX4_as_1 rfl ⟨rfl, rfl, Nat.le_of_ble_eq_true rfl, Nat.le_of_ble_eq_true rfl⟩ (Nat.le_of_ble_eq_true rfl) rfl h (fun r22 σ21 h => ?_)
  refine g_if_eq o (tgt := 14) (q := 7) dX4_as_4 (by decide) rfl h (fun h => ?_) (fun h => ?_)
  · refine g_sub (lv' := [(0, .ref (eA (xE X) 0))]) [0] rfl ?_
    exact w_X4_as_J14 hres o hr   h
  · refine g_iload_n o (q := 8) 2 rfl rfl dX4_as_7 rfl ?_
    refine g_csi o (q := 11) (As := [.int x2]) (rest := []) kv_X4_isKind lk_X4_66 rfl (fun _ _ hc => c_X4_isKind o.mk x2 hc) dX4_as_8 rfl ⟨rfl, rfl, Nat.le_of_ble_eq_true rfl, Nat.le_of_ble_eq_true rfl⟩ (Nat.le_of_ble_eq_true rfl) rfl h (fun r26 σ25 h => ?_)
    refine g_if_ne o (tgt := 20) (q := 14) dX4_as_11 (by decide) rfl h (fun h => ?_) (fun h => ?_)
    · refine g_aload_n o (q := 21) 0 rfl rfl dX4_as_20 rfl ?_
      refine gf_X4_0 o (q := 24) kC_0 lk_X4_10 dX4_as_21 rfl ?_
      refine gf_X1_7 o (q := 27) kC_1 lk_X4_209 dX4_as_24 rfl ?_
      refine g_iload_n o (q := 28) 1 rfl rfl dX4_as_27 rfl ?_
      refine g_iald o (q := 29) (ka_spots kC_1) dX4_as_28 rfl h (fun j27 hjj27 h => ?_)
      refine g_istore_n o (q := 30) dX4_as_29 rfl rfl (by decide) h (fun x28 => [(3, .int x28), (0, .ref (eA (xE X) 0)), (1, .int x1), (2, .int x2)]) (fun _ => rfl) (fun x28 h => ?_)
      refine g_aload_n o (q := 31) 1 rfl rfl dX4_as_30 rfl ?_
      refine g_iload_n o (q := 32) 0 rfl rfl dX4_as_31 rfl ?_
      refine g_cvi o (q := 35) (As := [.int x28]) (rest := []) kv_X4_isCurtain lk_X4_83 kC_0 (by decide) rfl rfl rfl (fun _ _ hc => c_X4_isCurtain o.mk x28 hc) dX4_as_32 rfl ⟨rfl, rfl, Nat.le_of_ble_eq_true rfl, Nat.le_of_ble_eq_true rfl⟩ (Nat.le_of_ble_eq_true rfl) rfl h (fun r30 σ29 h => ?_)
      refine g_if_ne o (tgt := 44) (q := 38) dX4_as_35 (by decide) rfl h (fun h => ?_) (fun h => ?_)
      · refine g_aload_n o (q := 45) 1 rfl rfl dX4_as_44 rfl ?_
        refine gf_X4_0 o (q := 48) kC_0 lk_X4_10 dX4_as_45 rfl ?_
        refine gf_X1_8 o (q := 51) kC_1 lk_X4_86 dX4_as_48 rfl ?_
        refine g_iload_n o (q := 52) 0 rfl rfl dX4_as_51 rfl ?_
        refine g_aald8 o (q := 53) (ka_curs kC_1) dX4_as_52 rfl h (fun j31 hjj31 h => ?_)
        refine g_iload_n o (q := 54) 3 rfl rfl dX4_as_53 rfl ?_
        refine g_cvi o (q := 57) (As := [.int x2]) (rest := []) kv_X0_countsAs lk_X4_212 (kd_cur (ka_curs kC_1) hjj31) (by decide) rfl rfl rfl (fun _ _ hc => c_X0_countsAs o.mk (1 + 3 + 1 + j31) x2 (kd_cur (ka_curs kC_1) hjj31) hc) dX4_as_54 rfl ⟨rfl, rfl, Nat.le_of_ble_eq_true rfl, Nat.le_of_ble_eq_true rfl⟩ (Nat.le_of_ble_eq_true rfl) rfl h (fun r33 σ32 h => ?_)
        refine g_if_ne o (tgt := 66) (q := 60) dX4_as_57 (by decide) rfl h (fun h => ?_) (fun h => ?_)
        · refine g_iload_n o (q := 67) 0 rfl rfl dX4_as_66 rfl ?_
          exact g_iret o hr (h.trans (congrArg some hres)) rfl dX4_as_67
        · refine g_aload_n o (q := 61) 1 rfl rfl dX4_as_60 rfl ?_
          refine g_iconst o (v := 2) (q := 62) (by decide) dX4_as_61 rfl ?_
          refine g_cvi o (q := 65) (As := [.int 2]) (rest := []) kv_X4_find lk_X4_51 kC_0 (by decide) rfl rfl rfl (fun _ _ hc => c_X4_find o.mk 2 hc) dX4_as_62 rfl ⟨rfl, rfl, Nat.le_of_ble_eq_true rfl, Nat.le_of_ble_eq_true rfl⟩ (Nat.le_of_ble_eq_true rfl) rfl h (fun r35 σ34 h => ?_)
          exact g_iret o hr (h.trans (congrArg some hres)) rfl dX4_as_65
      · refine g_aload_n o (q := 39) 1 rfl rfl dX4_as_38 rfl ?_
        refine g_iconst o (v := 5) (q := 40) (by decide) dX4_as_39 rfl ?_
        refine g_cvi o (q := 43) (As := [.int 5]) (rest := []) kv_X4_find lk_X4_51 kC_0 (by decide) rfl rfl rfl (fun _ _ hc => c_X4_find o.mk 5 hc) dX4_as_40 rfl ⟨rfl, rfl, Nat.le_of_ble_eq_true rfl, Nat.le_of_ble_eq_true rfl⟩ (Nat.le_of_ble_eq_true rfl) rfl h (fun r37 σ36 h => ?_)
        exact g_iret o hr (h.trans (congrArg some hres)) rfl dX4_as_43
    · refine g_sub (lv' := [(0, .ref (eA (xE X) 0))]) [0] rfl ?_
      exact w_X4_as_J14 hres o hr   h
theorem c_X4_as {l : Launch} {E : En} {mk : Mem → Mem} (hmk : MK mk sdC) (x1 : Int32) (x2 : Int32)  {σ : Mem} {r : Int32} {τ : Mem} (h : f_X4_as x1 x2 σ = some (r, τ)) : Met l yX4_as (Cond.code yX4_as cX4_as 4 (some .int) :: wt) rm_X4_as (PW E mk [.ref (eA E 0), .int x1, .int x2] σ) (QI E mk r τ) 0 0 (WA E) :=
  met_i (fun E => [.ref (eA E 0), .int x1, .int x2]) (by decide) hmk (Nat.le_of_ble_eq_true rfl) (fun X o hr => w_X4_as rfl o hr x1 x2  h)
set_option maxRecDepth 100000 in
set_option maxHeartbeats 4000000 in
theorem w_X4_sheet_J29 {X : Cx} {l : Launch} {r : Int32} {σr : Mem} {res : Int32 × Mem} (hres : res = (r, σr)) (o : OK X cX4_sheet RX4 sdC 4 rm_X4_sheet l) (hr : RI X .int r σr)     {σ : Mem} (h : f_X4_sheet_J29   σ = some res) : G X σ 29 [(0, .ref (eA (xE X) 0))] [] := by
  unfold f_X4_sheet_J29 at h
  refine g_aload_n o (q := 30) 0 rfl rfl dX4_sheet_29 rfl ?_
  refine g_iconst o (v := 0) (q := 31) (by decide) dX4_sheet_30 rfl ?_
  refine g_cvi o (q := 34) (As := [.int 0]) (rest := []) kv_X4_find lk_X4_51 kC_0 (by decide) rfl rfl rfl (fun _ _ hc => c_X4_find o.mk 0 hc) dX4_sheet_31 rfl ⟨rfl, rfl, Nat.le_of_ble_eq_true rfl, Nat.le_of_ble_eq_true rfl⟩ (Nat.le_of_ble_eq_true rfl) rfl h (fun r24 σ23 h => ?_)
  exact g_iret o hr (h.trans (congrArg some hres)) rfl dX4_sheet_34
set_option maxRecDepth 100000 in
set_option maxHeartbeats 4000000 in
theorem w_X4_sheet_J74 {X : Cx} {l : Launch} {r : Int32} {σr : Mem} {res : Int32 × Mem} (hres : res = (r, σr)) (o : OK X cX4_sheet RX4 sdC 4 rm_X4_sheet l) (hr : RI X .int r σr)   {y1 : Int32} {c0 : Nat} {s1 : Int32} {s2 : Int32} (f0 : kd sdC c0 2) {σ : Mem} (h : f_X4_sheet_J74  y1 c0 s1 s2 σ = some res) : G X σ 74 [(0, .ref (eA (xE X) 0)), (1, .int y1)] [.int s2, .int s1, .ref (eA (xE X) c0)] := by
  unfold f_X4_sheet_J74 at h
  refine g_cvv o (q := 77) (As := [.int s1, .int s2]) (rest := []) kv_X2_lay lk_X4_218 f0 (by decide) rfl rfl rfl (fun _ _ hc => c_X2_lay o.mk c0 s1 s2 f0 hc) dX4_sheet_74 rfl ⟨rfl, rfl, Nat.le_of_ble_eq_true rfl, Nat.le_of_ble_eq_true rfl⟩ (Nat.le_of_ble_eq_true rfl) rfl h (fun _u26 σ26 h => ?_)
  refine g_aload_n o (q := 78) 0 rfl rfl dX4_sheet_77 rfl ?_
  refine gf_X4_6 o (q := 81) kC_0 lk_X4_38 dX4_sheet_78 rfl ?_
  refine g_iload_n o (q := 82) 1 rfl rfl dX4_sheet_81 rfl ?_
  refine g_aald9 o (q := 83) kC_40 dX4_sheet_82 rfl h (fun j27 hjj27 h => ?_)
  refine gf_X2_1 o (q := 86) (kd_she j27 hjj27) lk_X4_221 dX4_sheet_83 rfl ?_
  exact g_iret o hr (h.trans (congrArg some hres)) rfl dX4_sheet_86
set_option maxRecDepth 100000 in
set_option maxHeartbeats 4000000 in
theorem w_X4_sheet_J35 {X : Cx} {l : Launch} {r : Int32} {σr : Mem} {res : Int32 × Mem} (hres : res = (r, σr)) (o : OK X cX4_sheet RX4 sdC 4 rm_X4_sheet l) (hr : RI X .int r σr)   {y1 : Int32} {y2 : Int32} {y3 : Int32}  {σ : Mem} (h : f_X4_sheet_J35  y1 y2 y3 σ = some res) : G X σ 35 [(0, .ref (eA (xE X) 0)), (1, .int y1), (2, .int y2), (3, .int y3)] [] := by
  unfold f_X4_sheet_J35 at h
  refine g_iload_n o (q := 36) 3 rfl rfl dX4_sheet_35 rfl ?_
  refine g_if_ge o (tgt := 46) (q := 39) dX4_sheet_36 (by decide) rfl h (fun h => ?_) (fun h => ?_)
  · refine g_iload_n o (q := 47) 3 rfl rfl dX4_sheet_46 rfl ?_
    refine g_bipush o (v := 40) (q := 49) (by decide) dX4_sheet_47 rfl ?_
    refine g_icmp_le o (tgt := 58) (q := 52) dX4_sheet_49 (by decide) rfl h (fun h => ?_) (fun h => ?_)
    · refine g_aload_n o (q := 59) 0 rfl rfl dX4_sheet_58 rfl ?_
      refine gf_X4_6 o (q := 62) kC_0 lk_X4_38 dX4_sheet_59 rfl ?_
      refine g_iload_n o (q := 63) 1 rfl rfl dX4_sheet_62 rfl ?_
      refine g_aald9 o (q := 64) kC_40 dX4_sheet_63 rfl h (fun j25 hjj25 h => ?_)
      refine g_iload_n o (q := 65) 2 rfl rfl dX4_sheet_64 rfl ?_
      refine g_iload_n o (q := 66) 2 rfl rfl dX4_sheet_65 rfl ?_
      refine g_if_ne o (tgt := 73) (q := 69) dX4_sheet_66 (by decide) rfl h (fun h => ?_) (fun h => ?_)
      · refine g_iload_n o (q := 74) 3 rfl rfl dX4_sheet_73 rfl ?_
        refine g_sub (lv' := [(0, .ref (eA (xE X) 0)), (1, .int y1)]) [0, 1] rfl ?_
        exact w_X4_sheet_J74 hres o hr  (kd_she j25 hjj25) h
      · refine g_iconst o (v := 0) (q := 70) (by decide) dX4_sheet_69 rfl ?_
        refine g_goto o (tgt := 74) dX4_sheet_70 (by decide) ?_
        refine g_sub (lv' := [(0, .ref (eA (xE X) 0)), (1, .int y1)]) [0, 1] rfl ?_
        exact w_X4_sheet_J74 hres o hr  (kd_she j25 hjj25) h
    · refine g_aload_n o (q := 53) 0 rfl rfl dX4_sheet_52 rfl ?_
      refine g_iconst o (v := 0) (q := 54) (by decide) dX4_sheet_53 rfl ?_
      refine g_cvi o (q := 57) (As := [.int 0]) (rest := []) kv_X4_find lk_X4_51 kC_0 (by decide) rfl rfl rfl (fun _ _ hc => c_X4_find o.mk 0 hc) dX4_sheet_54 rfl ⟨rfl, rfl, Nat.le_of_ble_eq_true rfl, Nat.le_of_ble_eq_true rfl⟩ (Nat.le_of_ble_eq_true rfl) rfl h (fun r29 σ28 h => ?_)
      exact g_iret o hr (h.trans (congrArg some hres)) rfl dX4_sheet_57
  · refine g_aload_n o (q := 40) 0 rfl rfl dX4_sheet_39 rfl ?_
    refine g_bipush o (v := 6) (q := 42) (by decide) dX4_sheet_40 rfl ?_
    refine g_cvi o (q := 45) (As := [.int 6]) (rest := []) kv_X4_find lk_X4_51 kC_0 (by decide) rfl rfl rfl (fun _ _ hc => c_X4_find o.mk 6 hc) dX4_sheet_42 rfl ⟨rfl, rfl, Nat.le_of_ble_eq_true rfl, Nat.le_of_ble_eq_true rfl⟩ (Nat.le_of_ble_eq_true rfl) rfl h (fun r31 σ30 h => ?_)
    exact g_iret o hr (h.trans (congrArg some hres)) rfl dX4_sheet_45
set_option maxRecDepth 100000 in
set_option maxHeartbeats 4000000 in
theorem w_X4_sheet {X : Cx} {l : Launch} {r : Int32} {σr : Mem} {res : Int32 × Mem} (hres : res = (r, σr)) (o : OK X cX4_sheet RX4 sdC 4 rm_X4_sheet l) (hr : RI X .int r σr) (x1 : Int32) (x2 : Int32) (x3 : Int32)  {σ : Mem} (h : f_X4_sheet x1 x2 x3 σ = some res) : G X σ 0 [(0, .ref (eA (xE X) 0)), (1, .int x1), (2, .int x2), (3, .int x3)] [] := by
  unfold f_X4_sheet at h
  refine g_iload_n o (q := 1) 1 rfl rfl dX4_sheet_0 rfl ?_
  refine g_csi o (q := 4) (As := [.int x1]) (rest := []) kv_X4_isSheet lk_X4_215 rfl (fun _ _ hc => c_X4_isSheet o.mk x1 hc) dX4_sheet_1 rfl ⟨rfl, rfl, Nat.le_of_ble_eq_true rfl, Nat.le_of_ble_eq_true rfl⟩ (Nat.le_of_ble_eq_true rfl) rfl h (fun r22 σ21 h => ?_)
  refine g_if_eq o (tgt := 29) (q := 7) dX4_sheet_4 (by decide) rfl h (fun h => ?_) (fun h => ?_)
  · refine g_sub (lv' := [(0, .ref (eA (xE X) 0))]) [0] rfl ?_
    exact w_X4_sheet_J29 hres o hr   h
  · refine g_iload_n o (q := 8) 2 rfl rfl dX4_sheet_7 rfl ?_
    refine g_if_eq o (tgt := 35) (q := 11) dX4_sheet_8 (by decide) rfl h (fun h => ?_) (fun h => ?_)
    · exact w_X4_sheet_J35 hres o hr   h
    · refine g_iload_n o (q := 12) 2 rfl rfl dX4_sheet_11 rfl ?_
      refine g_bipush o (v := 8) (q := 14) (by decide) dX4_sheet_12 rfl ?_
      refine g_icmp_eq o (tgt := 35) (q := 17) dX4_sheet_14 (by decide) rfl h (fun h => ?_) (fun h => ?_)
      · exact w_X4_sheet_J35 hres o hr   h
      · refine g_iload_n o (q := 18) 2 rfl rfl dX4_sheet_17 rfl ?_
        refine g_bipush o (v := 16) (q := 20) (by decide) dX4_sheet_18 rfl ?_
        refine g_icmp_eq o (tgt := 35) (q := 23) dX4_sheet_20 (by decide) rfl h (fun h => ?_) (fun h => ?_)
        · exact w_X4_sheet_J35 hres o hr   h
        · refine g_iload_n o (q := 24) 2 rfl rfl dX4_sheet_23 rfl ?_
          refine g_bipush o (v := 32) (q := 26) (by decide) dX4_sheet_24 rfl ?_
          refine g_icmp_eq o (tgt := 35) (q := 29) dX4_sheet_26 (by decide) rfl h (fun h => ?_) (fun h => ?_)
          · exact w_X4_sheet_J35 hres o hr   h
          · refine g_sub (lv' := [(0, .ref (eA (xE X) 0))]) [0] rfl ?_
            exact w_X4_sheet_J29 hres o hr   h
theorem c_X4_sheet {l : Launch} {E : En} {mk : Mem → Mem} (hmk : MK mk sdC) (x1 : Int32) (x2 : Int32) (x3 : Int32)  {σ : Mem} {r : Int32} {τ : Mem} (h : f_X4_sheet x1 x2 x3 σ = some (r, τ)) : Met l yX4_sheet (Cond.code yX4_sheet cX4_sheet 4 (some .int) :: wt) rm_X4_sheet (PW E mk [.ref (eA E 0), .int x1, .int x2, .int x3] σ) (QI E mk r τ) 0 0 (WA E) :=
  met_i (fun E => [.ref (eA E 0), .int x1, .int x2, .int x3]) (by decide) hmk (Nat.le_of_ble_eq_true rfl) (fun X o hr => w_X4_sheet rfl o hr x1 x2 x3  h)
set_option maxRecDepth 100000 in
set_option maxHeartbeats 4000000 in
theorem w_X4_write {X : Cx} {l : Launch} {r : Int32} {σr : Mem} {res : Int32 × Mem} (hres : res = (r, σr)) (o : OK X cX4_write RX4 sdC 4 rm_X4_write l) (hr : RI X .int r σr) (x1 : Int32) (x2 : Int32) (x3 : Int32)  {σ : Mem} (h : f_X4_write x1 x2 x3 σ = some res) : G X σ 0 [(0, .ref (eA (xE X) 0)), (1, .int x1), (2, .int x2), (3, .int x3)] [] := by
  unfold f_X4_write at h
  refine g_iload_n o (q := 1) 1 rfl rfl dX4_write_0 rfl ?_
  refine g_csi o (q := 4) (As := [.int x1]) (rest := []) kv_X4_isSheet lk_X4_215 rfl (fun _ _ hc => c_X4_isSheet o.mk x1 hc) dX4_write_1 rfl ⟨rfl, rfl, Nat.le_of_ble_eq_true rfl, Nat.le_of_ble_eq_true rfl⟩ (Nat.le_of_ble_eq_true rfl) rfl h (fun r22 σ21 h => ?_)
  refine g_if_ne o (tgt := 13) (q := 7) dX4_write_4 (by decide) rfl h (fun h => ?_) (fun h => ?_)
  · refine g_aload_n o (q := 14) 0 rfl rfl dX4_write_13 rfl ?_
    refine gf_X4_6 o (q := 17) kC_0 lk_X4_38 dX4_write_14 rfl ?_
    refine g_iload_n o (q := 18) 1 rfl rfl dX4_write_17 rfl ?_
    refine g_aald9 o (q := 19) kC_40 dX4_write_18 rfl h (fun j23 hjj23 h => ?_)
    refine g_cvi o (q := 22) (As := []) (rest := []) kv_X2_isMissing lk_X4_222 (kd_she j23 hjj23) (by decide) rfl rfl rfl (fun _ _ hc => c_X2_isMissing o.mk (40 + 1 + 2 * j23) (kd_she j23 hjj23) hc) dX4_write_19 rfl ⟨rfl, rfl, Nat.le_of_ble_eq_true rfl, Nat.le_of_ble_eq_true rfl⟩ (Nat.le_of_ble_eq_true rfl) rfl h (fun r25 σ24 h => ?_)
    refine g_if_eq o (tgt := 31) (q := 25) dX4_write_22 (by decide) rfl h (fun h => ?_) (fun h => ?_)
    · refine g_iload_n o (q := 32) 2 rfl rfl dX4_write_31 rfl ?_
      refine g_iconst o (v := 0) (q := 33) (by decide) dX4_write_32 rfl ?_
      refine g_aload_n o (q := 34) 0 rfl rfl dX4_write_33 rfl ?_
      refine gf_X4_6 o (q := 37) kC_0 lk_X4_38 dX4_write_34 rfl ?_
      refine g_iload_n o (q := 38) 1 rfl rfl dX4_write_37 rfl ?_
      refine g_aald9 o (q := 39) kC_40 dX4_write_38 rfl h (fun j26 hjj26 h => ?_)
      refine gf_X2_1 o (q := 42) (kd_she j26 hjj26) lk_X4_221 dX4_write_39 rfl ?_
      refine g_iconst o (v := 1) (q := 43) (by decide) dX4_write_42 rfl ?_
      refine g_isub o (q := 44) dX4_write_43 rfl ?_
      refine g_csi o (q := 47) (As := [.int x2, .int 0, .int ((σ24 (40 + 1 + 2 * j26) 1) - 1)]) (rest := []) kv_X4_isWithin lk_X4_47 rfl (fun _ _ hc => c_X4_isWithin o.mk x2 0 ((σ24 (40 + 1 + 2 * j26) 1) - 1) hc) dX4_write_44 rfl ⟨rfl, rfl, Nat.le_of_ble_eq_true rfl, Nat.le_of_ble_eq_true rfl⟩ (Nat.le_of_ble_eq_true rfl) rfl h (fun r28 σ27 h => ?_)
      refine g_if_ne o (tgt := 56) (q := 50) dX4_write_47 (by decide) rfl h (fun h => ?_) (fun h => ?_)
      · refine g_aload_n o (q := 57) 0 rfl rfl dX4_write_56 rfl ?_
        refine gf_X4_6 o (q := 60) kC_0 lk_X4_38 dX4_write_57 rfl ?_
        refine g_iload_n o (q := 61) 1 rfl rfl dX4_write_60 rfl ?_
        refine g_aald9 o (q := 62) kC_40 dX4_write_61 rfl h (fun j29 hjj29 h => ?_)
        refine g_iload_n o (q := 63) 2 rfl rfl dX4_write_62 rfl ?_
        refine g_iload_n o (q := 64) 3 rfl rfl dX4_write_63 rfl ?_
        refine g_cvv o (q := 67) (As := [.int x2, .int x3]) (rest := []) kv_X2_put lk_X4_225 (kd_she j29 hjj29) (by decide) rfl rfl rfl (fun _ _ hc => c_X2_put o.mk (40 + 1 + 2 * j29) x2 x3 (kd_she j29 hjj29) hc) dX4_write_64 rfl ⟨rfl, rfl, Nat.le_of_ble_eq_true rfl, Nat.le_of_ble_eq_true rfl⟩ (Nat.le_of_ble_eq_true rfl) rfl h (fun _u30 σ30 h => ?_)
        refine g_iconst o (v := 1) (q := 68) (by decide) dX4_write_67 rfl ?_
        exact g_iret o hr (h.trans (congrArg some hres)) rfl dX4_write_68
      · refine g_aload_n o (q := 51) 0 rfl rfl dX4_write_50 rfl ?_
        refine g_iconst o (v := 0) (q := 52) (by decide) dX4_write_51 rfl ?_
        refine g_cvi o (q := 55) (As := [.int 0]) (rest := []) kv_X4_find lk_X4_51 kC_0 (by decide) rfl rfl rfl (fun _ _ hc => c_X4_find o.mk 0 hc) dX4_write_52 rfl ⟨rfl, rfl, Nat.le_of_ble_eq_true rfl, Nat.le_of_ble_eq_true rfl⟩ (Nat.le_of_ble_eq_true rfl) rfl h (fun r32 σ31 h => ?_)
        exact g_iret o hr (h.trans (congrArg some hres)) rfl dX4_write_55
    · refine g_aload_n o (q := 26) 0 rfl rfl dX4_write_25 rfl ?_
      refine g_iconst o (v := 5) (q := 27) (by decide) dX4_write_26 rfl ?_
      refine g_cvi o (q := 30) (As := [.int 5]) (rest := []) kv_X4_find lk_X4_51 kC_0 (by decide) rfl rfl rfl (fun _ _ hc => c_X4_find o.mk 5 hc) dX4_write_27 rfl ⟨rfl, rfl, Nat.le_of_ble_eq_true rfl, Nat.le_of_ble_eq_true rfl⟩ (Nat.le_of_ble_eq_true rfl) rfl h (fun r34 σ33 h => ?_)
      exact g_iret o hr (h.trans (congrArg some hres)) rfl dX4_write_30
  · refine g_aload_n o (q := 8) 0 rfl rfl dX4_write_7 rfl ?_
    refine g_iconst o (v := 0) (q := 9) (by decide) dX4_write_8 rfl ?_
    refine g_cvi o (q := 12) (As := [.int 0]) (rest := []) kv_X4_find lk_X4_51 kC_0 (by decide) rfl rfl rfl (fun _ _ hc => c_X4_find o.mk 0 hc) dX4_write_9 rfl ⟨rfl, rfl, Nat.le_of_ble_eq_true rfl, Nat.le_of_ble_eq_true rfl⟩ (Nat.le_of_ble_eq_true rfl) rfl h (fun r36 σ35 h => ?_)
    exact g_iret o hr (h.trans (congrArg some hres)) rfl dX4_write_12
theorem c_X4_write {l : Launch} {E : En} {mk : Mem → Mem} (hmk : MK mk sdC) (x1 : Int32) (x2 : Int32) (x3 : Int32)  {σ : Mem} {r : Int32} {τ : Mem} (h : f_X4_write x1 x2 x3 σ = some (r, τ)) : Met l yX4_write (Cond.code yX4_write cX4_write 4 (some .int) :: wt) rm_X4_write (PW E mk [.ref (eA E 0), .int x1, .int x2, .int x3] σ) (QI E mk r τ) 0 0 (WA E) :=
  met_i (fun E => [.ref (eA E 0), .int x1, .int x2, .int x3]) (by decide) hmk (Nat.le_of_ble_eq_true rfl) (fun X o hr => w_X4_write rfl o hr x1 x2 x3  h)
set_option maxRecDepth 100000 in
set_option maxHeartbeats 4000000 in
theorem w_X4_copy_J14 {X : Cx} {l : Launch} {r : Int32} {σr : Mem} {res : Int32 × Mem} (hres : res = (r, σr)) (o : OK X cX4_copy RX4 sdC 8 rm_X4_copy l) (hr : RI X .int r σr)     {σ : Mem} (h : f_X4_copy_J14   σ = some res) : G X σ 14 [(0, .ref (eA (xE X) 0))] [] := by
  unfold f_X4_copy_J14 at h
  refine g_aload_n o (q := 15) 0 rfl rfl dX4_copy_14 rfl ?_
  refine g_iconst o (v := 0) (q := 16) (by decide) dX4_copy_15 rfl ?_
  refine g_cvi o (q := 19) (As := [.int 0]) (rest := []) kv_X4_find lk_X4_51 kC_0 (by decide) rfl rfl rfl (fun _ _ hc => c_X4_find o.mk 0 hc) dX4_copy_16 rfl ⟨rfl, rfl, Nat.le_of_ble_eq_true rfl, Nat.le_of_ble_eq_true rfl⟩ (Nat.le_of_ble_eq_true rfl) rfl h (fun r24 σ23 h => ?_)
  exact g_iret o hr (h.trans (congrArg some hres)) rfl dX4_copy_19
set_option maxRecDepth 100000 in
set_option maxHeartbeats 4000000 in
theorem w_X4_copy_J52 {X : Cx} {l : Launch} {r : Int32} {σr : Mem} {res : Int32 × Mem} (hres : res = (r, σr)) (o : OK X cX4_copy RX4 sdC 8 rm_X4_copy l) (hr : RI X .int r σr)     {σ : Mem} (h : f_X4_copy_J52   σ = some res) : G X σ 52 [(0, .ref (eA (xE X) 0))] [] := by
  unfold f_X4_copy_J52 at h
  refine g_aload_n o (q := 53) 0 rfl rfl dX4_copy_52 rfl ?_
  refine g_iconst o (v := 5) (q := 54) (by decide) dX4_copy_53 rfl ?_
  refine g_cvi o (q := 57) (As := [.int 5]) (rest := []) kv_X4_find lk_X4_51 kC_0 (by decide) rfl rfl rfl (fun _ _ hc => c_X4_find o.mk 5 hc) dX4_copy_54 rfl ⟨rfl, rfl, Nat.le_of_ble_eq_true rfl, Nat.le_of_ble_eq_true rfl⟩ (Nat.le_of_ble_eq_true rfl) rfl h (fun r32 σ31 h => ?_)
  exact g_iret o hr (h.trans (congrArg some hres)) rfl dX4_copy_57
set_option maxRecDepth 100000 in
set_option maxHeartbeats 4000000 in
theorem w_X4_copy_J100 {X : Cx} {l : Launch} {r : Int32} {σr : Mem} {res : Int32 × Mem} (hres : res = (r, σr)) (o : OK X cX4_copy RX4 sdC 8 rm_X4_copy l) (hr : RI X .int r σr)     {σ : Mem} (h : f_X4_copy_J100   σ = some res) : G X σ 100 [(0, .ref (eA (xE X) 0))] [] := by
  unfold f_X4_copy_J100 at h
  refine g_aload_n o (q := 101) 0 rfl rfl dX4_copy_100 rfl ?_
  refine g_iconst o (v := 0) (q := 102) (by decide) dX4_copy_101 rfl ?_
  refine g_cvi o (q := 105) (As := [.int 0]) (rest := []) kv_X4_find lk_X4_51 kC_0 (by decide) rfl rfl rfl (fun _ _ hc => c_X4_find o.mk 0 hc) dX4_copy_102 rfl ⟨rfl, rfl, Nat.le_of_ble_eq_true rfl, Nat.le_of_ble_eq_true rfl⟩ (Nat.le_of_ble_eq_true rfl) rfl h (fun r38 σ37 h => ?_)
  exact g_iret o hr (h.trans (congrArg some hres)) rfl dX4_copy_105
set_option maxRecDepth 100000 in
set_option maxHeartbeats 4000000 in
theorem w_X4_copy {X : Cx} {l : Launch} {r : Int32} {σr : Mem} {res : Int32 × Mem} (hres : res = (r, σr)) (o : OK X cX4_copy RX4 sdC 8 rm_X4_copy l) (hr : RI X .int r σr) (x1 : Int32) (x2 : Int32) (x3 : Int32) (x4 : Int32) (x5 : Int32)  {σ : Mem} (h : f_X4_copy x1 x2 x3 x4 x5 σ = some res) : G X σ 0 [(0, .ref (eA (xE X) 0)), (1, .int x1), (2, .int x2), (3, .int x3), (4, .int x4), (5, .int x5)] [] := by
  unfold f_X4_copy at h
  refine g_iload_n o (q := 1) 1 rfl rfl dX4_copy_0 rfl ?_
  refine g_csi o (q := 4) (As := [.int x1]) (rest := []) kv_X4_isSheet lk_X4_215 rfl (fun _ _ hc => c_X4_isSheet o.mk x1 hc) dX4_copy_1 rfl ⟨rfl, rfl, Nat.le_of_ble_eq_true rfl, Nat.le_of_ble_eq_true rfl⟩ (Nat.le_of_ble_eq_true rfl) rfl h (fun r22 σ21 h => ?_)
  refine g_if_eq o (tgt := 14) (q := 7) dX4_copy_4 (by decide) rfl h (fun h => ?_) (fun h => ?_)
  · refine g_sub (lv' := [(0, .ref (eA (xE X) 0))]) [0] rfl ?_
    exact w_X4_copy_J14 hres o hr   h
  · refine g_iload_n o (q := 8) 3 rfl rfl dX4_copy_7 rfl ?_
    refine g_csi o (q := 11) (As := [.int x3]) (rest := []) kv_X4_isSheet lk_X4_215 rfl (fun _ _ hc => c_X4_isSheet o.mk x3 hc) dX4_copy_8 rfl ⟨rfl, rfl, Nat.le_of_ble_eq_true rfl, Nat.le_of_ble_eq_true rfl⟩ (Nat.le_of_ble_eq_true rfl) rfl h (fun r26 σ25 h => ?_)
    refine g_if_ne o (tgt := 20) (q := 14) dX4_copy_11 (by decide) rfl h (fun h => ?_) (fun h => ?_)
    · refine g_aload_n o (q := 21) 0 rfl rfl dX4_copy_20 rfl ?_
      refine gf_X4_6 o (q := 24) kC_0 lk_X4_38 dX4_copy_21 rfl ?_
      refine g_iload_n o (q := 25) 1 rfl rfl dX4_copy_24 rfl ?_
      refine g_aald9 o (q := 26) kC_40 dX4_copy_25 rfl h (fun j27 hjj27 h => ?_)
      refine g_astore o (q := 28) dX4_copy_26 rfl (by decide) [(6, .ref (eA (xE X) (40 + 1 + 2 * j27))), (0, .ref (eA (xE X) 0)), (1, .int x1), (2, .int x2), (3, .int x3), (4, .int x4), (5, .int x5)] rfl ?_
      refine g_aload_n o (q := 29) 1 rfl rfl dX4_copy_28 rfl ?_
      refine gf_X4_6 o (q := 32) kC_0 lk_X4_38 dX4_copy_29 rfl ?_
      refine g_iload_n o (q := 33) 4 rfl rfl dX4_copy_32 rfl ?_
      refine g_aald9 o (q := 34) kC_40 dX4_copy_33 rfl h (fun j28 hjj28 h => ?_)
      refine g_astore o (q := 36) dX4_copy_34 rfl (by decide) [(7, .ref (eA (xE X) (40 + 1 + 2 * j28))), (6, .ref (eA (xE X) (40 + 1 + 2 * j27))), (0, .ref (eA (xE X) 0)), (1, .int x1), (2, .int x2), (3, .int x3), (4, .int x4), (5, .int x5)] rfl ?_
      refine g_aload o (q := 38) 1 rfl dX4_copy_36 rfl ?_
      refine g_cvi o (q := 41) (As := []) (rest := []) kv_X2_isMissing lk_X4_222 (kd_she j27 hjj27) (by decide) rfl rfl rfl (fun _ _ hc => c_X2_isMissing o.mk (40 + 1 + 2 * j27) (kd_she j27 hjj27) hc) dX4_copy_38 rfl ⟨rfl, rfl, Nat.le_of_ble_eq_true rfl, Nat.le_of_ble_eq_true rfl⟩ (Nat.le_of_ble_eq_true rfl) rfl h (fun r30 σ29 h => ?_)
      refine g_if_ne o (tgt := 52) (q := 44) dX4_copy_41 (by decide) rfl h (fun h => ?_) (fun h => ?_)
      · refine g_sub (lv' := [(0, .ref (eA (xE X) 0))]) [2] rfl ?_
        exact w_X4_copy_J52 hres o hr   h
      · refine g_aload o (q := 46) 0 rfl dX4_copy_44 rfl ?_
        refine g_cvi o (q := 49) (As := []) (rest := []) kv_X2_isMissing lk_X4_222 (kd_she j28 hjj28) (by decide) rfl rfl rfl (fun _ _ hc => c_X2_isMissing o.mk (40 + 1 + 2 * j28) (kd_she j28 hjj28) hc) dX4_copy_46 rfl ⟨rfl, rfl, Nat.le_of_ble_eq_true rfl, Nat.le_of_ble_eq_true rfl⟩ (Nat.le_of_ble_eq_true rfl) rfl h (fun r34 σ33 h => ?_)
        refine g_if_eq o (tgt := 58) (q := 52) dX4_copy_49 (by decide) rfl h (fun h => ?_) (fun h => ?_)
        · refine g_aload o (q := 60) 1 rfl dX4_copy_58 rfl ?_
          refine gf_X2_0 o (q := 63) (kd_she j27 hjj27) lk_X4_228 dX4_copy_60 rfl ?_
          refine g_aload o (q := 65) 0 rfl dX4_copy_63 rfl ?_
          refine gf_X2_0 o (q := 68) (kd_she j28 hjj28) lk_X4_228 dX4_copy_65 rfl ?_
          refine g_icmp_eq o (tgt := 77) (q := 71) dX4_copy_68 (by decide) rfl h (fun h => ?_) (fun h => ?_)
          · refine g_aload o (q := 79) 1 rfl dX4_copy_77 rfl ?_
            refine g_iload_n o (q := 80) 4 rfl rfl dX4_copy_79 rfl ?_
            refine g_iload o (q := 82) 7 rfl dX4_copy_80 rfl ?_
            refine g_cvi o (q := 85) (As := [.int x2, .int x5]) (rest := []) kv_X2_has lk_X4_231 (kd_she j27 hjj27) (by decide) rfl rfl rfl (fun _ _ hc => c_X2_has o.mk (40 + 1 + 2 * j27) x2 x5 (kd_she j27 hjj27) hc) dX4_copy_82 rfl ⟨rfl, rfl, Nat.le_of_ble_eq_true rfl, Nat.le_of_ble_eq_true rfl⟩ (Nat.le_of_ble_eq_true rfl) rfl h (fun r36 σ35 h => ?_)
            refine g_if_eq o (tgt := 100) (q := 88) dX4_copy_85 (by decide) rfl h (fun h => ?_) (fun h => ?_)
            · refine g_sub (lv' := [(0, .ref (eA (xE X) 0))]) [2] rfl ?_
              exact w_X4_copy_J100 hres o hr   h
            · refine g_aload o (q := 90) 0 rfl dX4_copy_88 rfl ?_
              refine g_iload o (q := 92) 6 rfl dX4_copy_90 rfl ?_
              refine g_iload o (q := 94) 7 rfl dX4_copy_92 rfl ?_
              refine g_cvi o (q := 97) (As := [.int x4, .int x5]) (rest := []) kv_X2_has lk_X4_231 (kd_she j28 hjj28) (by decide) rfl rfl rfl (fun _ _ hc => c_X2_has o.mk (40 + 1 + 2 * j28) x4 x5 (kd_she j28 hjj28) hc) dX4_copy_94 rfl ⟨rfl, rfl, Nat.le_of_ble_eq_true rfl, Nat.le_of_ble_eq_true rfl⟩ (Nat.le_of_ble_eq_true rfl) rfl h (fun r40 σ39 h => ?_)
              refine g_if_ne o (tgt := 106) (q := 100) dX4_copy_97 (by decide) rfl h (fun h => ?_) (fun h => ?_)
              · refine g_aload o (q := 108) 1 rfl dX4_copy_106 rfl ?_
                refine gf_X2_2 o (q := 111) (kd_she j27 hjj27) lk_X4_235 dX4_copy_108 rfl ?_
                refine g_iload_n o (q := 112) 4 rfl rfl dX4_copy_111 rfl ?_
                refine g_aload o (q := 114) 0 rfl dX4_copy_112 rfl ?_
                refine gf_X2_2 o (q := 117) (kd_she j28 hjj28) lk_X4_235 dX4_copy_114 rfl ?_
                refine g_iload o (q := 119) 6 rfl dX4_copy_117 rfl ?_
                refine g_iload o (q := 121) 7 rfl dX4_copy_119 rfl ?_
                refine g_acpy o (q := 124) (ka_num (kd_she j27 hjj27)) (ka_num (kd_she j28 hjj28)) lk_X4_238 dX4_copy_121 rfl h ⟨Nat.le_of_ble_eq_true rfl, Nat.le_of_ble_eq_true rfl⟩ (fun σ41 h => ?_)
                refine g_iload o (q := 126) 7 rfl dX4_copy_124 rfl ?_
                exact g_iret o hr (h.trans (congrArg some hres)) rfl dX4_copy_126
              · refine g_sub (lv' := [(0, .ref (eA (xE X) 0))]) [2] rfl ?_
                exact w_X4_copy_J100 hres o hr   h
          · refine g_aload_n o (q := 72) 2 rfl rfl dX4_copy_71 rfl ?_
            refine g_iconst o (v := 2) (q := 73) (by decide) dX4_copy_72 rfl ?_
            refine g_cvi o (q := 76) (As := [.int 2]) (rest := []) kv_X4_find lk_X4_51 kC_0 (by decide) rfl rfl rfl (fun _ _ hc => c_X4_find o.mk 2 hc) dX4_copy_73 rfl ⟨rfl, rfl, Nat.le_of_ble_eq_true rfl, Nat.le_of_ble_eq_true rfl⟩ (Nat.le_of_ble_eq_true rfl) rfl h (fun r43 σ42 h => ?_)
            exact g_iret o hr (h.trans (congrArg some hres)) rfl dX4_copy_76
        · refine g_sub (lv' := [(0, .ref (eA (xE X) 0))]) [2] rfl ?_
          exact w_X4_copy_J52 hres o hr   h
    · refine g_sub (lv' := [(0, .ref (eA (xE X) 0))]) [0] rfl ?_
      exact w_X4_copy_J14 hres o hr   h
theorem c_X4_copy {l : Launch} {E : En} {mk : Mem → Mem} (hmk : MK mk sdC) (x1 : Int32) (x2 : Int32) (x3 : Int32) (x4 : Int32) (x5 : Int32)  {σ : Mem} {r : Int32} {τ : Mem} (h : f_X4_copy x1 x2 x3 x4 x5 σ = some (r, τ)) : Met l yX4_copy (Cond.code yX4_copy cX4_copy 8 (some .int) :: wt) rm_X4_copy (PW E mk [.ref (eA E 0), .int x1, .int x2, .int x3, .int x4, .int x5] σ) (QI E mk r τ) 0 0 (WA E) :=
  met_i (fun E => [.ref (eA E 0), .int x1, .int x2, .int x3, .int x4, .int x5]) (by decide) hmk (Nat.le_of_ble_eq_true rfl) (fun X o hr => w_X4_copy rfl o hr x1 x2 x3 x4 x5  h)
set_option maxRecDepth 100000 in
set_option maxHeartbeats 4000000 in
theorem w_X4_load_L35 {X : Cx} {l : Launch} {r : Int32} {σr : Mem} {res : Int32 × Mem} (hres : res = (r, σr)) (o : OK X cX4_load RX4 sdC 4 rm_X4_load l) (hr : RI X .int r σr)   : ∀ (n : Nat) (b2 : Nat) (y3 : Int32) (σ : Mem), kd sdC b2 2 → f_X4_load_L35  n b2 y3 σ = some res → G X σ 35 [(0, .ref (eA (xE X) 0)), (2, .ref (eA (xE X) b2)), (3, .int y3)] [] := by
  intro n
  induction n with
  | zero => intro b2 y3 σ g2 h; cases h
  | succ n ih =>
    intro b2 y3 σ g2 h
    rw [f_X4_load_L35_s] at h
    refine g_iload_n o (q := 36) 2 rfl rfl dX4_load_35 rfl ?_
    refine g_aload_n o (q := 37) 1 rfl rfl dX4_load_36 rfl ?_
    refine gf_X2_1 o (q := 40) g2 lk_X4_221 dX4_load_37 rfl ?_
    refine g_icmp_ge o (tgt := 93) (q := 43) dX4_load_40 (by decide) rfl h (fun h => ?_) (fun h => ?_)
    · refine g_aload_n o (q := 94) 1 rfl rfl dX4_load_93 rfl ?_
      refine gf_X2_1 o (q := 97) g2 lk_X4_221 dX4_load_94 rfl ?_
      exact g_iret o hr (h.trans (congrArg some hres)) rfl dX4_load_97
    · refine g_aload_n o (q := 44) 0 rfl rfl dX4_load_43 rfl ?_
      refine g_iload_n o (q := 45) 2 rfl rfl dX4_load_44 rfl ?_
      refine g_cvi o (q := 48) (As := [.int y3]) (rest := []) kv_X4_isCurtain lk_X4_83 kC_0 (by decide) rfl rfl rfl (fun _ _ hc => c_X4_isCurtain o.mk y3 hc) dX4_load_45 rfl ⟨rfl, rfl, Nat.le_of_ble_eq_true rfl, Nat.le_of_ble_eq_true rfl⟩ (Nat.le_of_ble_eq_true rfl) rfl h (fun r28 σ27 h => ?_)
      refine g_if_eq o (tgt := 67) (q := 51) dX4_load_48 (by decide) rfl h (fun h => ?_) (fun h => ?_)
      · refine g_iload_n o (q := 68) 2 rfl rfl dX4_load_67 rfl ?_
        exact g_iret o hr (h.trans (congrArg some hres)) rfl dX4_load_68
      · refine g_aload_n o (q := 52) 1 rfl rfl dX4_load_51 rfl ?_
        refine gf_X2_2 o (q := 55) g2 lk_X4_235 dX4_load_52 rfl ?_
        refine g_iload_n o (q := 56) 2 rfl rfl dX4_load_55 rfl ?_
        refine g_iald o (q := 57) (ka_num g2) dX4_load_56 rfl h (fun j29 hjj29 h => ?_)
        refine g_iconst o (v := 0) (q := 58) (by decide) dX4_load_57 rfl ?_
        refine g_sipush o (v := 4095) (q := 61) (by decide) dX4_load_58 rfl ?_
        refine g_csi o (q := 64) (As := [.int (σ27 (b2 + 1) j29), .int 0, .int 4095]) (rest := []) kv_X4_isWithin lk_X4_47 rfl (fun _ _ hc => c_X4_isWithin o.mk (σ27 (b2 + 1) j29) 0 4095 hc) dX4_load_61 rfl ⟨rfl, rfl, Nat.le_of_ble_eq_true rfl, Nat.le_of_ble_eq_true rfl⟩ (Nat.le_of_ble_eq_true rfl) rfl h (fun r31 σ30 h => ?_)
        refine g_if_ne o (tgt := 69) (q := 67) dX4_load_64 (by decide) rfl h (fun h => ?_) (fun h => ?_)
        · refine g_aload_n o (q := 70) 0 rfl rfl dX4_load_69 rfl ?_
          refine gf_X4_0 o (q := 73) kC_0 lk_X4_10 dX4_load_70 rfl ?_
          refine gf_X1_8 o (q := 76) kC_1 lk_X4_86 dX4_load_73 rfl ?_
          refine g_iload_n o (q := 77) 2 rfl rfl dX4_load_76 rfl ?_
          refine g_aald8 o (q := 78) (ka_curs kC_1) dX4_load_77 rfl h (fun j32 hjj32 h => ?_)
          refine g_aload_n o (q := 79) 1 rfl rfl dX4_load_78 rfl ?_
          refine gf_X2_2 o (q := 82) g2 lk_X4_235 dX4_load_79 rfl ?_
          refine g_iload_n o (q := 83) 2 rfl rfl dX4_load_82 rfl ?_
          refine g_iald o (q := 84) (ka_num g2) dX4_load_83 rfl h (fun j33 hjj33 h => ?_)
          refine gp_X0_2 o (q := 87) (kd_cur (ka_curs kC_1) hjj32) lk_X4_77 dX4_load_84 rfl h (fun σ34 h => ?_)
          refine g_iinc o (q := 90) (dn := 1) dX4_load_87 rfl 2 rfl (by decide) (by decide) h (fun x35 => [(3, .int x35), (0, .ref (eA (xE X) 0)), (2, .ref (eA (xE X) b2))]) (fun _ => rfl) (fun x35 h => ?_)
          refine g_goto o (tgt := 35) dX4_load_90 (by decide) ?_
          refine g_sub (lv' := [(0, .ref (eA (xE X) 0)), (2, .ref (eA (xE X) b2)), (3, .int x35)]) [1, 2, 0] rfl ?_
          exact ih b2 x35 σ34 g2 h
        · refine g_iload_n o (q := 68) 2 rfl rfl dX4_load_67 rfl ?_
          exact g_iret o hr (h.trans (congrArg some hres)) rfl dX4_load_68
set_option maxRecDepth 100000 in
set_option maxHeartbeats 4000000 in
theorem w_X4_load {X : Cx} {l : Launch} {r : Int32} {σr : Mem} {res : Int32 × Mem} (hres : res = (r, σr)) (o : OK X cX4_load RX4 sdC 4 rm_X4_load l) (hr : RI X .int r σr) (x1 : Int32)  {σ : Mem} (h : f_X4_load x1 σ = some res) : G X σ 0 [(0, .ref (eA (xE X) 0)), (1, .int x1)] [] := by
  unfold f_X4_load at h
  refine g_iload_n o (q := 1) 1 rfl rfl dX4_load_0 rfl ?_
  refine g_csi o (q := 4) (As := [.int x1]) (rest := []) kv_X4_isSheet lk_X4_215 rfl (fun _ _ hc => c_X4_isSheet o.mk x1 hc) dX4_load_1 rfl ⟨rfl, rfl, Nat.le_of_ble_eq_true rfl, Nat.le_of_ble_eq_true rfl⟩ (Nat.le_of_ble_eq_true rfl) rfl h (fun r22 σ21 h => ?_)
  refine g_if_ne o (tgt := 13) (q := 7) dX4_load_4 (by decide) rfl h (fun h => ?_) (fun h => ?_)
  · refine g_aload_n o (q := 14) 0 rfl rfl dX4_load_13 rfl ?_
    refine gf_X4_6 o (q := 17) kC_0 lk_X4_38 dX4_load_14 rfl ?_
    refine g_iload_n o (q := 18) 1 rfl rfl dX4_load_17 rfl ?_
    refine g_aald9 o (q := 19) kC_40 dX4_load_18 rfl h (fun j23 hjj23 h => ?_)
    refine g_astore_n o (q := 20) dX4_load_19 rfl rfl (by decide) [(2, .ref (eA (xE X) (40 + 1 + 2 * j23))), (0, .ref (eA (xE X) 0)), (1, .int x1)] rfl ?_
    refine g_aload_n o (q := 21) 0 rfl rfl dX4_load_20 rfl ?_
    refine g_cvi o (q := 24) (As := []) (rest := []) kv_X2_isMissing lk_X4_222 (kd_she j23 hjj23) (by decide) rfl rfl rfl (fun _ _ hc => c_X2_isMissing o.mk (40 + 1 + 2 * j23) (kd_she j23 hjj23) hc) dX4_load_21 rfl ⟨rfl, rfl, Nat.le_of_ble_eq_true rfl, Nat.le_of_ble_eq_true rfl⟩ (Nat.le_of_ble_eq_true rfl) rfl h (fun r25 σ24 h => ?_)
    refine g_if_eq o (tgt := 33) (q := 27) dX4_load_24 (by decide) rfl h (fun h => ?_) (fun h => ?_)
    · refine g_iconst o (v := 0) (q := 34) (by decide) dX4_load_33 rfl ?_
      refine g_istore_n o (q := 35) dX4_load_34 rfl rfl (by decide) h (fun x26 => [(3, .int x26), (2, .ref (eA (xE X) (40 + 1 + 2 * j23))), (0, .ref (eA (xE X) 0)), (1, .int x1)]) (fun _ => rfl) (fun x26 h => ?_)
      refine g_sub (lv' := [(0, .ref (eA (xE X) 0)), (2, .ref (eA (xE X) (40 + 1 + 2 * j23))), (3, .int x26)]) [2, 1, 0] rfl ?_
      exact w_X4_load_L35 hres o hr  FU (40 + 1 + 2 * j23) x26 σ24 (kd_she j23 hjj23) h
    · refine g_aload_n o (q := 28) 1 rfl rfl dX4_load_27 rfl ?_
      refine g_iconst o (v := 5) (q := 29) (by decide) dX4_load_28 rfl ?_
      refine g_cvi o (q := 32) (As := [.int 5]) (rest := []) kv_X4_find lk_X4_51 kC_0 (by decide) rfl rfl rfl (fun _ _ hc => c_X4_find o.mk 5 hc) dX4_load_29 rfl ⟨rfl, rfl, Nat.le_of_ble_eq_true rfl, Nat.le_of_ble_eq_true rfl⟩ (Nat.le_of_ble_eq_true rfl) rfl h (fun r37 σ36 h => ?_)
      exact g_iret o hr (h.trans (congrArg some hres)) rfl dX4_load_32
  · refine g_aload_n o (q := 8) 0 rfl rfl dX4_load_7 rfl ?_
    refine g_iconst o (v := 0) (q := 9) (by decide) dX4_load_8 rfl ?_
    refine g_cvi o (q := 12) (As := [.int 0]) (rest := []) kv_X4_find lk_X4_51 kC_0 (by decide) rfl rfl rfl (fun _ _ hc => c_X4_find o.mk 0 hc) dX4_load_9 rfl ⟨rfl, rfl, Nat.le_of_ble_eq_true rfl, Nat.le_of_ble_eq_true rfl⟩ (Nat.le_of_ble_eq_true rfl) rfl h (fun r39 σ38 h => ?_)
    exact g_iret o hr (h.trans (congrArg some hres)) rfl dX4_load_12
theorem c_X4_load {l : Launch} {E : En} {mk : Mem → Mem} (hmk : MK mk sdC) (x1 : Int32)  {σ : Mem} {r : Int32} {τ : Mem} (h : f_X4_load x1 σ = some (r, τ)) : Met l yX4_load (Cond.code yX4_load cX4_load 4 (some .int) :: wt) rm_X4_load (PW E mk [.ref (eA E 0), .int x1] σ) (QI E mk r τ) 0 0 (WA E) :=
  met_i (fun E => [.ref (eA E 0), .int x1]) (by decide) hmk (Nat.le_of_ble_eq_true rfl) (fun X o hr => w_X4_load rfl o hr x1  h)
set_option maxRecDepth 100000 in
set_option maxHeartbeats 4000000 in
theorem w_X4_judge_J72 {X : Cx} {l : Launch} {r : Int32} {σr : Mem} {res : Int32 × Mem} (hres : res = (r, σr)) (o : OK X cX4_judge RX4 sdC 4 rm_X4_judge l) (hr : RI X .int r σr)   {y3 : Int32}  {σ : Mem} (h : f_X4_judge_J72  y3 σ = some res) : G X σ 72 [(3, .int y3)] [] := by
  unfold f_X4_judge_J72 at h
  refine g_iconst o (v := 1) (q := 73) (by decide) dX4_judge_72 rfl ?_
  refine g_iload_n o (q := 74) 0 rfl rfl dX4_judge_73 rfl ?_
  refine g_iadd o (q := 75) dX4_judge_74 rfl ?_
  exact g_iret o hr (h.trans (congrArg some hres)) rfl dX4_judge_75
set_option maxRecDepth 100000 in
set_option maxHeartbeats 4000000 in
theorem w_X4_judge_L35 {X : Cx} {l : Launch} {r : Int32} {σr : Mem} {res : Int32 × Mem} (hres : res = (r, σr)) (o : OK X cX4_judge RX4 sdC 4 rm_X4_judge l) (hr : RI X .int r σr)   : ∀ (n : Nat) (b2 : Nat) (y3 : Int32) (σ : Mem), kd sdC b2 2 → f_X4_judge_L35  n b2 y3 σ = some res → G X σ 35 [(0, .ref (eA (xE X) 0)), (2, .ref (eA (xE X) b2)), (3, .int y3)] [] := by
  intro n
  induction n with
  | zero => intro b2 y3 σ g2 h; cases h
  | succ n ih =>
    intro b2 y3 σ g2 h
    rw [f_X4_judge_L35_s] at h
    refine g_iload_n o (q := 36) 2 rfl rfl dX4_judge_35 rfl ?_
    refine g_aload_n o (q := 37) 1 rfl rfl dX4_judge_36 rfl ?_
    refine gf_X2_1 o (q := 40) g2 lk_X4_221 dX4_judge_37 rfl ?_
    refine g_icmp_ge o (tgt := 82) (q := 43) dX4_judge_40 (by decide) rfl h (fun h => ?_) (fun h => ?_)
    · refine g_iconst o (v := 0) (q := 83) (by decide) dX4_judge_82 rfl ?_
      exact g_iret o hr (h.trans (congrArg some hres)) rfl dX4_judge_83
    · refine g_aload_n o (q := 44) 0 rfl rfl dX4_judge_43 rfl ?_
      refine g_iload_n o (q := 45) 2 rfl rfl dX4_judge_44 rfl ?_
      refine g_cvi o (q := 48) (As := [.int y3]) (rest := []) kv_X4_isCurtain lk_X4_83 kC_0 (by decide) rfl rfl rfl (fun _ _ hc => c_X4_isCurtain o.mk y3 hc) dX4_judge_45 rfl ⟨rfl, rfl, Nat.le_of_ble_eq_true rfl, Nat.le_of_ble_eq_true rfl⟩ (Nat.le_of_ble_eq_true rfl) rfl h (fun r28 σ27 h => ?_)
      refine g_if_eq o (tgt := 72) (q := 51) dX4_judge_48 (by decide) rfl h (fun h => ?_) (fun h => ?_)
      · refine g_sub (lv' := [(3, .int y3)]) [2] rfl ?_
        exact w_X4_judge_J72 hres o hr   h
      · refine g_aload_n o (q := 52) 1 rfl rfl dX4_judge_51 rfl ?_
        refine gf_X2_2 o (q := 55) g2 lk_X4_235 dX4_judge_52 rfl ?_
        refine g_iload_n o (q := 56) 2 rfl rfl dX4_judge_55 rfl ?_
        refine g_iald o (q := 57) (ka_num g2) dX4_judge_56 rfl h (fun j29 hjj29 h => ?_)
        refine g_aload_n o (q := 58) 0 rfl rfl dX4_judge_57 rfl ?_
        refine gf_X4_0 o (q := 61) kC_0 lk_X4_10 dX4_judge_58 rfl ?_
        refine gf_X1_8 o (q := 64) kC_1 lk_X4_86 dX4_judge_61 rfl ?_
        refine g_iload_n o (q := 65) 2 rfl rfl dX4_judge_64 rfl ?_
        refine g_aald8 o (q := 66) (ka_curs kC_1) dX4_judge_65 rfl h (fun j30 hjj30 h => ?_)
        refine gf_X0_3 o (q := 69) (kd_cur (ka_curs kC_1) hjj30) lk_X4_111 dX4_judge_66 rfl ?_
        refine g_icmp_eq o (tgt := 76) (q := 72) dX4_judge_69 (by decide) rfl h (fun h => ?_) (fun h => ?_)
        · refine g_iinc o (q := 79) (dn := 1) dX4_judge_76 rfl 2 rfl (by decide) (by decide) h (fun x31 => [(3, .int x31), (0, .ref (eA (xE X) 0)), (2, .ref (eA (xE X) b2))]) (fun _ => rfl) (fun x31 h => ?_)
          refine g_goto o (tgt := 35) dX4_judge_79 (by decide) ?_
          refine g_sub (lv' := [(0, .ref (eA (xE X) 0)), (2, .ref (eA (xE X) b2)), (3, .int x31)]) [1, 2, 0] rfl ?_
          exact ih b2 x31 σ27 g2 h
        · refine g_sub (lv' := [(3, .int y3)]) [2] rfl ?_
          exact w_X4_judge_J72 hres o hr   h
set_option maxRecDepth 100000 in
set_option maxHeartbeats 4000000 in
theorem w_X4_judge {X : Cx} {l : Launch} {r : Int32} {σr : Mem} {res : Int32 × Mem} (hres : res = (r, σr)) (o : OK X cX4_judge RX4 sdC 4 rm_X4_judge l) (hr : RI X .int r σr) (x1 : Int32)  {σ : Mem} (h : f_X4_judge x1 σ = some res) : G X σ 0 [(0, .ref (eA (xE X) 0)), (1, .int x1)] [] := by
  unfold f_X4_judge at h
  refine g_iload_n o (q := 1) 1 rfl rfl dX4_judge_0 rfl ?_
  refine g_csi o (q := 4) (As := [.int x1]) (rest := []) kv_X4_isSheet lk_X4_215 rfl (fun _ _ hc => c_X4_isSheet o.mk x1 hc) dX4_judge_1 rfl ⟨rfl, rfl, Nat.le_of_ble_eq_true rfl, Nat.le_of_ble_eq_true rfl⟩ (Nat.le_of_ble_eq_true rfl) rfl h (fun r22 σ21 h => ?_)
  refine g_if_ne o (tgt := 13) (q := 7) dX4_judge_4 (by decide) rfl h (fun h => ?_) (fun h => ?_)
  · refine g_aload_n o (q := 14) 0 rfl rfl dX4_judge_13 rfl ?_
    refine gf_X4_6 o (q := 17) kC_0 lk_X4_38 dX4_judge_14 rfl ?_
    refine g_iload_n o (q := 18) 1 rfl rfl dX4_judge_17 rfl ?_
    refine g_aald9 o (q := 19) kC_40 dX4_judge_18 rfl h (fun j23 hjj23 h => ?_)
    refine g_astore_n o (q := 20) dX4_judge_19 rfl rfl (by decide) [(2, .ref (eA (xE X) (40 + 1 + 2 * j23))), (0, .ref (eA (xE X) 0)), (1, .int x1)] rfl ?_
    refine g_aload_n o (q := 21) 0 rfl rfl dX4_judge_20 rfl ?_
    refine g_cvi o (q := 24) (As := []) (rest := []) kv_X2_isMissing lk_X4_222 (kd_she j23 hjj23) (by decide) rfl rfl rfl (fun _ _ hc => c_X2_isMissing o.mk (40 + 1 + 2 * j23) (kd_she j23 hjj23) hc) dX4_judge_21 rfl ⟨rfl, rfl, Nat.le_of_ble_eq_true rfl, Nat.le_of_ble_eq_true rfl⟩ (Nat.le_of_ble_eq_true rfl) rfl h (fun r25 σ24 h => ?_)
    refine g_if_eq o (tgt := 33) (q := 27) dX4_judge_24 (by decide) rfl h (fun h => ?_) (fun h => ?_)
    · refine g_iconst o (v := 0) (q := 34) (by decide) dX4_judge_33 rfl ?_
      refine g_istore_n o (q := 35) dX4_judge_34 rfl rfl (by decide) h (fun x26 => [(3, .int x26), (2, .ref (eA (xE X) (40 + 1 + 2 * j23))), (0, .ref (eA (xE X) 0)), (1, .int x1)]) (fun _ => rfl) (fun x26 h => ?_)
      refine g_sub (lv' := [(0, .ref (eA (xE X) 0)), (2, .ref (eA (xE X) (40 + 1 + 2 * j23))), (3, .int x26)]) [2, 1, 0] rfl ?_
      exact w_X4_judge_L35 hres o hr  FU (40 + 1 + 2 * j23) x26 σ24 (kd_she j23 hjj23) h
    · refine g_aload_n o (q := 28) 1 rfl rfl dX4_judge_27 rfl ?_
      refine g_iconst o (v := 5) (q := 29) (by decide) dX4_judge_28 rfl ?_
      refine g_cvi o (q := 32) (As := [.int 5]) (rest := []) kv_X4_find lk_X4_51 kC_0 (by decide) rfl rfl rfl (fun _ _ hc => c_X4_find o.mk 5 hc) dX4_judge_29 rfl ⟨rfl, rfl, Nat.le_of_ble_eq_true rfl, Nat.le_of_ble_eq_true rfl⟩ (Nat.le_of_ble_eq_true rfl) rfl h (fun r33 σ32 h => ?_)
      exact g_iret o hr (h.trans (congrArg some hres)) rfl dX4_judge_32
  · refine g_aload_n o (q := 8) 0 rfl rfl dX4_judge_7 rfl ?_
    refine g_iconst o (v := 0) (q := 9) (by decide) dX4_judge_8 rfl ?_
    refine g_cvi o (q := 12) (As := [.int 0]) (rest := []) kv_X4_find lk_X4_51 kC_0 (by decide) rfl rfl rfl (fun _ _ hc => c_X4_find o.mk 0 hc) dX4_judge_9 rfl ⟨rfl, rfl, Nat.le_of_ble_eq_true rfl, Nat.le_of_ble_eq_true rfl⟩ (Nat.le_of_ble_eq_true rfl) rfl h (fun r35 σ34 h => ?_)
    exact g_iret o hr (h.trans (congrArg some hres)) rfl dX4_judge_12
theorem c_X4_judge {l : Launch} {E : En} {mk : Mem → Mem} (hmk : MK mk sdC) (x1 : Int32)  {σ : Mem} {r : Int32} {τ : Mem} (h : f_X4_judge x1 σ = some (r, τ)) : Met l yX4_judge (Cond.code yX4_judge cX4_judge 4 (some .int) :: wt) rm_X4_judge (PW E mk [.ref (eA E 0), .int x1] σ) (QI E mk r τ) 0 0 (WA E) :=
  met_i (fun E => [.ref (eA E 0), .int x1]) (by decide) hmk (Nat.le_of_ble_eq_true rfl) (fun X o hr => w_X4_judge rfl o hr x1  h)
set_option maxRecDepth 100000 in
set_option maxHeartbeats 4000000 in
theorem w_X4_image {X : Cx} {l : Launch} {r : Int32} {σr : Mem} {res : Int32 × Mem} (hres : res = (r, σr)) (o : OK X cX4_image RX4 sdC 1 rm_X4_image l) (hr : RI X .int r σr)   {σ : Mem} (h : f_X4_image  σ = some res) : G X σ 0 [(0, .ref (eA (xE X) 0))] [] := by
  unfold f_X4_image at h
  refine g_aload_n o (q := 1) 0 rfl rfl dX4_image_0 rfl ?_
  refine gf_X4_1 o (q := 4) kC_0 lk_X4_16 dX4_image_1 rfl ?_
  refine g_aload_n o (q := 5) 0 rfl rfl dX4_image_4 rfl ?_
  refine gf_X4_0 o (q := 8) kC_0 lk_X4_10 dX4_image_5 rfl ?_
  refine g_cvv o (q := 11) (As := [.ref (eA (xE X) 1)]) (rest := []) kv_X1_take lk_X4_147 kC_13 (by decide) rfl rfl rfl (fun _ _ hc => c_X1_take o.mk 13 1 kC_13 kC_1 hc) dX4_image_8 rfl ⟨rfl, rfl, Nat.le_of_ble_eq_true rfl, Nat.le_of_ble_eq_true rfl⟩ (Nat.le_of_ble_eq_true rfl) rfl h (fun _u21 σ21 h => ?_)
  refine g_aload_n o (q := 12) 0 rfl rfl dX4_image_11 rfl ?_
  refine g_iconst o (v := 1) (q := 13) (by decide) dX4_image_12 rfl ?_
  refine gp_X4_2 o (q := 16) kC_0 lk_X4_244 dX4_image_13 rfl (by decide) h (fun σ22 h => ?_)
  refine g_iconst o (v := 1) (q := 17) (by decide) dX4_image_16 rfl ?_
  exact g_iret o hr (h.trans (congrArg some hres)) rfl dX4_image_17
theorem c_X4_image {l : Launch} {E : En} {mk : Mem → Mem} (hmk : MK mk sdC)   {σ : Mem} {r : Int32} {τ : Mem} (h : f_X4_image  σ = some (r, τ)) : Met l yX4_image (Cond.code yX4_image cX4_image 1 (some .int) :: wt) rm_X4_image (PW E mk [.ref (eA E 0)] σ) (QI E mk r τ) 0 0 (WA E) :=
  met_i (fun E => [.ref (eA E 0)]) (by decide) hmk (Nat.le_of_ble_eq_true rfl) (fun X o hr => w_X4_image rfl o hr   h)
set_option maxRecDepth 100000 in
set_option maxHeartbeats 4000000 in
theorem w_X4_undo {X : Cx} {l : Launch} {r : Int32} {σr : Mem} {res : Int32 × Mem} (hres : res = (r, σr)) (o : OK X cX4_undo RX4 sdC 1 rm_X4_undo l) (hr : RI X .int r σr)   {σ : Mem} (h : f_X4_undo  σ = some res) : G X σ 0 [(0, .ref (eA (xE X) 0))] [] := by
  unfold f_X4_undo at h
  refine g_aload_n o (q := 1) 0 rfl rfl dX4_undo_0 rfl ?_
  refine gf_X4_2 o (q := 4) kC_0 lk_X4_244 dX4_undo_1 rfl ?_
  refine g_if_ne o (tgt := 13) (q := 7) dX4_undo_4 (by decide) rfl h (fun h => ?_) (fun h => ?_)
  · refine g_aload_n o (q := 14) 0 rfl rfl dX4_undo_13 rfl ?_
    refine gf_X4_0 o (q := 17) kC_0 lk_X4_10 dX4_undo_14 rfl ?_
    refine g_aload_n o (q := 18) 0 rfl rfl dX4_undo_17 rfl ?_
    refine gf_X4_1 o (q := 21) kC_0 lk_X4_16 dX4_undo_18 rfl ?_
    refine g_cvv o (q := 24) (As := [.ref (eA (xE X) 13)]) (rest := []) kv_X1_take lk_X4_147 kC_1 (by decide) rfl rfl rfl (fun _ _ hc => c_X1_take o.mk 1 13 kC_1 kC_13 hc) dX4_undo_21 rfl ⟨rfl, rfl, Nat.le_of_ble_eq_true rfl, Nat.le_of_ble_eq_true rfl⟩ (Nat.le_of_ble_eq_true rfl) rfl h (fun _u21 σ21 h => ?_)
    refine g_aload_n o (q := 25) 0 rfl rfl dX4_undo_24 rfl ?_
    refine gf_X4_0 o (q := 28) kC_0 lk_X4_10 dX4_undo_25 rfl ?_
    refine gf_X1_3 o (q := 31) kC_1 lk_X4_114 dX4_undo_28 rfl ?_
    exact g_iret o hr (h.trans (congrArg some hres)) rfl dX4_undo_31
  · refine g_aload_n o (q := 8) 0 rfl rfl dX4_undo_7 rfl ?_
    refine g_iconst o (v := 3) (q := 9) (by decide) dX4_undo_8 rfl ?_
    refine g_cvi o (q := 12) (As := [.int 3]) (rest := []) kv_X4_find lk_X4_51 kC_0 (by decide) rfl rfl rfl (fun _ _ hc => c_X4_find o.mk 3 hc) dX4_undo_9 rfl ⟨rfl, rfl, Nat.le_of_ble_eq_true rfl, Nat.le_of_ble_eq_true rfl⟩ (Nat.le_of_ble_eq_true rfl) rfl h (fun r23 σ22 h => ?_)
    exact g_iret o hr (h.trans (congrArg some hres)) rfl dX4_undo_12
theorem c_X4_undo {l : Launch} {E : En} {mk : Mem → Mem} (hmk : MK mk sdC)   {σ : Mem} {r : Int32} {τ : Mem} (h : f_X4_undo  σ = some (r, τ)) : Met l yX4_undo (Cond.code yX4_undo cX4_undo 1 (some .int) :: wt) rm_X4_undo (PW E mk [.ref (eA E 0)] σ) (QI E mk r τ) 0 0 (WA E) :=
  met_i (fun E => [.ref (eA E 0)]) (by decide) hmk (Nat.le_of_ble_eq_true rfl) (fun X o hr => w_X4_undo rfl o hr   h)
set_option maxRecDepth 100000 in
set_option maxHeartbeats 4000000 in
theorem w_X4_tear_J12 {X : Cx} {l : Launch} {r : Int32} {σr : Mem} {res : Int32 × Mem} (hres : res = (r, σr)) (o : OK X cX4_tear RX4 sdC 2 rm_X4_tear l) (hr : RI X .int r σr)   {s0 : Int32}  {σ : Mem} (h : f_X4_tear_J12  s0 σ = some res) : G X σ 12 [(0, .ref (eA (xE X) 0))] [.int s0] := by
  unfold f_X4_tear_J12 at h
  refine g_istore_n o (q := 13) dX4_tear_12 rfl rfl (by decide) h (fun x21 => [(1, .int x21), (0, .ref (eA (xE X) 0))]) (fun _ => rfl) (fun x21 h => ?_)
  refine g_aload_n o (q := 14) 1 rfl rfl dX4_tear_13 rfl ?_
  refine g_iconst o (v := 0) (q := 15) (by decide) dX4_tear_14 rfl ?_
  refine gp_X4_2 o (q := 18) kC_0 lk_X4_244 dX4_tear_15 rfl (by decide) h (fun σ22 h => ?_)
  refine g_iload_n o (q := 19) 0 rfl rfl dX4_tear_18 rfl ?_
  exact g_iret o hr (h.trans (congrArg some hres)) rfl dX4_tear_19
set_option maxRecDepth 100000 in
set_option maxHeartbeats 4000000 in
theorem w_X4_tear {X : Cx} {l : Launch} {r : Int32} {σr : Mem} {res : Int32 × Mem} (hres : res = (r, σr)) (o : OK X cX4_tear RX4 sdC 2 rm_X4_tear l) (hr : RI X .int r σr)   {σ : Mem} (h : f_X4_tear  σ = some res) : G X σ 0 [(0, .ref (eA (xE X) 0))] [] := by
  unfold f_X4_tear at h
  refine g_aload_n o (q := 1) 0 rfl rfl dX4_tear_0 rfl ?_
  refine gf_X4_2 o (q := 4) kC_0 lk_X4_244 dX4_tear_1 rfl ?_
  refine g_if_eq o (tgt := 11) (q := 7) dX4_tear_4 (by decide) rfl h (fun h => ?_) (fun h => ?_)
  · refine g_iconst o (v := 0) (q := 12) (by decide) dX4_tear_11 rfl ?_
    exact w_X4_tear_J12 hres o hr   h
  · refine g_iconst o (v := 1) (q := 8) (by decide) dX4_tear_7 rfl ?_
    refine g_goto o (tgt := 12) dX4_tear_8 (by decide) ?_
    exact w_X4_tear_J12 hres o hr   h
theorem c_X4_tear {l : Launch} {E : En} {mk : Mem → Mem} (hmk : MK mk sdC)   {σ : Mem} {r : Int32} {τ : Mem} (h : f_X4_tear  σ = some (r, τ)) : Met l yX4_tear (Cond.code yX4_tear cX4_tear 2 (some .int) :: wt) rm_X4_tear (PW E mk [.ref (eA E 0)] σ) (QI E mk r τ) 0 0 (WA E) :=
  met_i (fun E => [.ref (eA E 0)]) (by decide) hmk (Nat.le_of_ble_eq_true rfl) (fun X o hr => w_X4_tear rfl o hr   h)
set_option maxRecDepth 100000 in
set_option maxHeartbeats 4000000 in
theorem w_X4_count {X : Cx} {l : Launch} {r : Int32} {σr : Mem} {res : Int32 × Mem} (hres : res = (r, σr)) (o : OK X cX4_count RX4 sdC 2 rm_X4_count l) (hr : RI X .int r σr) (x1 : Int32)  {σ : Mem} (h : f_X4_count x1 σ = some res) : G X σ 0 [(0, .ref (eA (xE X) 0)), (1, .int x1)] [] := by
  unfold f_X4_count at h
  refine g_iload_n o (q := 1) 1 rfl rfl dX4_count_0 rfl ?_
  refine g_swIn o (tgt := 48) (off := 47) 0 dX4_count_1 (by decide) (by decide) (by decide +kernel) (by decide) h (fun h => ?_) (fun c0 h => ?_)
  · refine g_aload_n o (q := 49) 0 rfl rfl dX4_count_48 rfl ?_
    refine gf_X4_0 o (q := 52) kC_0 lk_X4_10 dX4_count_49 rfl ?_
    refine gf_X1_3 o (q := 55) kC_1 lk_X4_114 dX4_count_52 rfl ?_
    exact g_iret o hr (h.trans (congrArg some hres)) rfl dX4_count_55
  refine g_swIn o (tgt := 56) (off := 55) 1 dX4_count_1 (by decide) (by decide) (by decide +kernel) (by decide) h (fun h => ?_) (fun c1 h => ?_)
  · refine g_aload_n o (q := 57) 0 rfl rfl dX4_count_56 rfl ?_
    refine gf_X4_0 o (q := 60) kC_0 lk_X4_10 dX4_count_57 rfl ?_
    refine gf_X1_5 o (q := 63) kC_1 lk_X4_80 dX4_count_60 rfl ?_
    exact g_iret o hr (h.trans (congrArg some hres)) rfl dX4_count_63
  refine g_swIn o (tgt := 64) (off := 63) 2 dX4_count_1 (by decide) (by decide) (by decide +kernel) (by decide) h (fun h => ?_) (fun c2 h => ?_)
  · refine g_aload_n o (q := 65) 0 rfl rfl dX4_count_64 rfl ?_
    refine gf_X4_0 o (q := 68) kC_0 lk_X4_10 dX4_count_65 rfl ?_
    refine gf_X1_1 o (q := 71) kC_1 lk_X4_121 dX4_count_68 rfl ?_
    exact g_iret o hr (h.trans (congrArg some hres)) rfl dX4_count_71
  refine g_swIn o (tgt := 72) (off := 71) 3 dX4_count_1 (by decide) (by decide) (by decide +kernel) (by decide) h (fun h => ?_) (fun c3 h => ?_)
  · refine g_aload_n o (q := 73) 0 rfl rfl dX4_count_72 rfl ?_
    refine gf_X4_0 o (q := 76) kC_0 lk_X4_10 dX4_count_73 rfl ?_
    refine gf_X1_2 o (q := 79) kC_1 lk_X4_124 dX4_count_76 rfl ?_
    exact g_iret o hr (h.trans (congrArg some hres)) rfl dX4_count_79
  refine g_swIn o (tgt := 80) (off := 79) 4 dX4_count_1 (by decide) (by decide) (by decide +kernel) (by decide) h (fun h => ?_) (fun c4 h => ?_)
  · refine g_aload_n o (q := 81) 0 rfl rfl dX4_count_80 rfl ?_
    refine gf_X4_0 o (q := 84) kC_0 lk_X4_10 dX4_count_81 rfl ?_
    refine g_cvi o (q := 87) (As := []) (rest := []) kv_X1_thoseDown lk_X4_127 kC_1 (by decide) rfl rfl rfl (fun _ _ hc => c_X1_thoseDown o.mk 1 kC_1 hc) dX4_count_84 rfl ⟨rfl, rfl, Nat.le_of_ble_eq_true rfl, Nat.le_of_ble_eq_true rfl⟩ (Nat.le_of_ble_eq_true rfl) rfl h (fun r22 σ21 h => ?_)
    refine g_csi o (q := 90) (As := [.int r22]) (rest := []) kv_J6_bitCount_0f7a4 lk_X4_167 rfl (fun _ _ hc => c_J6_bitCount_0f7a4 o.mk r22 hc) dX4_count_87 rfl ⟨rfl, rfl, Nat.le_of_ble_eq_true rfl, Nat.le_of_ble_eq_true rfl⟩ (Nat.le_of_ble_eq_true rfl) rfl h (fun r24 σ23 h => ?_)
    exact g_iret o hr (h.trans (congrArg some hres)) rfl dX4_count_90
  refine g_swIn o (tgt := 91) (off := 90) 5 dX4_count_1 (by decide) (by decide) (by decide +kernel) (by decide) h (fun h => ?_) (fun c5 h => ?_)
  · refine g_aload_n o (q := 92) 0 rfl rfl dX4_count_91 rfl ?_
    refine gf_X4_5 o (q := 95) kC_0 lk_X4_32 dX4_count_92 rfl ?_
    refine gf_X3_1 o (q := 98) kC_38 lk_X4_195 dX4_count_95 rfl ?_
    exact g_iret o hr (h.trans (congrArg some hres)) rfl dX4_count_98
  refine g_swIn o (tgt := 99) (off := 98) 6 dX4_count_1 (by decide) (by decide) (by decide +kernel) (by decide) h (fun h => ?_) (fun c6 h => ?_)
  · refine g_aload_n o (q := 100) 0 rfl rfl dX4_count_99 rfl ?_
    refine gf_X4_0 o (q := 103) kC_0 lk_X4_10 dX4_count_100 rfl ?_
    refine gf_X1_4 o (q := 106) kC_1 lk_X4_192 dX4_count_103 rfl ?_
    exact g_iret o hr (h.trans (congrArg some hres)) rfl dX4_count_106
  refine g_swIn o (tgt := 107) (off := 106) 7 dX4_count_1 (by decide) (by decide) (by decide +kernel) (by decide) h (fun h => ?_) (fun c7 h => ?_)
  · refine g_aload_n o (q := 108) 0 rfl rfl dX4_count_107 rfl ?_
    refine gf_X4_0 o (q := 111) kC_0 lk_X4_10 dX4_count_108 rfl ?_
    refine g_cvi o (q := 114) (As := []) (rest := []) kv_X1_heldSpots lk_X4_248 kC_1 (by decide) rfl rfl rfl (fun _ _ hc => c_X1_heldSpots o.mk 1 kC_1 hc) dX4_count_111 rfl ⟨rfl, rfl, Nat.le_of_ble_eq_true rfl, Nat.le_of_ble_eq_true rfl⟩ (Nat.le_of_ble_eq_true rfl) rfl h (fun r26 σ25 h => ?_)
    exact g_iret o hr (h.trans (congrArg some hres)) rfl dX4_count_114
  refine g_swOut o (tgt := 115) dX4_count_1 (sw_out (by decide) (by decide) (fun k h1 h2 => by rcases (show k = 0 ∨ k = 1 ∨ k = 2 ∨ k = 3 ∨ k = 4 ∨ k = 5 ∨ k = 6 ∨ k = 7 by omega) with rfl | rfl | rfl | rfl | rfl | rfl | rfl | rfl <;> assumption)) (by decide) ?_
  refine g_aload_n o (q := 116) 0 rfl rfl dX4_count_115 rfl ?_
  refine g_iconst o (v := 0) (q := 117) (by decide) dX4_count_116 rfl ?_
  refine g_cvi o (q := 120) (As := [.int 0]) (rest := []) kv_X4_find lk_X4_51 kC_0 (by decide) rfl rfl rfl (fun _ _ hc => c_X4_find o.mk 0 hc) dX4_count_117 rfl ⟨rfl, rfl, Nat.le_of_ble_eq_true rfl, Nat.le_of_ble_eq_true rfl⟩ (Nat.le_of_ble_eq_true rfl) rfl h (fun r28 σ27 h => ?_)
  exact g_iret o hr (h.trans (congrArg some hres)) rfl dX4_count_120
theorem c_X4_count {l : Launch} {E : En} {mk : Mem → Mem} (hmk : MK mk sdC) (x1 : Int32)  {σ : Mem} {r : Int32} {τ : Mem} (h : f_X4_count x1 σ = some (r, τ)) : Met l yX4_count (Cond.code yX4_count cX4_count 2 (some .int) :: wt) rm_X4_count (PW E mk [.ref (eA E 0), .int x1] σ) (QI E mk r τ) 0 0 (WA E) :=
  met_i (fun E => [.ref (eA E 0), .int x1]) (by decide) hmk (Nat.le_of_ble_eq_true rfl) (fun X o hr => w_X4_count rfl o hr x1  h)
