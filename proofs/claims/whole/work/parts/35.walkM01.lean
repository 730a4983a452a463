set_option maxRecDepth 100000 in
set_option maxHeartbeats 4000000 in
theorem w_X5_told {X : Cx} {l : Launch} {r : Int32} {σr : Mem} {res : Int32 × Mem} (hres : res = (r, σr)) (o : OK X cX5_told RX5 sdM 3 rm_X5_told l) (hr : RI X .int r σr) (x1 : Int32) (x2 : Int32)  {σ : Mem} (h : f_X5_told x1 x2 σ = some res) : G X σ 0 [(0, .ref (eA (xE X) 50)), (1, .int x1), (2, .int x2)] [] := by
  unfold f_X5_told at h
  refine g_iload_n o (q := 1) 2 rfl rfl dX5_told_0 rfl ?_
  refine g_swIn o (tgt := 36) (off := 35) 6 dX5_told_1 (by decide) (by decide) (by decide +kernel) (by decide) h (fun h => ?_) (fun c6 h => ?_)
  · refine g_aload_n o (q := 37) 0 rfl rfl dX5_told_36 rfl ?_
    refine g_iload_n o (q := 38) 1 rfl rfl dX5_told_37 rfl ?_
    refine g_cvi o (q := 41) (As := [.int x1]) (rest := []) kv_X5_gladdens lk_X5_104 kM_50 (by decide) rfl rfl rfl (fun _ _ hc => c_X5_gladdens o.mk x1 hc) dX5_told_38 rfl ⟨rfl, rfl, Nat.le_of_ble_eq_true rfl, Nat.le_of_ble_eq_true rfl⟩ (Nat.le_of_ble_eq_true rfl) rfl h (fun r22 σ21 h => ?_)
    exact g_iret o hr (h.trans (congrArg some hres)) rfl dX5_told_41
  refine g_swIn o (tgt := 42) (off := 41) 7 dX5_told_1 (by decide) (by decide) (by decide +kernel) (by decide) h (fun h => ?_) (fun c7 h => ?_)
  · refine g_aload_n o (q := 43) 0 rfl rfl dX5_told_42 rfl ?_
    refine g_iload_n o (q := 44) 1 rfl rfl dX5_told_43 rfl ?_
    refine g_aload_n o (q := 45) 0 rfl rfl dX5_told_44 rfl ?_
    refine gf_X5_0 o (q := 48) kM_50 lk_X5_9 dX5_told_45 rfl ?_
    refine g_aload_n o (q := 49) 0 rfl rfl dX5_told_48 rfl ?_
    refine g_cvi o (q := 52) (As := []) (rest := [.ref (eA (xE X) 51), .int x1, .ref (eA (xE X) 50)]) kv_X5_placeNow lk_X5_107 kM_50 (by decide) rfl rfl rfl (fun _ _ hc => c_X5_placeNow o.mk  hc) dX5_told_49 rfl ⟨rfl, rfl, Nat.le_of_ble_eq_true rfl, Nat.le_of_ble_eq_true rfl⟩ (Nat.le_of_ble_eq_true rfl) rfl h (fun r24 σ23 h => ?_)
    refine g_iald o (q := 53) kM_51 dX5_told_52 rfl h (fun j25 hjj25 h => ?_)
    refine g_cvi o (q := 56) (As := [.int x1, .int (σ23 51 j25)]) (rest := []) kv_X5_tires lk_X5_111 kM_50 (by decide) rfl rfl rfl (fun _ _ hc => c_X5_tires o.mk x1 (σ23 51 j25) hc) dX5_told_53 rfl ⟨rfl, rfl, Nat.le_of_ble_eq_true rfl, Nat.le_of_ble_eq_true rfl⟩ (Nat.le_of_ble_eq_true rfl) rfl h (fun r27 σ26 h => ?_)
    exact g_iret o hr (h.trans (congrArg some hres)) rfl dX5_told_56
  refine g_swIn o (tgt := 57) (off := 56) 8 dX5_told_1 (by decide) (by decide) (by decide +kernel) (by decide) h (fun h => ?_) (fun c8 h => ?_)
  · refine g_aload_n o (q := 58) 0 rfl rfl dX5_told_57 rfl ?_
    refine g_iload_n o (q := 59) 1 rfl rfl dX5_told_58 rfl ?_
    refine g_cvi o (q := 62) (As := [.int x1]) (rest := []) kv_X5_bears lk_X5_114 kM_50 (by decide) rfl rfl rfl (fun _ _ hc => c_X5_bears o.mk x1 hc) dX5_told_59 rfl ⟨rfl, rfl, Nat.le_of_ble_eq_true rfl, Nat.le_of_ble_eq_true rfl⟩ (Nat.le_of_ble_eq_true rfl) rfl h (fun r29 σ28 h => ?_)
    exact g_iret o hr (h.trans (congrArg some hres)) rfl dX5_told_62
  refine g_swIn o (tgt := 63) (off := 62) 9 dX5_told_1 (by decide) (by decide) (by decide +kernel) (by decide) h (fun h => ?_) (fun c9 h => ?_)
  · refine g_aload_n o (q := 64) 0 rfl rfl dX5_told_63 rfl ?_
    refine g_iload_n o (q := 65) 1 rfl rfl dX5_told_64 rfl ?_
    refine g_cvi o (q := 68) (As := [.int x1]) (rest := []) kv_X5_falls lk_X5_117 kM_50 (by decide) rfl rfl rfl (fun _ _ hc => c_X5_falls o.mk x1 hc) dX5_told_65 rfl ⟨rfl, rfl, Nat.le_of_ble_eq_true rfl, Nat.le_of_ble_eq_true rfl⟩ (Nat.le_of_ble_eq_true rfl) rfl h (fun r31 σ30 h => ?_)
    exact g_iret o hr (h.trans (congrArg some hres)) rfl dX5_told_68
  refine g_swIn o (tgt := 69) (off := 68) 10 dX5_told_1 (by decide) (by decide) (by decide +kernel) (by decide) h (fun h => ?_) (fun c10 h => ?_)
  · refine g_aload_n o (q := 70) 0 rfl rfl dX5_told_69 rfl ?_
    refine g_iload_n o (q := 71) 1 rfl rfl dX5_told_70 rfl ?_
    refine g_cvi o (q := 74) (As := [.int x1]) (rest := []) kv_X5_rises lk_X5_120 kM_50 (by decide) rfl rfl rfl (fun _ _ hc => c_X5_rises o.mk x1 hc) dX5_told_71 rfl ⟨rfl, rfl, Nat.le_of_ble_eq_true rfl, Nat.le_of_ble_eq_true rfl⟩ (Nat.le_of_ble_eq_true rfl) rfl h (fun r33 σ32 h => ?_)
    exact g_iret o hr (h.trans (congrArg some hres)) rfl dX5_told_74
  refine g_swOut o (tgt := 75) dX5_told_1 (sw_out (by decide) (by decide) (fun k h1 h2 => by rcases (show k = 6 ∨ k = 7 ∨ k = 8 ∨ k = 9 ∨ k = 10 by omega) with rfl | rfl | rfl | rfl | rfl <;> assumption)) (by decide) ?_
  refine g_aload_n o (q := 76) 0 rfl rfl dX5_told_75 rfl ?_
  refine g_iload_n o (q := 77) 1 rfl rfl dX5_told_76 rfl ?_
  refine g_iload_n o (q := 78) 2 rfl rfl dX5_told_77 rfl ?_
  refine g_cvi o (q := 81) (As := [.int x1, .int x2]) (rest := []) kv_X5_curtainIs lk_X5_98 kM_50 (by decide) rfl rfl rfl (fun _ _ hc => c_X5_curtainIs o.mk x1 x2 hc) dX5_told_78 rfl ⟨rfl, rfl, Nat.le_of_ble_eq_true rfl, Nat.le_of_ble_eq_true rfl⟩ (Nat.le_of_ble_eq_true rfl) rfl h (fun r35 σ34 h => ?_)
  exact g_iret o hr (h.trans (congrArg some hres)) rfl dX5_told_81
theorem c_X5_told {l : Launch} {E : En} {mk : Mem → Mem} (hmk : MK mk sdM) (x1 : Int32) (x2 : Int32)  {σ : Mem} {r : Int32} {τ : Mem} (h : f_X5_told x1 x2 σ = some (r, τ)) : Met l yX5_told (Cond.code yX5_told cX5_told 3 (some .int) :: wt) rm_X5_told (PW E mk [.ref (eA E 50), .int x1, .int x2] σ) (QI E mk r τ) 0 0 (WA E) :=
  met_i (fun E => [.ref (eA E 50), .int x1, .int x2]) (by decide) hmk (Nat.le_of_ble_eq_true rfl) (fun X o hr => w_X5_told rfl o hr x1 x2  h)
set_option maxRecDepth 100000 in
set_option maxHeartbeats 4000000 in
theorem w_X5_of_J27 {X : Cx} {l : Launch} {r : Int32} {σr : Mem} {res : Int32 × Mem} (hres : res = (r, σr)) (o : OK X cX5_of RX5 sdM 3 rm_X5_of l) (hr : RI X .int r σr)     {σ : Mem} (h : f_X5_of_J27   σ = some res) : G X σ 27 [(0, .ref (eA (xE X) 50))] [] := by
  unfold f_X5_of_J27 at h
  refine g_aload_n o (q := 28) 0 rfl rfl dX5_of_27 rfl ?_
  refine g_ldc o (q := 30) lk_X5_60 dX5_of_28 rfl ?_
  refine g_cvi o (q := 33) (As := [.int (-1000001)]) (rest := []) kv_X5_finding lk_X5_66 kM_50 (by decide) rfl rfl rfl (fun _ _ hc => c_X5_finding o.mk (-1000001) hc) dX5_of_30 rfl ⟨rfl, rfl, Nat.le_of_ble_eq_true rfl, Nat.le_of_ble_eq_true rfl⟩ (Nat.le_of_ble_eq_true rfl) rfl h (fun r24 σ23 h => ?_)
  exact g_iret o hr (h.trans (congrArg some hres)) rfl dX5_of_33
set_option maxRecDepth 100000 in
set_option maxHeartbeats 4000000 in
theorem w_X5_of {X : Cx} {l : Launch} {r : Int32} {σr : Mem} {res : Int32 × Mem} (hres : res = (r, σr)) (o : OK X cX5_of RX5 sdM 3 rm_X5_of l) (hr : RI X .int r σr) (x1 : Int32) (x2 : Int32)  {σ : Mem} (h : f_X5_of x1 x2 σ = some res) : G X σ 0 [(0, .ref (eA (xE X) 50)), (1, .int x1), (2, .int x2)] [] := by
  unfold f_X5_of at h
  refine g_aload_n o (q := 1) 0 rfl rfl dX5_of_0 rfl ?_
  refine g_iload_n o (q := 2) 1 rfl rfl dX5_of_1 rfl ?_
  refine g_cvi o (q := 5) (As := [.int x1]) (rest := []) kv_X5_isCurtain lk_X5_123 kM_50 (by decide) rfl rfl rfl (fun _ _ hc => c_X5_isCurtain o.mk x1 hc) dX5_of_2 rfl ⟨rfl, rfl, Nat.le_of_ble_eq_true rfl, Nat.le_of_ble_eq_true rfl⟩ (Nat.le_of_ble_eq_true rfl) rfl h (fun r22 σ21 h => ?_)
  refine g_if_eq o (tgt := 27) (q := 8) dX5_of_5 (by decide) rfl h (fun h => ?_) (fun h => ?_)
  · refine g_sub (lv' := [(0, .ref (eA (xE X) 50))]) [0] rfl ?_
    exact w_X5_of_J27 hres o hr   h
  · refine g_iload_n o (q := 9) 2 rfl rfl dX5_of_8 rfl ?_
    refine g_iconst o (v := 0) (q := 10) (by decide) dX5_of_9 rfl ?_
    refine g_bipush o (v := 10) (q := 12) (by decide) dX5_of_10 rfl ?_
    refine g_csi o (q := 15) (As := [.int x2, .int 0, .int 10]) (rest := []) kv_X5_within lk_X5_70 rfl (fun _ _ hc => c_X5_within o.mk x2 0 10 hc) dX5_of_12 rfl ⟨rfl, rfl, Nat.le_of_ble_eq_true rfl, Nat.le_of_ble_eq_true rfl⟩ (Nat.le_of_ble_eq_true rfl) rfl h (fun r26 σ25 h => ?_)
    refine g_if_eq o (tgt := 27) (q := 18) dX5_of_15 (by decide) rfl h (fun h => ?_) (fun h => ?_)
    · refine g_sub (lv' := [(0, .ref (eA (xE X) 50))]) [0] rfl ?_
      exact w_X5_of_J27 hres o hr   h
    · refine g_aload_n o (q := 19) 0 rfl rfl dX5_of_18 rfl ?_
      refine g_iload_n o (q := 20) 1 rfl rfl dX5_of_19 rfl ?_
      refine g_iload_n o (q := 21) 2 rfl rfl dX5_of_20 rfl ?_
      refine g_cvi o (q := 24) (As := [.int x1, .int x2]) (rest := []) kv_X5_told lk_X5_126 kM_50 (by decide) rfl rfl rfl (fun _ _ hc => c_X5_told o.mk x1 x2 hc) dX5_of_21 rfl ⟨rfl, rfl, Nat.le_of_ble_eq_true rfl, Nat.le_of_ble_eq_true rfl⟩ (Nat.le_of_ble_eq_true rfl) rfl h (fun r28 σ27 h => ?_)
      refine g_goto o (tgt := 33) dX5_of_24 (by decide) ?_
      exact g_iret o hr (h.trans (congrArg some hres)) rfl dX5_of_33
theorem c_X5_of {l : Launch} {E : En} {mk : Mem → Mem} (hmk : MK mk sdM) (x1 : Int32) (x2 : Int32)  {σ : Mem} {r : Int32} {τ : Mem} (h : f_X5_of x1 x2 σ = some (r, τ)) : Met l yX5_of (Cond.code yX5_of cX5_of 3 (some .int) :: wt) rm_X5_of (PW E mk [.ref (eA E 50), .int x1, .int x2] σ) (QI E mk r τ) 0 0 (WA E) :=
  met_i (fun E => [.ref (eA E 50), .int x1, .int x2]) (by decide) hmk (Nat.le_of_ble_eq_true rfl) (fun X o hr => w_X5_of rfl o hr x1 x2  h)
set_option maxRecDepth 100000 in
set_option maxHeartbeats 4000000 in
theorem w_X5_isField {X : Cx} {l : Launch} {r : Int32} {σr : Mem} {res : Int32 × Mem} (hres : res = (r, σr)) (o : OK X cX5_isField RX5 sdM 2 rm_X5_isField l) (hr : RI X .boolean r σr) (x0 : Int32) (x1 : Int32)  {σ : Mem} (h : f_X5_isField x0 x1 σ = some res) : G X σ 0 [(0, .int x0), (1, .int x1)] [] := by
  unfold f_X5_isField at h
  refine g_iload_n o (q := 1) 0 rfl rfl dX5_isField_0 rfl ?_
  refine g_swIn o (tgt := 40) (off := 39) 0 dX5_isField_1 (by decide) (by decide) (by decide +kernel) (by decide) h (fun h => ?_) (fun c0 h => ?_)
  · refine g_iload_n o (q := 41) 1 rfl rfl dX5_isField_40 rfl ?_
    refine g_csi o (q := 44) (As := [.int x1]) (rest := []) kv_X5_isKind lk_X5_88 rfl (fun _ _ hc => c_X5_isKind o.mk x1 hc) dX5_isField_41 rfl ⟨rfl, rfl, Nat.le_of_ble_eq_true rfl, Nat.le_of_ble_eq_true rfl⟩ (Nat.le_of_ble_eq_true rfl) rfl h (fun r22 σ21 h => ?_)
    obtain ⟨hb, h⟩ := vB_some h
    exact g_iret o hr (h.trans (congrArg some hres)) (by rcases hb with hb | hb <;> rw [hb] <;> rfl) dX5_isField_44
  refine g_swIn o (tgt := 45) (off := 44) 1 dX5_isField_1 (by decide) (by decide) (by decide +kernel) (by decide) h (fun h => ?_) (fun c1 h => ?_)
  · refine g_iload_n o (q := 46) 1 rfl rfl dX5_isField_45 rfl ?_
    refine g_iconst o (v := 0) (q := 47) (by decide) dX5_isField_46 rfl ?_
    refine g_bipush o (v := 99) (q := 49) (by decide) dX5_isField_47 rfl ?_
    refine g_csi o (q := 52) (As := [.int x1, .int 0, .int 99]) (rest := []) kv_X5_within lk_X5_70 rfl (fun _ _ hc => c_X5_within o.mk x1 0 99 hc) dX5_isField_49 rfl ⟨rfl, rfl, Nat.le_of_ble_eq_true rfl, Nat.le_of_ble_eq_true rfl⟩ (Nat.le_of_ble_eq_true rfl) rfl h (fun r24 σ23 h => ?_)
    obtain ⟨hb, h⟩ := vB_some h
    exact g_iret o hr (h.trans (congrArg some hres)) (by rcases hb with hb | hb <;> rw [hb] <;> rfl) dX5_isField_52
  refine g_swIn o (tgt := 53) (off := 52) 2 dX5_isField_1 (by decide) (by decide) (by decide +kernel) (by decide) h (fun h => ?_) (fun c2 h => ?_)
  · refine g_iload_n o (q := 54) 1 rfl rfl dX5_isField_53 rfl ?_
    refine g_csi o (q := 57) (As := [.int x1]) (rest := []) kv_X5_isSet lk_X5_91 rfl (fun _ _ hc => c_X5_isSet o.mk x1 hc) dX5_isField_54 rfl ⟨rfl, rfl, Nat.le_of_ble_eq_true rfl, Nat.le_of_ble_eq_true rfl⟩ (Nat.le_of_ble_eq_true rfl) rfl h (fun r26 σ25 h => ?_)
    obtain ⟨hb, h⟩ := vB_some h
    exact g_iret o hr (h.trans (congrArg some hres)) (by rcases hb with hb | hb <;> rw [hb] <;> rfl) dX5_isField_57
  refine g_swIn o (tgt := 58) (off := 57) 3 dX5_isField_1 (by decide) (by decide) (by decide +kernel) (by decide) h (fun h => ?_) (fun c3 h => ?_)
  · refine g_iload_n o (q := 59) 1 rfl rfl dX5_isField_58 rfl ?_
    refine g_iconst o (v := 0) (q := 60) (by decide) dX5_isField_59 rfl ?_
    refine g_bipush o (v := 20) (q := 62) (by decide) dX5_isField_60 rfl ?_
    refine g_csi o (q := 65) (As := [.int x1, .int 0, .int 20]) (rest := []) kv_X5_within lk_X5_70 rfl (fun _ _ hc => c_X5_within o.mk x1 0 20 hc) dX5_isField_62 rfl ⟨rfl, rfl, Nat.le_of_ble_eq_true rfl, Nat.le_of_ble_eq_true rfl⟩ (Nat.le_of_ble_eq_true rfl) rfl h (fun r28 σ27 h => ?_)
    obtain ⟨hb, h⟩ := vB_some h
    exact g_iret o hr (h.trans (congrArg some hres)) (by rcases hb with hb | hb <;> rw [hb] <;> rfl) dX5_isField_65
  refine g_swIn o (tgt := 66) (off := 65) 4 dX5_isField_1 (by decide) (by decide) (by decide +kernel) (by decide) h (fun h => ?_) (fun c4 h => ?_)
  · refine g_iload_n o (q := 67) 1 rfl rfl dX5_isField_66 rfl ?_
    refine g_iconst o (v := 0) (q := 68) (by decide) dX5_isField_67 rfl ?_
    refine g_iconst o (v := 1) (q := 69) (by decide) dX5_isField_68 rfl ?_
    refine g_csi o (q := 72) (As := [.int x1, .int 0, .int 1]) (rest := []) kv_X5_within lk_X5_70 rfl (fun _ _ hc => c_X5_within o.mk x1 0 1 hc) dX5_isField_69 rfl ⟨rfl, rfl, Nat.le_of_ble_eq_true rfl, Nat.le_of_ble_eq_true rfl⟩ (Nat.le_of_ble_eq_true rfl) rfl h (fun r30 σ29 h => ?_)
    obtain ⟨hb, h⟩ := vB_some h
    exact g_iret o hr (h.trans (congrArg some hres)) (by rcases hb with hb | hb <;> rw [hb] <;> rfl) dX5_isField_72
  refine g_swIn o (tgt := 73) (off := 72) 5 dX5_isField_1 (by decide) (by decide) (by decide +kernel) (by decide) h (fun h => ?_) (fun c5 h => ?_)
  · refine g_iload_n o (q := 74) 1 rfl rfl dX5_isField_73 rfl ?_
    refine g_iconst o (v := 0) (q := 75) (by decide) dX5_isField_74 rfl ?_
    refine g_sipush o (v := 9999) (q := 78) (by decide) dX5_isField_75 rfl ?_
    refine g_csi o (q := 81) (As := [.int x1, .int 0, .int 9999]) (rest := []) kv_X5_within lk_X5_70 rfl (fun _ _ hc => c_X5_within o.mk x1 0 9999 hc) dX5_isField_78 rfl ⟨rfl, rfl, Nat.le_of_ble_eq_true rfl, Nat.le_of_ble_eq_true rfl⟩ (Nat.le_of_ble_eq_true rfl) rfl h (fun r32 σ31 h => ?_)
    obtain ⟨hb, h⟩ := vB_some h
    exact g_iret o hr (h.trans (congrArg some hres)) (by rcases hb with hb | hb <;> rw [hb] <;> rfl) dX5_isField_81
  refine g_swOut o (tgt := 82) dX5_isField_1 (sw_out (by decide) (by decide) (fun k h1 h2 => by rcases (show k = 0 ∨ k = 1 ∨ k = 2 ∨ k = 3 ∨ k = 4 ∨ k = 5 by omega) with rfl | rfl | rfl | rfl | rfl | rfl <;> assumption)) (by decide) ?_
  refine g_iconst o (v := 0) (q := 83) (by decide) dX5_isField_82 rfl ?_
  exact g_iret o hr (h.trans (congrArg some hres)) (by decide) dX5_isField_83
theorem c_X5_isField {l : Launch} {E : En} {mk : Mem → Mem} (hmk : MK mk sdM) (x0 : Int32) (x1 : Int32)  {σ : Mem} {r : Int32} {τ : Mem} (h : f_X5_isField x0 x1 σ = some (r, τ)) : Met l yX5_isField (Cond.code yX5_isField cX5_isField 2 (some .boolean) :: wt) rm_X5_isField (PW E mk [.int x0, .int x1] σ) (QI E mk r τ) 0 0 (WA E) :=
  met_i (fun E => [.int x0, .int x1]) (by decide) hmk (Nat.le_of_ble_eq_true rfl) (fun X o hr => w_X5_isField rfl o hr x0 x1  h)
set_option maxRecDepth 100000 in
set_option maxHeartbeats 4000000 in
theorem w_X5_change_J29 {X : Cx} {l : Launch} {r : Int32} {σr : Mem} {res : Int32 × Mem} (hres : res = (r, σr)) (o : OK X cX5_change RX5 sdM 4 rm_X5_change l) (hr : RI X .int r σr)     {σ : Mem} (h : f_X5_change_J29   σ = some res) : G X σ 29 [(0, .ref (eA (xE X) 50))] [] := by
  unfold f_X5_change_J29 at h
  refine g_aload_n o (q := 30) 0 rfl rfl dX5_change_29 rfl ?_
  refine g_ldc o (q := 32) lk_X5_60 dX5_change_30 rfl ?_
  refine g_cvi o (q := 35) (As := [.int (-1000001)]) (rest := []) kv_X5_finding lk_X5_66 kM_50 (by decide) rfl rfl rfl (fun _ _ hc => c_X5_finding o.mk (-1000001) hc) dX5_change_32 rfl ⟨rfl, rfl, Nat.le_of_ble_eq_true rfl, Nat.le_of_ble_eq_true rfl⟩ (Nat.le_of_ble_eq_true rfl) rfl h (fun r24 σ23 h => ?_)
  exact g_iret o hr (h.trans (congrArg some hres)) rfl dX5_change_35
set_option maxRecDepth 100000 in
set_option maxHeartbeats 4000000 in
theorem w_X5_change {X : Cx} {l : Launch} {r : Int32} {σr : Mem} {res : Int32 × Mem} (hres : res = (r, σr)) (o : OK X cX5_change RX5 sdM 4 rm_X5_change l) (hr : RI X .int r σr) (x1 : Int32) (x2 : Int32) (x3 : Int32)  {σ : Mem} (h : f_X5_change x1 x2 x3 σ = some res) : G X σ 0 [(0, .ref (eA (xE X) 50)), (1, .int x1), (2, .int x2), (3, .int x3)] [] := by
  unfold f_X5_change at h
  refine g_aload_n o (q := 1) 0 rfl rfl dX5_change_0 rfl ?_
  refine g_iload_n o (q := 2) 1 rfl rfl dX5_change_1 rfl ?_
  refine g_cvi o (q := 5) (As := [.int x1]) (rest := []) kv_X5_isCurtain lk_X5_123 kM_50 (by decide) rfl rfl rfl (fun _ _ hc => c_X5_isCurtain o.mk x1 hc) dX5_change_2 rfl ⟨rfl, rfl, Nat.le_of_ble_eq_true rfl, Nat.le_of_ble_eq_true rfl⟩ (Nat.le_of_ble_eq_true rfl) rfl h (fun r22 σ21 h => ?_)
  refine g_if_eq o (tgt := 29) (q := 8) dX5_change_5 (by decide) rfl h (fun h => ?_) (fun h => ?_)
  · refine g_sub (lv' := [(0, .ref (eA (xE X) 50))]) [0] rfl ?_
    exact w_X5_change_J29 hres o hr   h
  · refine g_iload_n o (q := 9) 2 rfl rfl dX5_change_8 rfl ?_
    refine g_iload_n o (q := 10) 3 rfl rfl dX5_change_9 rfl ?_
    refine g_csi o (q := 13) (As := [.int x2, .int x3]) (rest := []) kv_X5_isField lk_X5_129 rfl (fun _ _ hc => c_X5_isField o.mk x2 x3 hc) dX5_change_10 rfl ⟨rfl, rfl, Nat.le_of_ble_eq_true rfl, Nat.le_of_ble_eq_true rfl⟩ (Nat.le_of_ble_eq_true rfl) rfl h (fun r26 σ25 h => ?_)
    refine g_if_eq o (tgt := 29) (q := 16) dX5_change_13 (by decide) rfl h (fun h => ?_) (fun h => ?_)
    · refine g_sub (lv' := [(0, .ref (eA (xE X) 50))]) [0] rfl ?_
      exact w_X5_change_J29 hres o hr   h
    · refine g_aload_n o (q := 17) 0 rfl rfl dX5_change_16 rfl ?_
      refine g_iload_n o (q := 18) 1 rfl rfl dX5_change_17 rfl ?_
      refine g_iload_n o (q := 19) 2 rfl rfl dX5_change_18 rfl ?_
      refine g_csi o (q := 22) (As := [.int x1, .int x2]) (rest := [.ref (eA (xE X) 50)]) kv_X5_curtainAt lk_X5_85 rfl (fun _ _ hc => c_X5_curtainAt o.mk x1 x2 hc) dX5_change_19 rfl ⟨rfl, rfl, Nat.le_of_ble_eq_true rfl, Nat.le_of_ble_eq_true rfl⟩ (Nat.le_of_ble_eq_true rfl) rfl h (fun r28 σ27 h => ?_)
      refine g_iload_n o (q := 23) 3 rfl rfl dX5_change_22 rfl ?_
      refine g_cvi o (q := 26) (As := [.int r28, .int x3]) (rest := []) kv_X5_become lk_X5_74 kM_50 (by decide) rfl rfl rfl (fun _ _ hc => c_X5_become o.mk r28 x3 hc) dX5_change_23 rfl ⟨rfl, rfl, Nat.le_of_ble_eq_true rfl, Nat.le_of_ble_eq_true rfl⟩ (Nat.le_of_ble_eq_true rfl) rfl h (fun r30 σ29 h => ?_)
      refine g_goto o (tgt := 35) dX5_change_26 (by decide) ?_
      exact g_iret o hr (h.trans (congrArg some hres)) rfl dX5_change_35
theorem c_X5_change {l : Launch} {E : En} {mk : Mem → Mem} (hmk : MK mk sdM) (x1 : Int32) (x2 : Int32) (x3 : Int32)  {σ : Mem} {r : Int32} {τ : Mem} (h : f_X5_change x1 x2 x3 σ = some (r, τ)) : Met l yX5_change (Cond.code yX5_change cX5_change 4 (some .int) :: wt) rm_X5_change (PW E mk [.ref (eA E 50), .int x1, .int x2, .int x3] σ) (QI E mk r τ) 0 0 (WA E) :=
  met_i (fun E => [.ref (eA E 50), .int x1, .int x2, .int x3]) (by decide) hmk (Nat.le_of_ble_eq_true rfl) (fun X o hr => w_X5_change rfl o hr x1 x2 x3  h)
set_option maxRecDepth 100000 in
set_option maxHeartbeats 4000000 in
theorem w_X5_more {X : Cx} {l : Launch} {u : Unit} {σr : Mem} {res : Unit × Mem} (hres : res = (u, σr)) (o : OK X cX5_more RX5 sdM 4 rm_X5_more l) (hr : RV X σr) (x1 : Int32) (x2 : Int32) (x3 : Int32)  {σ : Mem} (h : f_X5_more x1 x2 x3 σ = some res) : G X σ 0 [(0, .ref (eA (xE X) 50)), (1, .int x1), (2, .int x2), (3, .int x3)] [] := by
  unfold f_X5_more at h
  refine g_aload_n o (q := 1) 0 rfl rfl dX5_more_0 rfl ?_
  refine gf_X5_0 o (q := 4) kM_50 lk_X5_9 dX5_more_1 rfl ?_
  refine g_iload_n o (q := 5) 1 rfl rfl dX5_more_4 rfl ?_
  refine g_iload_n o (q := 6) 3 rfl rfl dX5_more_5 rfl ?_
  refine g_aload_n o (q := 7) 0 rfl rfl dX5_more_6 rfl ?_
  refine gf_X5_0 o (q := 10) kM_50 lk_X5_9 dX5_more_7 rfl ?_
  refine g_iload_n o (q := 11) 1 rfl rfl dX5_more_10 rfl ?_
  refine g_iald o (q := 12) kM_51 dX5_more_11 rfl h (fun j21 hjj21 h => ?_)
  refine g_iload_n o (q := 13) 2 rfl rfl dX5_more_12 rfl ?_
  refine g_iadd o (q := 14) dX5_more_13 rfl ?_
  refine g_mmin o (q := 17) lk_X5_133 dX5_more_14 rfl ⟨Nat.le_of_ble_eq_true rfl, Nat.le_of_ble_eq_true rfl⟩ ?_
  refine g_iast o (q := 18) kM_51 dX5_more_17 rfl h (fun j22 σ23 h => ?_)
  exact g_vret o hr (h.trans (congrArg some hres)) dX5_more_18
theorem c_X5_more {l : Launch} {E : En} {mk : Mem → Mem} (hmk : MK mk sdM) (x1 : Int32) (x2 : Int32) (x3 : Int32)  {σ : Mem} {r : Unit} {τ : Mem} (h : f_X5_more x1 x2 x3 σ = some (r, τ)) : Met l yX5_more (Cond.code yX5_more cX5_more 4 none :: wt) rm_X5_more (PW E mk [.ref (eA E 50), .int x1, .int x2, .int x3] σ) (QV E mk τ) 0 0 (WA E) :=
  met_v (fun E => [.ref (eA E 50), .int x1, .int x2, .int x3]) (by decide) hmk (Nat.le_of_ble_eq_true rfl) (fun X o hr => w_X5_more rfl o hr x1 x2 x3  h)
set_option maxRecDepth 100000 in
set_option maxHeartbeats 4000000 in
theorem w_X5_less {X : Cx} {l : Launch} {u : Unit} {σr : Mem} {res : Unit × Mem} (hres : res = (u, σr)) (o : OK X cX5_less RX5 sdM 3 rm_X5_less l) (hr : RV X σr) (x1 : Int32) (x2 : Int32)  {σ : Mem} (h : f_X5_less x1 x2 σ = some res) : G X σ 0 [(0, .ref (eA (xE X) 50)), (1, .int x1), (2, .int x2)] [] := by
  unfold f_X5_less at h
  refine g_aload_n o (q := 1) 0 rfl rfl dX5_less_0 rfl ?_
  refine gf_X5_0 o (q := 4) kM_50 lk_X5_9 dX5_less_1 rfl ?_
  refine g_iload_n o (q := 5) 1 rfl rfl dX5_less_4 rfl ?_
  refine g_iconst o (v := 0) (q := 6) (by decide) dX5_less_5 rfl ?_
  refine g_aload_n o (q := 7) 0 rfl rfl dX5_less_6 rfl ?_
  refine gf_X5_0 o (q := 10) kM_50 lk_X5_9 dX5_less_7 rfl ?_
  refine g_iload_n o (q := 11) 1 rfl rfl dX5_less_10 rfl ?_
  refine g_iald o (q := 12) kM_51 dX5_less_11 rfl h (fun j21 hjj21 h => ?_)
  refine g_iload_n o (q := 13) 2 rfl rfl dX5_less_12 rfl ?_
  refine g_isub o (q := 14) dX5_less_13 rfl ?_
  refine g_mmax o (q := 17) lk_X5_138 dX5_less_14 rfl ⟨Nat.le_of_ble_eq_true rfl, Nat.le_of_ble_eq_true rfl⟩ ?_
  refine g_iast o (q := 18) kM_51 dX5_less_17 rfl h (fun j22 σ23 h => ?_)
  exact g_vret o hr (h.trans (congrArg some hres)) dX5_less_18
theorem c_X5_less {l : Launch} {E : En} {mk : Mem → Mem} (hmk : MK mk sdM) (x1 : Int32) (x2 : Int32)  {σ : Mem} {r : Unit} {τ : Mem} (h : f_X5_less x1 x2 σ = some (r, τ)) : Met l yX5_less (Cond.code yX5_less cX5_less 3 none :: wt) rm_X5_less (PW E mk [.ref (eA E 50), .int x1, .int x2] σ) (QV E mk τ) 0 0 (WA E) :=
  met_v (fun E => [.ref (eA E 50), .int x1, .int x2]) (by decide) hmk (Nat.le_of_ble_eq_true rfl) (fun X o hr => w_X5_less rfl o hr x1 x2  h)
set_option maxRecDepth 100000 in
set_option maxHeartbeats 4000000 in
theorem w_X5_pulled {X : Cx} {l : Launch} {r : Int32} {σr : Mem} {res : Int32 × Mem} (hres : res = (r, σr)) (o : OK X cX5_pulled RX5 sdM 3 rm_X5_pulled l) (hr : RI X .int r σr) (x1 : Int32) (x2 : Int32)  {σ : Mem} (h : f_X5_pulled x1 x2 σ = some res) : G X σ 0 [(0, .ref (eA (xE X) 50)), (1, .int x1), (2, .int x2)] [] := by
  unfold f_X5_pulled at h
  refine g_aload_n o (q := 1) 0 rfl rfl dX5_pulled_0 rfl ?_
  refine g_iload_n o (q := 2) 1 rfl rfl dX5_pulled_1 rfl ?_
  refine g_iconst o (v := 3) (q := 3) (by decide) dX5_pulled_2 rfl ?_
  refine g_csi o (q := 6) (As := [.int x1, .int 3]) (rest := [.ref (eA (xE X) 50)]) kv_X5_curtainAt lk_X5_85 rfl (fun _ _ hc => c_X5_curtainAt o.mk x1 3 hc) dX5_pulled_3 rfl ⟨rfl, rfl, Nat.le_of_ble_eq_true rfl, Nat.le_of_ble_eq_true rfl⟩ (Nat.le_of_ble_eq_true rfl) rfl h (fun r22 σ21 h => ?_)
  refine g_iload_n o (q := 7) 2 rfl rfl dX5_pulled_6 rfl ?_
  refine g_bipush o (v := 10) (q := 9) (by decide) dX5_pulled_7 rfl ?_
  refine g_idiv o (q := 10) (by decide) dX5_pulled_9 rfl ?_
  refine g_aload_n o (q := 11) 0 rfl rfl dX5_pulled_10 rfl ?_
  refine g_iload_n o (q := 12) 1 rfl rfl dX5_pulled_11 rfl ?_
  refine g_cvi o (q := 15) (As := [.int x1]) (rest := [.int (x2 / 10), .int r22, .ref (eA (xE X) 50)]) kv_X5_rises lk_X5_120 kM_50 (by decide) rfl rfl rfl (fun _ _ hc => c_X5_rises o.mk x1 hc) dX5_pulled_12 rfl ⟨rfl, rfl, Nat.le_of_ble_eq_true rfl, Nat.le_of_ble_eq_true rfl⟩ (Nat.le_of_ble_eq_true rfl) rfl h (fun r24 σ23 h => ?_)
  refine g_iadd o (q := 16) dX5_pulled_15 rfl ?_
  refine g_bipush o (v := 20) (q := 18) (by decide) dX5_pulled_16 rfl ?_
  refine g_cvv o (q := 21) (As := [.int r22, .int ((x2 / 10) + r24), .int 20]) (rest := []) kv_X5_more lk_X5_141 kM_50 (by decide) rfl rfl rfl (fun _ _ hc => c_X5_more o.mk r22 ((x2 / 10) + r24) 20 hc) dX5_pulled_18 rfl ⟨rfl, rfl, Nat.le_of_ble_eq_true rfl, Nat.le_of_ble_eq_true rfl⟩ (Nat.le_of_ble_eq_true rfl) rfl h (fun _u25 σ25 h => ?_)
  refine g_aload_n o (q := 22) 0 rfl rfl dX5_pulled_21 rfl ?_
  refine g_iload_n o (q := 23) 1 rfl rfl dX5_pulled_22 rfl ?_
  refine g_iconst o (v := 1) (q := 24) (by decide) dX5_pulled_23 rfl ?_
  refine g_csi o (q := 27) (As := [.int x1, .int 1]) (rest := [.ref (eA (xE X) 50)]) kv_X5_curtainAt lk_X5_85 rfl (fun _ _ hc => c_X5_curtainAt o.mk x1 1 hc) dX5_pulled_24 rfl ⟨rfl, rfl, Nat.le_of_ble_eq_true rfl, Nat.le_of_ble_eq_true rfl⟩ (Nat.le_of_ble_eq_true rfl) rfl h (fun r27 σ26 h => ?_)
  refine g_iload_n o (q := 28) 2 rfl rfl dX5_pulled_27 rfl ?_
  refine g_iconst o (v := 5) (q := 29) (by decide) dX5_pulled_28 rfl ?_
  refine g_idiv o (q := 30) (by decide) dX5_pulled_29 rfl ?_
  refine g_cvv o (q := 33) (As := [.int r27, .int (x2 / 5)]) (rest := []) kv_X5_less lk_X5_145 kM_50 (by decide) rfl rfl rfl (fun _ _ hc => c_X5_less o.mk r27 (x2 / 5) hc) dX5_pulled_30 rfl ⟨rfl, rfl, Nat.le_of_ble_eq_true rfl, Nat.le_of_ble_eq_true rfl⟩ (Nat.le_of_ble_eq_true rfl) rfl h (fun _u28 σ28 h => ?_)
  refine g_aload_n o (q := 34) 0 rfl rfl dX5_pulled_33 rfl ?_
  refine g_iload_n o (q := 35) 1 rfl rfl dX5_pulled_34 rfl ?_
  refine g_iconst o (v := 3) (q := 36) (by decide) dX5_pulled_35 rfl ?_
  refine g_cvi o (q := 39) (As := [.int x1, .int 3]) (rest := []) kv_X5_curtainIs lk_X5_98 kM_50 (by decide) rfl rfl rfl (fun _ _ hc => c_X5_curtainIs o.mk x1 3 hc) dX5_pulled_36 rfl ⟨rfl, rfl, Nat.le_of_ble_eq_true rfl, Nat.le_of_ble_eq_true rfl⟩ (Nat.le_of_ble_eq_true rfl) rfl h (fun r30 σ29 h => ?_)
  exact g_iret o hr (h.trans (congrArg some hres)) rfl dX5_pulled_39
theorem c_X5_pulled {l : Launch} {E : En} {mk : Mem → Mem} (hmk : MK mk sdM) (x1 : Int32) (x2 : Int32)  {σ : Mem} {r : Int32} {τ : Mem} (h : f_X5_pulled x1 x2 σ = some (r, τ)) : Met l yX5_pulled (Cond.code yX5_pulled cX5_pulled 3 (some .int) :: wt) rm_X5_pulled (PW E mk [.ref (eA E 50), .int x1, .int x2] σ) (QI E mk r τ) 0 0 (WA E) :=
  met_i (fun E => [.ref (eA E 50), .int x1, .int x2]) (by decide) hmk (Nat.le_of_ble_eq_true rfl) (fun X o hr => w_X5_pulled rfl o hr x1 x2  h)
set_option maxRecDepth 100000 in
set_option maxHeartbeats 4000000 in
theorem w_X5_isTied {X : Cx} {l : Launch} {r : Int32} {σr : Mem} {res : Int32 × Mem} (hres : res = (r, σr)) (o : OK X cX5_isTied RX5 sdM 2 rm_X5_isTied l) (hr : RI X .boolean r σr) (x1 : Int32)  {σ : Mem} (h : f_X5_isTied x1 σ = some res) : G X σ 0 [(0, .ref (eA (xE X) 50)), (1, .int x1)] [] := by
  unfold f_X5_isTied at h
  refine g_aload_n o (q := 1) 0 rfl rfl dX5_isTied_0 rfl ?_
  refine g_iload_n o (q := 2) 1 rfl rfl dX5_isTied_1 rfl ?_
  refine g_iconst o (v := 4) (q := 3) (by decide) dX5_isTied_2 rfl ?_
  refine g_cvi o (q := 6) (As := [.int x1, .int 4]) (rest := []) kv_X5_curtainIs lk_X5_98 kM_50 (by decide) rfl rfl rfl (fun _ _ hc => c_X5_curtainIs o.mk x1 4 hc) dX5_isTied_3 rfl ⟨rfl, rfl, Nat.le_of_ble_eq_true rfl, Nat.le_of_ble_eq_true rfl⟩ (Nat.le_of_ble_eq_true rfl) rfl h (fun r22 σ21 h => ?_)
  refine g_iconst o (v := 1) (q := 7) (by decide) dX5_isTied_6 rfl ?_
  refine g_icmp_ne o (tgt := 14) (q := 10) dX5_isTied_7 (by decide) rfl h (fun h => ?_) (fun h => ?_)
  · refine g_iconst o (v := 0) (q := 15) (by decide) dX5_isTied_14 rfl ?_
    exact g_iret o hr (h.trans (congrArg some hres)) (by decide) dX5_isTied_15
  · refine g_iconst o (v := 1) (q := 11) (by decide) dX5_isTied_10 rfl ?_
    refine g_goto o (tgt := 15) dX5_isTied_11 (by decide) ?_
    exact g_iret o hr (h.trans (congrArg some hres)) (by decide) dX5_isTied_15
theorem c_X5_isTied {l : Launch} {E : En} {mk : Mem → Mem} (hmk : MK mk sdM) (x1 : Int32)  {σ : Mem} {r : Int32} {τ : Mem} (h : f_X5_isTied x1 σ = some (r, τ)) : Met l yX5_isTied (Cond.code yX5_isTied cX5_isTied 2 (some .boolean) :: wt) rm_X5_isTied (PW E mk [.ref (eA E 50), .int x1] σ) (QI E mk r τ) 0 0 (WA E) :=
  met_i (fun E => [.ref (eA E 50), .int x1]) (by decide) hmk (Nat.le_of_ble_eq_true rfl) (fun X o hr => w_X5_isTied rfl o hr x1  h)
set_option maxRecDepth 100000 in
set_option maxHeartbeats 4000000 in
theorem w_X5_pull_J18 {X : Cx} {l : Launch} {r : Int32} {σr : Mem} {res : Int32 × Mem} (hres : res = (r, σr)) (o : OK X cX5_pull RX5 sdM 3 rm_X5_pull l) (hr : RI X .int r σr)     {σ : Mem} (h : f_X5_pull_J18   σ = some res) : G X σ 18 [(0, .ref (eA (xE X) 50))] [] := by
  unfold f_X5_pull_J18 at h
  refine g_aload_n o (q := 19) 0 rfl rfl dX5_pull_18 rfl ?_
  refine g_ldc o (q := 21) lk_X5_60 dX5_pull_19 rfl ?_
  refine g_cvi o (q := 24) (As := [.int (-1000001)]) (rest := []) kv_X5_finding lk_X5_66 kM_50 (by decide) rfl rfl rfl (fun _ _ hc => c_X5_finding o.mk (-1000001) hc) dX5_pull_21 rfl ⟨rfl, rfl, Nat.le_of_ble_eq_true rfl, Nat.le_of_ble_eq_true rfl⟩ (Nat.le_of_ble_eq_true rfl) rfl h (fun r24 σ23 h => ?_)
  exact g_iret o hr (h.trans (congrArg some hres)) rfl dX5_pull_24
set_option maxRecDepth 100000 in
set_option maxHeartbeats 4000000 in
theorem w_X5_pull {X : Cx} {l : Launch} {r : Int32} {σr : Mem} {res : Int32 × Mem} (hres : res = (r, σr)) (o : OK X cX5_pull RX5 sdM 3 rm_X5_pull l) (hr : RI X .int r σr) (x1 : Int32) (x2 : Int32)  {σ : Mem} (h : f_X5_pull x1 x2 σ = some res) : G X σ 0 [(0, .ref (eA (xE X) 50)), (1, .int x1), (2, .int x2)] [] := by
  unfold f_X5_pull at h
  refine g_aload_n o (q := 1) 0 rfl rfl dX5_pull_0 rfl ?_
  refine g_iload_n o (q := 2) 1 rfl rfl dX5_pull_1 rfl ?_
  refine g_cvi o (q := 5) (As := [.int x1]) (rest := []) kv_X5_isCurtain lk_X5_123 kM_50 (by decide) rfl rfl rfl (fun _ _ hc => c_X5_isCurtain o.mk x1 hc) dX5_pull_2 rfl ⟨rfl, rfl, Nat.le_of_ble_eq_true rfl, Nat.le_of_ble_eq_true rfl⟩ (Nat.le_of_ble_eq_true rfl) rfl h (fun r22 σ21 h => ?_)
  refine g_if_eq o (tgt := 18) (q := 8) dX5_pull_5 (by decide) rfl h (fun h => ?_) (fun h => ?_)
  · refine g_sub (lv' := [(0, .ref (eA (xE X) 50))]) [0] rfl ?_
    exact w_X5_pull_J18 hres o hr   h
  · refine g_iload_n o (q := 9) 2 rfl rfl dX5_pull_8 rfl ?_
    refine g_iconst o (v := 1) (q := 10) (by decide) dX5_pull_9 rfl ?_
    refine g_bipush o (v := 40) (q := 12) (by decide) dX5_pull_10 rfl ?_
    refine g_csi o (q := 15) (As := [.int x2, .int 1, .int 40]) (rest := []) kv_X5_within lk_X5_70 rfl (fun _ _ hc => c_X5_within o.mk x2 1 40 hc) dX5_pull_12 rfl ⟨rfl, rfl, Nat.le_of_ble_eq_true rfl, Nat.le_of_ble_eq_true rfl⟩ (Nat.le_of_ble_eq_true rfl) rfl h (fun r26 σ25 h => ?_)
    refine g_if_ne o (tgt := 25) (q := 18) dX5_pull_15 (by decide) rfl h (fun h => ?_) (fun h => ?_)
    · refine g_aload_n o (q := 26) 0 rfl rfl dX5_pull_25 rfl ?_
      refine g_iload_n o (q := 27) 1 rfl rfl dX5_pull_26 rfl ?_
      refine g_cvi o (q := 30) (As := [.int x1]) (rest := []) kv_X5_isTied lk_X5_149 kM_50 (by decide) rfl rfl rfl (fun _ _ hc => c_X5_isTied o.mk x1 hc) dX5_pull_27 rfl ⟨rfl, rfl, Nat.le_of_ble_eq_true rfl, Nat.le_of_ble_eq_true rfl⟩ (Nat.le_of_ble_eq_true rfl) rfl h (fun r28 σ27 h => ?_)
      refine g_if_eq o (tgt := 42) (q := 33) dX5_pull_30 (by decide) rfl h (fun h => ?_) (fun h => ?_)
      · refine g_aload_n o (q := 43) 0 rfl rfl dX5_pull_42 rfl ?_
        refine g_iload_n o (q := 44) 1 rfl rfl dX5_pull_43 rfl ?_
        refine g_iload_n o (q := 45) 2 rfl rfl dX5_pull_44 rfl ?_
        refine g_cvi o (q := 48) (As := [.int x1, .int x2]) (rest := []) kv_X5_pulled lk_X5_153 kM_50 (by decide) rfl rfl rfl (fun _ _ hc => c_X5_pulled o.mk x1 x2 hc) dX5_pull_45 rfl ⟨rfl, rfl, Nat.le_of_ble_eq_true rfl, Nat.le_of_ble_eq_true rfl⟩ (Nat.le_of_ble_eq_true rfl) rfl h (fun r30 σ29 h => ?_)
        exact g_iret o hr (h.trans (congrArg some hres)) rfl dX5_pull_48
      · refine g_aload_n o (q := 34) 0 rfl rfl dX5_pull_33 rfl ?_
        refine g_ldc o (q := 36) lk_X5_152 dX5_pull_34 rfl ?_
        refine g_cvi o (q := 39) (As := [.int (-1000005)]) (rest := []) kv_X5_finding lk_X5_66 kM_50 (by decide) rfl rfl rfl (fun _ _ hc => c_X5_finding o.mk (-1000005) hc) dX5_pull_36 rfl ⟨rfl, rfl, Nat.le_of_ble_eq_true rfl, Nat.le_of_ble_eq_true rfl⟩ (Nat.le_of_ble_eq_true rfl) rfl h (fun r32 σ31 h => ?_)
        refine g_goto o (tgt := 48) dX5_pull_39 (by decide) ?_
        exact g_iret o hr (h.trans (congrArg some hres)) rfl dX5_pull_48
    · refine g_sub (lv' := [(0, .ref (eA (xE X) 50))]) [0] rfl ?_
      exact w_X5_pull_J18 hres o hr   h
theorem c_X5_pull {l : Launch} {E : En} {mk : Mem → Mem} (hmk : MK mk sdM) (x1 : Int32) (x2 : Int32)  {σ : Mem} {r : Int32} {τ : Mem} (h : f_X5_pull x1 x2 σ = some (r, τ)) : Met l yX5_pull (Cond.code yX5_pull cX5_pull 3 (some .int) :: wt) rm_X5_pull (PW E mk [.ref (eA E 50), .int x1, .int x2] σ) (QI E mk r τ) 0 0 (WA E) :=
  met_i (fun E => [.ref (eA E 50), .int x1, .int x2]) (by decide) hmk (Nat.le_of_ble_eq_true rfl) (fun X o hr => w_X5_pull rfl o hr x1 x2  h)
set_option maxRecDepth 100000 in
set_option maxHeartbeats 4000000 in
theorem w_X5_comesDown {X : Cx} {l : Launch} {u : Unit} {σr : Mem} {res : Unit × Mem} (hres : res = (u, σr)) (o : OK X cX5_comesDown RX5 sdM 2 rm_X5_comesDown l) (hr : RV X σr) (x1 : Int32)  {σ : Mem} (h : f_X5_comesDown x1 σ = some res) : G X σ 0 [(0, .ref (eA (xE X) 50)), (1, .int x1)] [] := by
  unfold f_X5_comesDown at h
  refine g_aload_n o (q := 1) 0 rfl rfl dX5_comesDown_0 rfl ?_
  refine g_iload_n o (q := 2) 1 rfl rfl dX5_comesDown_1 rfl ?_
  refine g_iconst o (v := 5) (q := 3) (by decide) dX5_comesDown_2 rfl ?_
  refine g_csi o (q := 6) (As := [.int x1, .int 5]) (rest := [.ref (eA (xE X) 50)]) kv_X5_curtainAt lk_X5_85 rfl (fun _ _ hc => c_X5_curtainAt o.mk x1 5 hc) dX5_comesDown_3 rfl ⟨rfl, rfl, Nat.le_of_ble_eq_true rfl, Nat.le_of_ble_eq_true rfl⟩ (Nat.le_of_ble_eq_true rfl) rfl h (fun r22 σ21 h => ?_)
  refine g_iconst o (v := 1) (q := 7) (by decide) dX5_comesDown_6 rfl ?_
  refine g_sipush o (v := 9999) (q := 10) (by decide) dX5_comesDown_7 rfl ?_
  refine g_cvv o (q := 13) (As := [.int r22, .int 1, .int 9999]) (rest := []) kv_X5_more lk_X5_141 kM_50 (by decide) rfl rfl rfl (fun _ _ hc => c_X5_more o.mk r22 1 9999 hc) dX5_comesDown_10 rfl ⟨rfl, rfl, Nat.le_of_ble_eq_true rfl, Nat.le_of_ble_eq_true rfl⟩ (Nat.le_of_ble_eq_true rfl) rfl h (fun _u23 σ23 h => ?_)
  refine g_aload_n o (q := 14) 0 rfl rfl dX5_comesDown_13 rfl ?_
  refine gf_X5_0 o (q := 17) kM_50 lk_X5_9 dX5_comesDown_14 rfl ?_
  refine g_iconst o (v := 3) (q := 18) (by decide) dX5_comesDown_17 rfl ?_
  refine g_iald o (q := 19) kM_51 dX5_comesDown_18 rfl h (fun j24 hjj24 h => ?_)
  refine g_iconst o (v := 1) (q := 20) (by decide) dX5_comesDown_19 rfl ?_
  refine g_icmp_ne o (tgt := 36) (q := 23) dX5_comesDown_20 (by decide) rfl h (fun h => ?_) (fun h => ?_)
  · refine g_aload_n o (q := 37) 0 rfl rfl dX5_comesDown_36 rfl ?_
    refine g_iconst o (v := 4) (q := 38) (by decide) dX5_comesDown_37 rfl ?_
    refine g_iconst o (v := 1) (q := 39) (by decide) dX5_comesDown_38 rfl ?_
    refine g_ldc o (q := 41) lk_X5_156 dX5_comesDown_39 rfl ?_
    refine g_cvv o (q := 44) (As := [.int 4, .int 1, .int (99999)]) (rest := []) kv_X5_more lk_X5_141 kM_50 (by decide) rfl rfl rfl (fun _ _ hc => c_X5_more o.mk 4 1 (99999) hc) dX5_comesDown_41 rfl ⟨rfl, rfl, Nat.le_of_ble_eq_true rfl, Nat.le_of_ble_eq_true rfl⟩ (Nat.le_of_ble_eq_true rfl) rfl h (fun _u25 σ25 h => ?_)
    refine g_aload_n o (q := 45) 0 rfl rfl dX5_comesDown_44 rfl ?_
    refine g_iload_n o (q := 46) 1 rfl rfl dX5_comesDown_45 rfl ?_
    refine g_iconst o (v := 1) (q := 47) (by decide) dX5_comesDown_46 rfl ?_
    refine g_csi o (q := 50) (As := [.int x1, .int 1]) (rest := [.ref (eA (xE X) 50)]) kv_X5_curtainAt lk_X5_85 rfl (fun _ _ hc => c_X5_curtainAt o.mk x1 1 hc) dX5_comesDown_47 rfl ⟨rfl, rfl, Nat.le_of_ble_eq_true rfl, Nat.le_of_ble_eq_true rfl⟩ (Nat.le_of_ble_eq_true rfl) rfl h (fun r27 σ26 h => ?_)
    refine g_bipush o (v := 25) (q := 52) (by decide) dX5_comesDown_50 rfl ?_
    refine g_bipush o (v := 99) (q := 54) (by decide) dX5_comesDown_52 rfl ?_
    refine g_cvv o (q := 57) (As := [.int r27, .int 25, .int 99]) (rest := []) kv_X5_more lk_X5_141 kM_50 (by decide) rfl rfl rfl (fun _ _ hc => c_X5_more o.mk r27 25 99 hc) dX5_comesDown_54 rfl ⟨rfl, rfl, Nat.le_of_ble_eq_true rfl, Nat.le_of_ble_eq_true rfl⟩ (Nat.le_of_ble_eq_true rfl) rfl h (fun _u28 σ28 h => ?_)
    exact g_vret o hr (h.trans (congrArg some hres)) dX5_comesDown_57
  · refine g_aload_n o (q := 24) 0 rfl rfl dX5_comesDown_23 rfl ?_
    refine g_iconst o (v := 5) (q := 25) (by decide) dX5_comesDown_24 rfl ?_
    refine g_bipush o (v := 100) (q := 27) (by decide) dX5_comesDown_25 rfl ?_
    refine g_sipush o (v := 900) (q := 30) (by decide) dX5_comesDown_27 rfl ?_
    refine g_cvv o (q := 33) (As := [.int 5, .int 100, .int 900]) (rest := []) kv_X5_more lk_X5_141 kM_50 (by decide) rfl rfl rfl (fun _ _ hc => c_X5_more o.mk 5 100 900 hc) dX5_comesDown_30 rfl ⟨rfl, rfl, Nat.le_of_ble_eq_true rfl, Nat.le_of_ble_eq_true rfl⟩ (Nat.le_of_ble_eq_true rfl) rfl h (fun _u29 σ29 h => ?_)
    refine g_goto o (tgt := 57) dX5_comesDown_33 (by decide) ?_
    exact g_vret o hr (h.trans (congrArg some hres)) dX5_comesDown_57
theorem c_X5_comesDown {l : Launch} {E : En} {mk : Mem → Mem} (hmk : MK mk sdM) (x1 : Int32)  {σ : Mem} {r : Unit} {τ : Mem} (h : f_X5_comesDown x1 σ = some (r, τ)) : Met l yX5_comesDown (Cond.code yX5_comesDown cX5_comesDown 2 none :: wt) rm_X5_comesDown (PW E mk [.ref (eA E 50), .int x1] σ) (QV E mk τ) 0 0 (WA E) :=
  met_v (fun E => [.ref (eA E 50), .int x1]) (by decide) hmk (Nat.le_of_ble_eq_true rfl) (fun X o hr => w_X5_comesDown rfl o hr x1  h)
set_option maxRecDepth 100000 in
set_option maxHeartbeats 4000000 in
theorem w_X5_plays_J120 {X : Cx} {l : Launch} {u : Unit} {σr : Mem} {res : Unit × Mem} (hres : res = (u, σr)) (o : OK X cX5_plays RX5 sdM 4 rm_X5_plays l) (hr : RV X σr)   {y1 : Int32} {y3 : Int32}  {σ : Mem} (h : f_X5_plays_J120  y1 y3 σ = some res) : G X σ 120 [(0, .ref (eA (xE X) 50)), (1, .int y1), (3, .int y3)] [] := by
  unfold f_X5_plays_J120 at h
  refine g_iload_n o (q := 121) 2 rfl rfl dX5_plays_120 rfl ?_
  refine g_if_le o (tgt := 138) (q := 124) dX5_plays_121 (by decide) rfl h (fun h => ?_) (fun h => ?_)
  · exact g_vret o hr (h.trans (congrArg some hres)) dX5_plays_138
  · refine g_aload_n o (q := 125) 0 rfl rfl dX5_plays_124 rfl ?_
    refine g_iload_n o (q := 126) 1 rfl rfl dX5_plays_125 rfl ?_
    refine g_iconst o (v := 3) (q := 127) (by decide) dX5_plays_126 rfl ?_
    refine g_cvi o (q := 130) (As := [.int y1, .int 3]) (rest := []) kv_X5_curtainIs lk_X5_98 kM_50 (by decide) rfl rfl rfl (fun _ _ hc => c_X5_curtainIs o.mk y1 3 hc) dX5_plays_127 rfl ⟨rfl, rfl, Nat.le_of_ble_eq_true rfl, Nat.le_of_ble_eq_true rfl⟩ (Nat.le_of_ble_eq_true rfl) rfl h (fun r40 σ39 h => ?_)
    refine g_if_ne o (tgt := 138) (q := 133) dX5_plays_130 (by decide) rfl h (fun h => ?_) (fun h => ?_)
    · exact g_vret o hr (h.trans (congrArg some hres)) dX5_plays_138
    · refine g_aload_n o (q := 134) 0 rfl rfl dX5_plays_133 rfl ?_
      refine g_iload_n o (q := 135) 1 rfl rfl dX5_plays_134 rfl ?_
      refine g_cvv o (q := 138) (As := [.int y1]) (rest := []) kv_X5_comesDown lk_X5_157 kM_50 (by decide) rfl rfl rfl (fun _ _ hc => c_X5_comesDown o.mk y1 hc) dX5_plays_135 rfl ⟨rfl, rfl, Nat.le_of_ble_eq_true rfl, Nat.le_of_ble_eq_true rfl⟩ (Nat.le_of_ble_eq_true rfl) rfl h (fun _u41 σ41 h => ?_)
      exact g_vret o hr (h.trans (congrArg some hres)) dX5_plays_138
set_option maxRecDepth 100000 in
set_option maxHeartbeats 4000000 in
theorem w_X5_plays_J87 {X : Cx} {l : Launch} {u : Unit} {σr : Mem} {res : Unit × Mem} (hres : res = (u, σr)) (o : OK X cX5_plays RX5 sdM 4 rm_X5_plays l) (hr : RV X σr)   {y1 : Int32} {y3 : Int32}  {σ : Mem} (h : f_X5_plays_J87  y1 y3 σ = some res) : G X σ 87 [(0, .ref (eA (xE X) 50)), (1, .int y1), (3, .int y3)] [] := by
  unfold f_X5_plays_J87 at h
  refine g_aload_n o (q := 88) 0 rfl rfl dX5_plays_87 rfl ?_
  refine g_iload_n o (q := 89) 1 rfl rfl dX5_plays_88 rfl ?_
  refine g_iconst o (v := 3) (q := 90) (by decide) dX5_plays_89 rfl ?_
  refine g_csi o (q := 93) (As := [.int y1, .int 3]) (rest := [.ref (eA (xE X) 50)]) kv_X5_curtainAt lk_X5_85 rfl (fun _ _ hc => c_X5_curtainAt o.mk y1 3 hc) dX5_plays_90 rfl ⟨rfl, rfl, Nat.le_of_ble_eq_true rfl, Nat.le_of_ble_eq_true rfl⟩ (Nat.le_of_ble_eq_true rfl) rfl h (fun r35 σ34 h => ?_)
  refine g_aload_n o (q := 94) 0 rfl rfl dX5_plays_93 rfl ?_
  refine g_iload_n o (q := 95) 1 rfl rfl dX5_plays_94 rfl ?_
  refine g_cvi o (q := 98) (As := [.int y1]) (rest := [.int r35, .ref (eA (xE X) 50)]) kv_X5_falls lk_X5_117 kM_50 (by decide) rfl rfl rfl (fun _ _ hc => c_X5_falls o.mk y1 hc) dX5_plays_95 rfl ⟨rfl, rfl, Nat.le_of_ble_eq_true rfl, Nat.le_of_ble_eq_true rfl⟩ (Nat.le_of_ble_eq_true rfl) rfl h (fun r37 σ36 h => ?_)
  refine g_cvv o (q := 101) (As := [.int r35, .int r37]) (rest := []) kv_X5_less lk_X5_145 kM_50 (by decide) rfl rfl rfl (fun _ _ hc => c_X5_less o.mk r35 r37 hc) dX5_plays_98 rfl ⟨rfl, rfl, Nat.le_of_ble_eq_true rfl, Nat.le_of_ble_eq_true rfl⟩ (Nat.le_of_ble_eq_true rfl) rfl h (fun _u38 σ38 h => ?_)
  refine g_goto o (tgt := 120) dX5_plays_101 (by decide) ?_
  exact w_X5_plays_J120 hres o hr   h
set_option maxRecDepth 100000 in
set_option maxHeartbeats 4000000 in
theorem w_X5_plays_J48 {X : Cx} {l : Launch} {u : Unit} {σr : Mem} {res : Unit × Mem} (hres : res = (u, σr)) (o : OK X cX5_plays RX5 sdM 4 rm_X5_plays l) (hr : RV X σr)   {y1 : Int32}  {σ : Mem} (h : f_X5_plays_J48  y1 σ = some res) : G X σ 48 [(0, .ref (eA (xE X) 50)), (1, .int y1)] [] := by
  unfold f_X5_plays_J48 at h
  refine g_aload_n o (q := 49) 0 rfl rfl dX5_plays_48 rfl ?_
  refine g_iload_n o (q := 50) 1 rfl rfl dX5_plays_49 rfl ?_
  refine g_cvi o (q := 53) (As := [.int y1]) (rest := []) kv_X5_isTied lk_X5_149 kM_50 (by decide) rfl rfl rfl (fun _ _ hc => c_X5_isTied o.mk y1 hc) dX5_plays_50 rfl ⟨rfl, rfl, Nat.le_of_ble_eq_true rfl, Nat.le_of_ble_eq_true rfl⟩ (Nat.le_of_ble_eq_true rfl) rfl h (fun r29 σ28 h => ?_)
  refine g_if_ne o (tgt := 138) (q := 56) dX5_plays_53 (by decide) rfl h (fun h => ?_) (fun h => ?_)
  · exact g_vret o hr (h.trans (congrArg some hres)) dX5_plays_138
  · refine g_aload_n o (q := 57) 0 rfl rfl dX5_plays_56 rfl ?_
    refine g_iload_n o (q := 58) 1 rfl rfl dX5_plays_57 rfl ?_
    refine g_iconst o (v := 3) (q := 59) (by decide) dX5_plays_58 rfl ?_
    refine g_cvi o (q := 62) (As := [.int y1, .int 3]) (rest := []) kv_X5_curtainIs lk_X5_98 kM_50 (by decide) rfl rfl rfl (fun _ _ hc => c_X5_curtainIs o.mk y1 3 hc) dX5_plays_59 rfl ⟨rfl, rfl, Nat.le_of_ble_eq_true rfl, Nat.le_of_ble_eq_true rfl⟩ (Nat.le_of_ble_eq_true rfl) rfl h (fun r31 σ30 h => ?_)
    refine g_istore_n o (q := 63) dX5_plays_62 rfl rfl (by decide) h (fun x32 => [(3, .int x32), (0, .ref (eA (xE X) 50)), (1, .int y1)]) (fun _ => rfl) (fun x32 h => ?_)
    refine g_aload_n o (q := 64) 1 rfl rfl dX5_plays_63 rfl ?_
    refine gf_X5_0 o (q := 67) kM_50 lk_X5_9 dX5_plays_64 rfl ?_
    refine g_iconst o (v := 3) (q := 68) (by decide) dX5_plays_67 rfl ?_
    refine g_iald o (q := 69) kM_51 dX5_plays_68 rfl h (fun j33 hjj33 h => ?_)
    refine g_iconst o (v := 1) (q := 70) (by decide) dX5_plays_69 rfl ?_
    refine g_icmp_eq o (tgt := 87) (q := 73) dX5_plays_70 (by decide) rfl h (fun h => ?_) (fun h => ?_)
    · refine g_sub (lv' := [(0, .ref (eA (xE X) 50)), (1, .int y1), (3, .int x32)]) [1, 2, 0] rfl ?_
      exact w_X5_plays_J87 hres o hr   h
    · refine g_aload_n o (q := 74) 1 rfl rfl dX5_plays_73 rfl ?_
      refine g_iload_n o (q := 75) 2 rfl rfl dX5_plays_74 rfl ?_
      refine g_iconst o (v := 1) (q := 76) (by decide) dX5_plays_75 rfl ?_
      refine g_cvi o (q := 79) (As := [.int y1, .int 1]) (rest := []) kv_X5_curtainIs lk_X5_98 kM_50 (by decide) rfl rfl rfl (fun _ _ hc => c_X5_curtainIs o.mk y1 1 hc) dX5_plays_76 rfl ⟨rfl, rfl, Nat.le_of_ble_eq_true rfl, Nat.le_of_ble_eq_true rfl⟩ (Nat.le_of_ble_eq_true rfl) rfl h (fun r43 σ42 h => ?_)
      refine g_aload_n o (q := 80) 1 rfl rfl dX5_plays_79 rfl ?_
      refine g_iload_n o (q := 81) 2 rfl rfl dX5_plays_80 rfl ?_
      refine g_cvi o (q := 84) (As := [.int y1]) (rest := [.int r43]) kv_X5_bears lk_X5_114 kM_50 (by decide) rfl rfl rfl (fun _ _ hc => c_X5_bears o.mk y1 hc) dX5_plays_81 rfl ⟨rfl, rfl, Nat.le_of_ble_eq_true rfl, Nat.le_of_ble_eq_true rfl⟩ (Nat.le_of_ble_eq_true rfl) rfl h (fun r45 σ44 h => ?_)
      refine g_icmp_ge o (tgt := 104) (q := 87) dX5_plays_84 (by decide) rfl h (fun h => ?_) (fun h => ?_)
      · refine g_aload_n o (q := 105) 1 rfl rfl dX5_plays_104 rfl ?_
        refine g_iload_n o (q := 106) 2 rfl rfl dX5_plays_105 rfl ?_
        refine g_iconst o (v := 3) (q := 107) (by decide) dX5_plays_106 rfl ?_
        refine g_csi o (q := 110) (As := [.int y1, .int 3]) (rest := [.ref (eA (xE X) 50)]) kv_X5_curtainAt lk_X5_85 rfl (fun _ _ hc => c_X5_curtainAt o.mk y1 3 hc) dX5_plays_107 rfl ⟨rfl, rfl, Nat.le_of_ble_eq_true rfl, Nat.le_of_ble_eq_true rfl⟩ (Nat.le_of_ble_eq_true rfl) rfl h (fun r47 σ46 h => ?_)
        refine g_aload_n o (q := 111) 1 rfl rfl dX5_plays_110 rfl ?_
        refine g_iload_n o (q := 112) 2 rfl rfl dX5_plays_111 rfl ?_
        refine g_cvi o (q := 115) (As := [.int y1]) (rest := [.int r47, .ref (eA (xE X) 50)]) kv_X5_rises lk_X5_120 kM_50 (by decide) rfl rfl rfl (fun _ _ hc => c_X5_rises o.mk y1 hc) dX5_plays_112 rfl ⟨rfl, rfl, Nat.le_of_ble_eq_true rfl, Nat.le_of_ble_eq_true rfl⟩ (Nat.le_of_ble_eq_true rfl) rfl h (fun r49 σ48 h => ?_)
        refine g_bipush o (v := 20) (q := 117) (by decide) dX5_plays_115 rfl ?_
        refine g_cvv o (q := 120) (As := [.int r47, .int r49, .int 20]) (rest := []) kv_X5_more lk_X5_141 kM_50 (by decide) rfl rfl rfl (fun _ _ hc => c_X5_more o.mk r47 r49 20 hc) dX5_plays_117 rfl ⟨rfl, rfl, Nat.le_of_ble_eq_true rfl, Nat.le_of_ble_eq_true rfl⟩ (Nat.le_of_ble_eq_true rfl) rfl h (fun _u50 σ50 h => ?_)
        refine g_sub (lv' := [(0, .ref (eA (xE X) 50)), (1, .int y1), (3, .int x32)]) [1, 2, 0] rfl ?_
        exact w_X5_plays_J120 hres o hr   h
      · refine g_sub (lv' := [(0, .ref (eA (xE X) 50)), (1, .int y1), (3, .int x32)]) [1, 2, 0] rfl ?_
        exact w_X5_plays_J87 hres o hr   h
set_option maxRecDepth 100000 in
set_option maxHeartbeats 4000000 in
theorem w_X5_plays {X : Cx} {l : Launch} {u : Unit} {σr : Mem} {res : Unit × Mem} (hres : res = (u, σr)) (o : OK X cX5_plays RX5 sdM 4 rm_X5_plays l) (hr : RV X σr) (x1 : Int32) (x2 : Int32)  {σ : Mem} (h : f_X5_plays x1 x2 σ = some res) : G X σ 0 [(0, .ref (eA (xE X) 50)), (1, .int x1), (2, .int x2)] [] := by
  unfold f_X5_plays at h
  refine g_aload_n o (q := 1) 0 rfl rfl dX5_plays_0 rfl ?_
  refine g_iload_n o (q := 2) 1 rfl rfl dX5_plays_1 rfl ?_
  refine g_iconst o (v := 2) (q := 3) (by decide) dX5_plays_2 rfl ?_
  refine g_cvi o (q := 6) (As := [.int x1, .int 2]) (rest := []) kv_X5_curtainIs lk_X5_98 kM_50 (by decide) rfl rfl rfl (fun _ _ hc => c_X5_curtainIs o.mk x1 2 hc) dX5_plays_3 rfl ⟨rfl, rfl, Nat.le_of_ble_eq_true rfl, Nat.le_of_ble_eq_true rfl⟩ (Nat.le_of_ble_eq_true rfl) rfl h (fun r22 σ21 h => ?_)
  refine g_iload_n o (q := 7) 2 rfl rfl dX5_plays_6 rfl ?_
  refine g_ishr o (q := 8) dX5_plays_7 rfl ?_
  refine g_iconst o (v := 1) (q := 9) (by decide) dX5_plays_8 rfl ?_
  refine g_iand o (q := 10) dX5_plays_9 rfl ?_
  refine g_iconst o (v := 1) (q := 11) (by decide) dX5_plays_10 rfl ?_
  refine g_icmp_ne o (tgt := 33) (q := 14) dX5_plays_11 (by decide) rfl h (fun h => ?_) (fun h => ?_)
  · refine g_aload_n o (q := 34) 0 rfl rfl dX5_plays_33 rfl ?_
    refine g_iload_n o (q := 35) 1 rfl rfl dX5_plays_34 rfl ?_
    refine g_iconst o (v := 1) (q := 36) (by decide) dX5_plays_35 rfl ?_
    refine g_csi o (q := 39) (As := [.int x1, .int 1]) (rest := [.ref (eA (xE X) 50)]) kv_X5_curtainAt lk_X5_85 rfl (fun _ _ hc => c_X5_curtainAt o.mk x1 1 hc) dX5_plays_36 rfl ⟨rfl, rfl, Nat.le_of_ble_eq_true rfl, Nat.le_of_ble_eq_true rfl⟩ (Nat.le_of_ble_eq_true rfl) rfl h (fun r24 σ23 h => ?_)
    refine g_aload_n o (q := 40) 0 rfl rfl dX5_plays_39 rfl ?_
    refine g_iload_n o (q := 41) 1 rfl rfl dX5_plays_40 rfl ?_
    refine g_iload_n o (q := 42) 2 rfl rfl dX5_plays_41 rfl ?_
    refine g_cvi o (q := 45) (As := [.int x1, .int x2]) (rest := [.int r24, .ref (eA (xE X) 50)]) kv_X5_tires lk_X5_111 kM_50 (by decide) rfl rfl rfl (fun _ _ hc => c_X5_tires o.mk x1 x2 hc) dX5_plays_42 rfl ⟨rfl, rfl, Nat.le_of_ble_eq_true rfl, Nat.le_of_ble_eq_true rfl⟩ (Nat.le_of_ble_eq_true rfl) rfl h (fun r26 σ25 h => ?_)
    refine g_cvv o (q := 48) (As := [.int r24, .int r26]) (rest := []) kv_X5_less lk_X5_145 kM_50 (by decide) rfl rfl rfl (fun _ _ hc => c_X5_less o.mk r24 r26 hc) dX5_plays_45 rfl ⟨rfl, rfl, Nat.le_of_ble_eq_true rfl, Nat.le_of_ble_eq_true rfl⟩ (Nat.le_of_ble_eq_true rfl) rfl h (fun _u27 σ27 h => ?_)
    refine g_sub (lv' := [(0, .ref (eA (xE X) 50)), (1, .int x1)]) [0, 1] rfl ?_
    exact w_X5_plays_J48 hres o hr   h
  · refine g_aload_n o (q := 15) 0 rfl rfl dX5_plays_14 rfl ?_
    refine g_iload_n o (q := 16) 1 rfl rfl dX5_plays_15 rfl ?_
    refine g_iconst o (v := 1) (q := 17) (by decide) dX5_plays_16 rfl ?_
    refine g_csi o (q := 20) (As := [.int x1, .int 1]) (rest := [.ref (eA (xE X) 50)]) kv_X5_curtainAt lk_X5_85 rfl (fun _ _ hc => c_X5_curtainAt o.mk x1 1 hc) dX5_plays_17 rfl ⟨rfl, rfl, Nat.le_of_ble_eq_true rfl, Nat.le_of_ble_eq_true rfl⟩ (Nat.le_of_ble_eq_true rfl) rfl h (fun r52 σ51 h => ?_)
    refine g_aload_n o (q := 21) 0 rfl rfl dX5_plays_20 rfl ?_
    refine g_iload_n o (q := 22) 1 rfl rfl dX5_plays_21 rfl ?_
    refine g_cvi o (q := 25) (As := [.int x1]) (rest := [.int r52, .ref (eA (xE X) 50)]) kv_X5_gladdens lk_X5_104 kM_50 (by decide) rfl rfl rfl (fun _ _ hc => c_X5_gladdens o.mk x1 hc) dX5_plays_22 rfl ⟨rfl, rfl, Nat.le_of_ble_eq_true rfl, Nat.le_of_ble_eq_true rfl⟩ (Nat.le_of_ble_eq_true rfl) rfl h (fun r54 σ53 h => ?_)
    refine g_bipush o (v := 99) (q := 27) (by decide) dX5_plays_25 rfl ?_
    refine g_cvv o (q := 30) (As := [.int r52, .int r54, .int 99]) (rest := []) kv_X5_more lk_X5_141 kM_50 (by decide) rfl rfl rfl (fun _ _ hc => c_X5_more o.mk r52 r54 99 hc) dX5_plays_27 rfl ⟨rfl, rfl, Nat.le_of_ble_eq_true rfl, Nat.le_of_ble_eq_true rfl⟩ (Nat.le_of_ble_eq_true rfl) rfl h (fun _u55 σ55 h => ?_)
    refine g_goto o (tgt := 48) dX5_plays_30 (by decide) ?_
    refine g_sub (lv' := [(0, .ref (eA (xE X) 50)), (1, .int x1)]) [0, 1] rfl ?_
    exact w_X5_plays_J48 hres o hr   h
theorem c_X5_plays {l : Launch} {E : En} {mk : Mem → Mem} (hmk : MK mk sdM) (x1 : Int32) (x2 : Int32)  {σ : Mem} {r : Unit} {τ : Mem} (h : f_X5_plays x1 x2 σ = some (r, τ)) : Met l yX5_plays (Cond.code yX5_plays cX5_plays 4 none :: wt) rm_X5_plays (PW E mk [.ref (eA E 50), .int x1, .int x2] σ) (QV E mk τ) 0 0 (WA E) :=
  met_v (fun E => [.ref (eA E 50), .int x1, .int x2]) (by decide) hmk (Nat.le_of_ble_eq_true rfl) (fun X o hr => w_X5_plays rfl o hr x1 x2  h)
set_option maxRecDepth 100000 in
set_option maxHeartbeats 4000000 in
theorem w_X5_beat_L12 {X : Cx} {l : Launch} {u : Unit} {σr : Mem} {res : Unit × Mem} (hres : res = (u, σr)) (o : OK X cX5_beat RX5 sdM 3 rm_X5_beat l) (hr : RV X σr)   : ∀ (n : Nat) (y1 : Int32) (y2 : Int32) (σ : Mem), f_X5_beat_L12  n y1 y2 σ = some res → G X σ 12 [(0, .ref (eA (xE X) 50)), (1, .int y1), (2, .int y2)] [] := by
  intro n
  induction n with
  | zero => intro y1 y2 σ  h; cases h
  | succ n ih =>
    intro y1 y2 σ  h
    rw [f_X5_beat_L12_s] at h
    refine g_iload_n o (q := 13) 2 rfl rfl dX5_beat_12 rfl ?_
    refine g_aload_n o (q := 14) 0 rfl rfl dX5_beat_13 rfl ?_
    refine gf_X5_0 o (q := 17) kM_50 lk_X5_9 dX5_beat_14 rfl ?_
    refine g_iconst o (v := 1) (q := 18) (by decide) dX5_beat_17 rfl ?_
    refine g_iald o (q := 19) kM_51 dX5_beat_18 rfl h (fun j26 hjj26 h => ?_)
    refine g_icmp_ge o (tgt := 34) (q := 22) dX5_beat_19 (by decide) rfl h (fun h => ?_) (fun h => ?_)
    · refine g_aload_n o (q := 35) 0 rfl rfl dX5_beat_34 rfl ?_
      refine g_iconst o (v := 0) (q := 36) (by decide) dX5_beat_35 rfl ?_
      refine g_iconst o (v := 1) (q := 37) (by decide) dX5_beat_36 rfl ?_
      refine g_ldc o (q := 39) lk_X5_156 dX5_beat_37 rfl ?_
      refine g_cvv o (q := 42) (As := [.int 0, .int 1, .int (99999)]) (rest := []) kv_X5_more lk_X5_141 kM_50 (by decide) rfl rfl rfl (fun _ _ hc => c_X5_more o.mk 0 1 (99999) hc) dX5_beat_39 rfl ⟨rfl, rfl, Nat.le_of_ble_eq_true rfl, Nat.le_of_ble_eq_true rfl⟩ (Nat.le_of_ble_eq_true rfl) rfl h (fun _u27 σ27 h => ?_)
      exact g_vret o hr (h.trans (congrArg some hres)) dX5_beat_42
    · refine g_aload_n o (q := 23) 0 rfl rfl dX5_beat_22 rfl ?_
      refine g_iload_n o (q := 24) 2 rfl rfl dX5_beat_23 rfl ?_
      refine g_iload_n o (q := 25) 1 rfl rfl dX5_beat_24 rfl ?_
      refine g_cvv o (q := 28) (As := [.int y2, .int y1]) (rest := []) kv_X5_plays lk_X5_161 kM_50 (by decide) rfl rfl rfl (fun _ _ hc => c_X5_plays o.mk y2 y1 hc) dX5_beat_25 rfl ⟨rfl, rfl, Nat.le_of_ble_eq_true rfl, Nat.le_of_ble_eq_true rfl⟩ (Nat.le_of_ble_eq_true rfl) rfl h (fun _u28 σ28 h => ?_)
      refine g_iinc o (q := 31) (dn := 1) dX5_beat_28 rfl 2 rfl (by decide) (by decide) h (fun x29 => [(2, .int x29), (0, .ref (eA (xE X) 50)), (1, .int y1)]) (fun _ => rfl) (fun x29 h => ?_)
      refine g_goto o (tgt := 12) dX5_beat_31 (by decide) ?_
      refine g_sub (lv' := [(0, .ref (eA (xE X) 50)), (1, .int y1), (2, .int x29)]) [1, 2, 0] rfl ?_
      exact ih y1 x29 σ28  h
set_option maxRecDepth 100000 in
set_option maxHeartbeats 4000000 in
theorem w_X5_beat {X : Cx} {l : Launch} {u : Unit} {σr : Mem} {res : Unit × Mem} (hres : res = (u, σr)) (o : OK X cX5_beat RX5 sdM 3 rm_X5_beat l) (hr : RV X σr)   {σ : Mem} (h : f_X5_beat  σ = some res) : G X σ 0 [(0, .ref (eA (xE X) 50))] [] := by
  unfold f_X5_beat at h
  refine g_aload_n o (q := 1) 0 rfl rfl dX5_beat_0 rfl ?_
  refine gf_X5_0 o (q := 4) kM_50 lk_X5_9 dX5_beat_1 rfl ?_
  refine g_aload_n o (q := 5) 0 rfl rfl dX5_beat_4 rfl ?_
  refine g_cvi o (q := 8) (As := []) (rest := [.ref (eA (xE X) 51)]) kv_X5_placeNow lk_X5_107 kM_50 (by decide) rfl rfl rfl (fun _ _ hc => c_X5_placeNow o.mk  hc) dX5_beat_5 rfl ⟨rfl, rfl, Nat.le_of_ble_eq_true rfl, Nat.le_of_ble_eq_true rfl⟩ (Nat.le_of_ble_eq_true rfl) rfl h (fun r22 σ21 h => ?_)
  refine g_iald o (q := 9) kM_51 dX5_beat_8 rfl h (fun j23 hjj23 h => ?_)
  refine g_istore_n o (q := 10) dX5_beat_9 rfl rfl (by decide) h (fun x24 => [(1, .int x24), (0, .ref (eA (xE X) 50))]) (fun _ => rfl) (fun x24 h => ?_)
  refine g_iconst o (v := 0) (q := 11) (by decide) dX5_beat_10 rfl ?_
  refine g_istore_n o (q := 12) dX5_beat_11 rfl rfl (by decide) h (fun x25 => [(2, .int x25), (1, .int x24), (0, .ref (eA (xE X) 50))]) (fun _ => rfl) (fun x25 h => ?_)
  refine g_sub (lv' := [(0, .ref (eA (xE X) 50)), (1, .int x24), (2, .int x25)]) [2, 1, 0] rfl ?_
  exact w_X5_beat_L12 hres o hr  FU x24 x25 σ21  h
theorem c_X5_beat {l : Launch} {E : En} {mk : Mem → Mem} (hmk : MK mk sdM)   {σ : Mem} {r : Unit} {τ : Mem} (h : f_X5_beat  σ = some (r, τ)) : Met l yX5_beat (Cond.code yX5_beat cX5_beat 3 none :: wt) rm_X5_beat (PW E mk [.ref (eA E 50)] σ) (QV E mk τ) 0 0 (WA E) :=
  met_v (fun E => [.ref (eA E 50)]) (by decide) hmk (Nat.le_of_ble_eq_true rfl) (fun X o hr => w_X5_beat rfl o hr   h)
set_option maxRecDepth 100000 in
set_option maxHeartbeats 4000000 in
theorem w_X5_beatsGo_L2 {X : Cx} {l : Launch} {u : Unit} {σr : Mem} {res : Unit × Mem} (hres : res = (u, σr)) (o : OK X cX5_beatsGo RX5 sdM 3 rm_X5_beatsGo l) (hr : RV X σr)   : ∀ (n : Nat) (y1 : Int32) (y2 : Int32) (σ : Mem), f_X5_beatsGo_L2  n y1 y2 σ = some res → G X σ 2 [(0, .ref (eA (xE X) 50)), (1, .int y1), (2, .int y2)] [] := by
  intro n
  induction n with
  | zero => intro y1 y2 σ  h; cases h
  | succ n ih =>
    intro y1 y2 σ  h
    rw [f_X5_beatsGo_L2_s] at h
    refine g_iload_n o (q := 3) 2 rfl rfl dX5_beatsGo_2 rfl ?_
    refine g_iload_n o (q := 4) 1 rfl rfl dX5_beatsGo_3 rfl ?_
    refine g_icmp_ge o (tgt := 17) (q := 7) dX5_beatsGo_4 (by decide) rfl h (fun h => ?_) (fun h => ?_)
    · exact g_vret o hr (h.trans (congrArg some hres)) dX5_beatsGo_17
    · refine g_aload_n o (q := 8) 0 rfl rfl dX5_beatsGo_7 rfl ?_
      refine g_cvv o (q := 11) (As := []) (rest := []) kv_X5_beat lk_X5_164 kM_50 (by decide) rfl rfl rfl (fun _ _ hc => c_X5_beat o.mk  hc) dX5_beatsGo_8 rfl ⟨rfl, rfl, Nat.le_of_ble_eq_true rfl, Nat.le_of_ble_eq_true rfl⟩ (Nat.le_of_ble_eq_true rfl) rfl h (fun _u22 σ22 h => ?_)
      refine g_iinc o (q := 14) (dn := 1) dX5_beatsGo_11 rfl 2 rfl (by decide) (by decide) h (fun x23 => [(2, .int x23), (0, .ref (eA (xE X) 50)), (1, .int y1)]) (fun _ => rfl) (fun x23 h => ?_)
      refine g_goto o (tgt := 2) dX5_beatsGo_14 (by decide) ?_
      refine g_sub (lv' := [(0, .ref (eA (xE X) 50)), (1, .int y1), (2, .int x23)]) [1, 2, 0] rfl ?_
      exact ih y1 x23 σ22  h
set_option maxRecDepth 100000 in
set_option maxHeartbeats 4000000 in
theorem w_X5_beatsGo {X : Cx} {l : Launch} {u : Unit} {σr : Mem} {res : Unit × Mem} (hres : res = (u, σr)) (o : OK X cX5_beatsGo RX5 sdM 3 rm_X5_beatsGo l) (hr : RV X σr) (x1 : Int32)  {σ : Mem} (h : f_X5_beatsGo x1 σ = some res) : G X σ 0 [(0, .ref (eA (xE X) 50)), (1, .int x1)] [] := by
  unfold f_X5_beatsGo at h
  refine g_iconst o (v := 0) (q := 1) (by decide) dX5_beatsGo_0 rfl ?_
  refine g_istore_n o (q := 2) dX5_beatsGo_1 rfl rfl (by decide) h (fun x21 => [(2, .int x21), (0, .ref (eA (xE X) 50)), (1, .int x1)]) (fun _ => rfl) (fun x21 h => ?_)
  refine g_sub (lv' := [(0, .ref (eA (xE X) 50)), (1, .int x1), (2, .int x21)]) [1, 2, 0] rfl ?_
  exact w_X5_beatsGo_L2 hres o hr  FU x1 x21 σ  h
theorem c_X5_beatsGo {l : Launch} {E : En} {mk : Mem → Mem} (hmk : MK mk sdM) (x1 : Int32)  {σ : Mem} {r : Unit} {τ : Mem} (h : f_X5_beatsGo x1 σ = some (r, τ)) : Met l yX5_beatsGo (Cond.code yX5_beatsGo cX5_beatsGo 3 none :: wt) rm_X5_beatsGo (PW E mk [.ref (eA E 50), .int x1] σ) (QV E mk τ) 0 0 (WA E) :=
  met_v (fun E => [.ref (eA E 50), .int x1]) (by decide) hmk (Nat.le_of_ble_eq_true rfl) (fun X o hr => w_X5_beatsGo rfl o hr x1  h)
set_option maxRecDepth 100000 in
set_option maxHeartbeats 4000000 in
theorem w_X5_go {X : Cx} {l : Launch} {r : Int32} {σr : Mem} {res : Int32 × Mem} (hres : res = (r, σr)) (o : OK X cX5_go RX5 sdM 2 rm_X5_go l) (hr : RI X .int r σr) (x1 : Int32)  {σ : Mem} (h : f_X5_go x1 σ = some res) : G X σ 0 [(0, .ref (eA (xE X) 50)), (1, .int x1)] [] := by
  unfold f_X5_go at h
  refine g_iload_n o (q := 1) 1 rfl rfl dX5_go_0 rfl ?_
  refine g_iconst o (v := 1) (q := 2) (by decide) dX5_go_1 rfl ?_
  refine g_bipush o (v := 60) (q := 4) (by decide) dX5_go_2 rfl ?_
  refine g_csi o (q := 7) (As := [.int x1, .int 1, .int 60]) (rest := []) kv_X5_within lk_X5_70 rfl (fun _ _ hc => c_X5_within o.mk x1 1 60 hc) dX5_go_4 rfl ⟨rfl, rfl, Nat.le_of_ble_eq_true rfl, Nat.le_of_ble_eq_true rfl⟩ (Nat.le_of_ble_eq_true rfl) rfl h (fun r22 σ21 h => ?_)
  refine g_if_ne o (tgt := 17) (q := 10) dX5_go_7 (by decide) rfl h (fun h => ?_) (fun h => ?_)
  · refine g_aload_n o (q := 18) 0 rfl rfl dX5_go_17 rfl ?_
    refine gf_X5_0 o (q := 21) kM_50 lk_X5_9 dX5_go_18 rfl ?_
    refine g_iconst o (v := 0) (q := 22) (by decide) dX5_go_21 rfl ?_
    refine g_iald o (q := 23) kM_51 dX5_go_22 rfl h (fun j23 hjj23 h => ?_)
    refine g_iload_n o (q := 24) 1 rfl rfl dX5_go_23 rfl ?_
    refine g_iadd o (q := 25) dX5_go_24 rfl ?_
    refine g_ldc o (q := 27) lk_X5_156 dX5_go_25 rfl ?_
    refine g_icmp_le o (tgt := 37) (q := 30) dX5_go_27 (by decide) rfl h (fun h => ?_) (fun h => ?_)
    · refine g_aload_n o (q := 38) 0 rfl rfl dX5_go_37 rfl ?_
      refine g_iload_n o (q := 39) 1 rfl rfl dX5_go_38 rfl ?_
      refine g_cvv o (q := 42) (As := [.int x1]) (rest := []) kv_X5_beatsGo lk_X5_167 kM_50 (by decide) rfl rfl rfl (fun _ _ hc => c_X5_beatsGo o.mk x1 hc) dX5_go_39 rfl ⟨rfl, rfl, Nat.le_of_ble_eq_true rfl, Nat.le_of_ble_eq_true rfl⟩ (Nat.le_of_ble_eq_true rfl) rfl h (fun _u24 σ24 h => ?_)
      refine g_aload_n o (q := 43) 0 rfl rfl dX5_go_42 rfl ?_
      refine gf_X5_0 o (q := 46) kM_50 lk_X5_9 dX5_go_43 rfl ?_
      refine g_iconst o (v := 4) (q := 47) (by decide) dX5_go_46 rfl ?_
      refine g_iald o (q := 48) kM_51 dX5_go_47 rfl h (fun j25 hjj25 h => ?_)
      exact g_iret o hr (h.trans (congrArg some hres)) rfl dX5_go_48
    · refine g_aload_n o (q := 31) 0 rfl rfl dX5_go_30 rfl ?_
      refine g_ldc o (q := 33) lk_X5_152 dX5_go_31 rfl ?_
      refine g_cvi o (q := 36) (As := [.int (-1000005)]) (rest := []) kv_X5_finding lk_X5_66 kM_50 (by decide) rfl rfl rfl (fun _ _ hc => c_X5_finding o.mk (-1000005) hc) dX5_go_33 rfl ⟨rfl, rfl, Nat.le_of_ble_eq_true rfl, Nat.le_of_ble_eq_true rfl⟩ (Nat.le_of_ble_eq_true rfl) rfl h (fun r27 σ26 h => ?_)
      exact g_iret o hr (h.trans (congrArg some hres)) rfl dX5_go_36
  · refine g_aload_n o (q := 11) 0 rfl rfl dX5_go_10 rfl ?_
    refine g_ldc o (q := 13) lk_X5_60 dX5_go_11 rfl ?_
    refine g_cvi o (q := 16) (As := [.int (-1000001)]) (rest := []) kv_X5_finding lk_X5_66 kM_50 (by decide) rfl rfl rfl (fun _ _ hc => c_X5_finding o.mk (-1000001) hc) dX5_go_13 rfl ⟨rfl, rfl, Nat.le_of_ble_eq_true rfl, Nat.le_of_ble_eq_true rfl⟩ (Nat.le_of_ble_eq_true rfl) rfl h (fun r29 σ28 h => ?_)
    exact g_iret o hr (h.trans (congrArg some hres)) rfl dX5_go_16
theorem c_X5_go {l : Launch} {E : En} {mk : Mem → Mem} (hmk : MK mk sdM) (x1 : Int32)  {σ : Mem} {r : Int32} {τ : Mem} (h : f_X5_go x1 σ = some (r, τ)) : Met l yX5_go (Cond.code yX5_go cX5_go 2 (some .int) :: wt) rm_X5_go (PW E mk [.ref (eA E 50), .int x1] σ) (QI E mk r τ) 0 0 (WA E) :=
  met_i (fun E => [.ref (eA E 50), .int x1]) (by decide) hmk (Nat.le_of_ble_eq_true rfl) (fun X o hr => w_X5_go rfl o hr x1  h)
set_option maxRecDepth 100000 in
set_option maxHeartbeats 4000000 in
theorem w_X5_downOnes_J31 {X : Cx} {l : Launch} {r : Int32} {σr : Mem} {res : Int32 × Mem} (hres : res = (r, σr)) (o : OK X cX5_downOnes RX5 sdM 3 rm_X5_downOnes l) (hr : RI X .int r σr) {k4 : Int32 → Int32 → Mem → Option (Int32 × Mem)} (hk4 : ∀ (y1 : Int32) (y2 : Int32) (σ : Mem), k4 y1 y2 σ = some res → G X σ 4 [(0, .ref (eA (xE X) 50)), (1, .int y1), (2, .int y2)] []) {y2 : Int32} {s0 : Int32} {s1 : Int32}  {σ : Mem} (h : f_X5_downOnes_J31 k4 y2 s0 s1 σ = some res) : G X σ 31 [(0, .ref (eA (xE X) 50)), (2, .int y2)] [.int s1, .int s0] := by
  unfold f_X5_downOnes_J31 at h
  refine g_ior o (q := 32) dX5_downOnes_31 rfl ?_
  refine g_istore_n o (q := 33) dX5_downOnes_32 rfl rfl (by decide) h (fun x26 => [(1, .int x26), (0, .ref (eA (xE X) 50)), (2, .int y2)]) (fun _ => rfl) (fun x26 h => ?_)
  refine g_iinc o (q := 36) (dn := 1) dX5_downOnes_33 rfl 2 rfl (by decide) (by decide) h (fun x27 => [(2, .int x27), (1, .int x26), (0, .ref (eA (xE X) 50))]) (fun _ => rfl) (fun x27 h => ?_)
  refine g_goto o (tgt := 4) dX5_downOnes_36 (by decide) ?_
  refine g_sub (lv' := [(0, .ref (eA (xE X) 50)), (1, .int x26), (2, .int x27)]) [2, 1, 0] rfl ?_
  exact hk4 x26 x27 σ  h
set_option maxRecDepth 100000 in
set_option maxHeartbeats 4000000 in
theorem w_X5_downOnes_L4 {X : Cx} {l : Launch} {r : Int32} {σr : Mem} {res : Int32 × Mem} (hres : res = (r, σr)) (o : OK X cX5_downOnes RX5 sdM 3 rm_X5_downOnes l) (hr : RI X .int r σr)   : ∀ (n : Nat) (y1 : Int32) (y2 : Int32) (σ : Mem), f_X5_downOnes_L4  n y1 y2 σ = some res → G X σ 4 [(0, .ref (eA (xE X) 50)), (1, .int y1), (2, .int y2)] [] := by
  intro n
  induction n with
  | zero => intro y1 y2 σ  h; cases h
  | succ n ih =>
    intro y1 y2 σ  h
    rw [f_X5_downOnes_L4_s] at h
    refine g_iload_n o (q := 5) 2 rfl rfl dX5_downOnes_4 rfl ?_
    refine g_aload_n o (q := 6) 0 rfl rfl dX5_downOnes_5 rfl ?_
    refine gf_X5_0 o (q := 9) kM_50 lk_X5_9 dX5_downOnes_6 rfl ?_
    refine g_iconst o (v := 1) (q := 10) (by decide) dX5_downOnes_9 rfl ?_
    refine g_iald o (q := 11) kM_51 dX5_downOnes_10 rfl h (fun j23 hjj23 h => ?_)
    refine g_icmp_ge o (tgt := 39) (q := 14) dX5_downOnes_11 (by decide) rfl h (fun h => ?_) (fun h => ?_)
    · refine g_iload_n o (q := 40) 1 rfl rfl dX5_downOnes_39 rfl ?_
      exact g_iret o hr (h.trans (congrArg some hres)) rfl dX5_downOnes_40
    · refine g_iload_n o (q := 15) 1 rfl rfl dX5_downOnes_14 rfl ?_
      refine g_aload_n o (q := 16) 0 rfl rfl dX5_downOnes_15 rfl ?_
      refine g_iload_n o (q := 17) 2 rfl rfl dX5_downOnes_16 rfl ?_
      refine g_iconst o (v := 3) (q := 18) (by decide) dX5_downOnes_17 rfl ?_
      refine g_cvi o (q := 21) (As := [.int y2, .int 3]) (rest := [.int y1]) kv_X5_curtainIs lk_X5_98 kM_50 (by decide) rfl rfl rfl (fun _ _ hc => c_X5_curtainIs o.mk y2 3 hc) dX5_downOnes_18 rfl ⟨rfl, rfl, Nat.le_of_ble_eq_true rfl, Nat.le_of_ble_eq_true rfl⟩ (Nat.le_of_ble_eq_true rfl) rfl h (fun r25 σ24 h => ?_)
      refine g_if_ne o (tgt := 30) (q := 24) dX5_downOnes_21 (by decide) rfl h (fun h => ?_) (fun h => ?_)
      · refine g_iconst o (v := 0) (q := 31) (by decide) dX5_downOnes_30 rfl ?_
        refine g_sub (lv' := [(0, .ref (eA (xE X) 50)), (2, .int y2)]) [0, 2] rfl ?_
        exact w_X5_downOnes_J31 hres o hr ih  h
      · refine g_iconst o (v := 1) (q := 25) (by decide) dX5_downOnes_24 rfl ?_
        refine g_iload_n o (q := 26) 2 rfl rfl dX5_downOnes_25 rfl ?_
        refine g_ishl o (q := 27) dX5_downOnes_26 rfl ?_
        refine g_goto o (tgt := 31) dX5_downOnes_27 (by decide) ?_
        refine g_sub (lv' := [(0, .ref (eA (xE X) 50)), (2, .int y2)]) [0, 2] rfl ?_
        exact w_X5_downOnes_J31 hres o hr ih  h
set_option maxRecDepth 100000 in
set_option maxHeartbeats 4000000 in
theorem w_X5_downOnes {X : Cx} {l : Launch} {r : Int32} {σr : Mem} {res : Int32 × Mem} (hres : res = (r, σr)) (o : OK X cX5_downOnes RX5 sdM 3 rm_X5_downOnes l) (hr : RI X .int r σr)   {σ : Mem} (h : f_X5_downOnes  σ = some res) : G X σ 0 [(0, .ref (eA (xE X) 50))] [] := by
  unfold f_X5_downOnes at h
  refine g_iconst o (v := 0) (q := 1) (by decide) dX5_downOnes_0 rfl ?_
  refine g_istore_n o (q := 2) dX5_downOnes_1 rfl rfl (by decide) h (fun x21 => [(1, .int x21), (0, .ref (eA (xE X) 50))]) (fun _ => rfl) (fun x21 h => ?_)
  refine g_iconst o (v := 0) (q := 3) (by decide) dX5_downOnes_2 rfl ?_
  refine g_istore_n o (q := 4) dX5_downOnes_3 rfl rfl (by decide) h (fun x22 => [(2, .int x22), (1, .int x21), (0, .ref (eA (xE X) 50))]) (fun _ => rfl) (fun x22 h => ?_)
  refine g_sub (lv' := [(0, .ref (eA (xE X) 50)), (1, .int x21), (2, .int x22)]) [2, 1, 0] rfl ?_
  exact w_X5_downOnes_L4 hres o hr  FU x21 x22 σ  h
theorem c_X5_downOnes {l : Launch} {E : En} {mk : Mem → Mem} (hmk : MK mk sdM)   {σ : Mem} {r : Int32} {τ : Mem} (h : f_X5_downOnes  σ = some (r, τ)) : Met l yX5_downOnes (Cond.code yX5_downOnes cX5_downOnes 3 (some .int) :: wt) rm_X5_downOnes (PW E mk [.ref (eA E 50)] σ) (QI E mk r τ) 0 0 (WA E) :=
  met_i (fun E => [.ref (eA E 50)]) (by decide) hmk (Nat.le_of_ble_eq_true rfl) (fun X o hr => w_X5_downOnes rfl o hr   h)
