set_option maxRecDepth 100000 in
set_option maxHeartbeats 4000000 in
theorem w_X5_judge_J66 {X : Cx} {l : Launch} {r : Int32} {σr : Mem} {res : Int32 × Mem} (hres : res = (r, σr)) (o : OK X cX5_judge RX5 sdM 3 rm_X5_judge l) (hr : RI X .int r σr)   {y1 : Int32} {y2 : Int32}  {σ : Mem} (h : f_X5_judge_J66  y1 y2 σ = some res) : G X σ 66 [(0, .ref (eA (xE X) 50)), (1, .int y1), (2, .int y2)] [] := by
  unfold f_X5_judge_J66 at h
  refine g_iload_n o (q := 67) 2 rfl rfl dX5_judge_66 rfl ?_
  refine g_aload_n o (q := 68) 0 rfl rfl dX5_judge_67 rfl ?_
  refine gf_X5_17 o (q := 71) kM_50 lk_X5_51 dX5_judge_68 rfl ?_
  refine g_iload_n o (q := 72) 1 rfl rfl dX5_judge_71 rfl ?_
  refine g_iald o (q := 73) kM_59 dX5_judge_72 rfl h (fun j25 hjj25 h => ?_)
  refine g_icmp_ne o (tgt := 80) (q := 76) dX5_judge_73 (by decide) rfl h (fun h => ?_) (fun h => ?_)
  · refine g_iconst o (v := 1) (q := 81) (by decide) dX5_judge_80 rfl ?_
    refine g_iload_n o (q := 82) 2 rfl rfl dX5_judge_81 rfl ?_
    refine g_iadd o (q := 83) dX5_judge_82 rfl ?_
    exact g_iret o hr (h.trans (congrArg some hres)) rfl dX5_judge_83
  · refine g_iconst o (v := 0) (q := 77) (by decide) dX5_judge_76 rfl ?_
    refine g_goto o (tgt := 83) dX5_judge_77 (by decide) ?_
    exact g_iret o hr (h.trans (congrArg some hres)) rfl dX5_judge_83
set_option maxRecDepth 100000 in
set_option maxHeartbeats 4000000 in
theorem w_X5_judge_L22 {X : Cx} {l : Launch} {r : Int32} {σr : Mem} {res : Int32 × Mem} (hres : res = (r, σr)) (o : OK X cX5_judge RX5 sdM 3 rm_X5_judge l) (hr : RI X .int r σr)   : ∀ (n : Nat) (y1 : Int32) (y2 : Int32) (σ : Mem), f_X5_judge_L22  n y1 y2 σ = some res → G X σ 22 [(0, .ref (eA (xE X) 50)), (1, .int y1), (2, .int y2)] [] := by
  intro n
  induction n with
  | zero => intro y1 y2 σ  h; cases h
  | succ n ih =>
    intro y1 y2 σ  h
    rw [f_X5_judge_L22_s] at h
    refine g_iload_n o (q := 23) 2 rfl rfl dX5_judge_22 rfl ?_
    refine g_aload_n o (q := 24) 0 rfl rfl dX5_judge_23 rfl ?_
    refine gf_X5_17 o (q := 27) kM_50 lk_X5_51 dX5_judge_24 rfl ?_
    refine g_iload_n o (q := 28) 1 rfl rfl dX5_judge_27 rfl ?_
    refine g_iald o (q := 29) kM_59 dX5_judge_28 rfl h (fun j24 hjj24 h => ?_)
    refine g_icmp_ge o (tgt := 66) (q := 32) dX5_judge_29 (by decide) rfl h (fun h => ?_) (fun h => ?_)
    · exact w_X5_judge_J66 hres o hr   h
    · refine g_aload_n o (q := 33) 0 rfl rfl dX5_judge_32 rfl ?_
      refine g_iload_n o (q := 34) 2 rfl rfl dX5_judge_33 rfl ?_
      refine g_cvi o (q := 37) (As := [.int y2]) (rest := []) kv_X5_isCurtain lk_X5_123 kM_50 (by decide) rfl rfl rfl (fun _ _ hc => c_X5_isCurtain o.mk y2 hc) dX5_judge_34 rfl ⟨rfl, rfl, Nat.le_of_ble_eq_true rfl, Nat.le_of_ble_eq_true rfl⟩ (Nat.le_of_ble_eq_true rfl) rfl h (fun r27 σ26 h => ?_)
      refine g_if_eq o (tgt := 66) (q := 40) dX5_judge_37 (by decide) rfl h (fun h => ?_) (fun h => ?_)
      · exact w_X5_judge_J66 hres o hr   h
      · refine g_aload_n o (q := 41) 0 rfl rfl dX5_judge_40 rfl ?_
        refine gf_X5_18 o (q := 44) kM_50 lk_X5_54 dX5_judge_41 rfl ?_
        refine g_bipush o (v := 40) (q := 46) (by decide) dX5_judge_44 rfl ?_
        refine g_iload_n o (q := 47) 1 rfl rfl dX5_judge_46 rfl ?_
        refine g_imul o (q := 48) dX5_judge_47 rfl ?_
        refine g_iload_n o (q := 49) 2 rfl rfl dX5_judge_48 rfl ?_
        refine g_iadd o (q := 50) dX5_judge_49 rfl ?_
        refine g_iald o (q := 51) kM_60 dX5_judge_50 rfl h (fun j28 hjj28 h => ?_)
        refine g_aload_n o (q := 52) 0 rfl rfl dX5_judge_51 rfl ?_
        refine g_iload_n o (q := 53) 2 rfl rfl dX5_judge_52 rfl ?_
        refine g_iconst o (v := 3) (q := 54) (by decide) dX5_judge_53 rfl ?_
        refine g_cvi o (q := 57) (As := [.int y2, .int 3]) (rest := [.int (σ26 60 j28)]) kv_X5_curtainIs lk_X5_98 kM_50 (by decide) rfl rfl rfl (fun _ _ hc => c_X5_curtainIs o.mk y2 3 hc) dX5_judge_54 rfl ⟨rfl, rfl, Nat.le_of_ble_eq_true rfl, Nat.le_of_ble_eq_true rfl⟩ (Nat.le_of_ble_eq_true rfl) rfl h (fun r30 σ29 h => ?_)
        refine g_icmp_ne o (tgt := 66) (q := 60) dX5_judge_57 (by decide) rfl h (fun h => ?_) (fun h => ?_)
        · exact w_X5_judge_J66 hres o hr   h
        · refine g_iinc o (q := 63) (dn := 1) dX5_judge_60 rfl 2 rfl (by decide) (by decide) h (fun x31 => [(2, .int x31), (0, .ref (eA (xE X) 50)), (1, .int y1)]) (fun _ => rfl) (fun x31 h => ?_)
          refine g_goto o (tgt := 22) dX5_judge_63 (by decide) ?_
          refine g_sub (lv' := [(0, .ref (eA (xE X) 50)), (1, .int y1), (2, .int x31)]) [1, 2, 0] rfl ?_
          exact ih y1 x31 σ29  h
set_option maxRecDepth 100000 in
set_option maxHeartbeats 4000000 in
theorem w_X5_judge {X : Cx} {l : Launch} {r : Int32} {σr : Mem} {res : Int32 × Mem} (hres : res = (r, σr)) (o : OK X cX5_judge RX5 sdM 3 rm_X5_judge l) (hr : RI X .int r σr) (x1 : Int32)  {σ : Mem} (h : f_X5_judge x1 σ = some res) : G X σ 0 [(0, .ref (eA (xE X) 50)), (1, .int x1)] [] := by
  unfold f_X5_judge at h
  refine g_aload_n o (q := 1) 0 rfl rfl dX5_judge_0 rfl ?_
  refine g_iload_n o (q := 2) 1 rfl rfl dX5_judge_1 rfl ?_
  refine g_iconst o (v := 1) (q := 3) (by decide) dX5_judge_2 rfl ?_
  refine g_cvi o (q := 6) (As := [.int x1, .int 1]) (rest := []) kv_X5_lacks lk_X5_215 kM_50 (by decide) rfl rfl rfl (fun _ _ hc => c_X5_lacks o.mk x1 1 hc) dX5_judge_3 rfl ⟨rfl, rfl, Nat.le_of_ble_eq_true rfl, Nat.le_of_ble_eq_true rfl⟩ (Nat.le_of_ble_eq_true rfl) rfl h (fun r22 σ21 h => ?_)
  refine g_if_eq o (tgt := 20) (q := 9) dX5_judge_6 (by decide) rfl h (fun h => ?_) (fun h => ?_)
  · refine g_iconst o (v := 0) (q := 21) (by decide) dX5_judge_20 rfl ?_
    refine g_istore_n o (q := 22) dX5_judge_21 rfl rfl (by decide) h (fun x23 => [(2, .int x23), (0, .ref (eA (xE X) 50)), (1, .int x1)]) (fun _ => rfl) (fun x23 h => ?_)
    refine g_sub (lv' := [(0, .ref (eA (xE X) 50)), (1, .int x1), (2, .int x23)]) [1, 2, 0] rfl ?_
    exact w_X5_judge_L22 hres o hr  FU x1 x23 σ21  h
  · refine g_aload_n o (q := 10) 0 rfl rfl dX5_judge_9 rfl ?_
    refine g_aload_n o (q := 11) 0 rfl rfl dX5_judge_10 rfl ?_
    refine g_iload_n o (q := 12) 1 rfl rfl dX5_judge_11 rfl ?_
    refine g_iconst o (v := 1) (q := 13) (by decide) dX5_judge_12 rfl ?_
    refine g_cvi o (q := 16) (As := [.int x1, .int 1]) (rest := [.ref (eA (xE X) 50)]) kv_X5_lacks lk_X5_215 kM_50 (by decide) rfl rfl rfl (fun _ _ hc => c_X5_lacks o.mk x1 1 hc) dX5_judge_13 rfl ⟨rfl, rfl, Nat.le_of_ble_eq_true rfl, Nat.le_of_ble_eq_true rfl⟩ (Nat.le_of_ble_eq_true rfl) rfl h (fun r33 σ32 h => ?_)
    refine g_cvi o (q := 19) (As := [.int r33]) (rest := []) kv_X5_finding lk_X5_66 kM_50 (by decide) rfl rfl rfl (fun _ _ hc => c_X5_finding o.mk r33 hc) dX5_judge_16 rfl ⟨rfl, rfl, Nat.le_of_ble_eq_true rfl, Nat.le_of_ble_eq_true rfl⟩ (Nat.le_of_ble_eq_true rfl) rfl h (fun r35 σ34 h => ?_)
    exact g_iret o hr (h.trans (congrArg some hres)) rfl dX5_judge_19
theorem c_X5_judge {l : Launch} {E : En} {mk : Mem → Mem} (hmk : MK mk sdM) (x1 : Int32)  {σ : Mem} {r : Int32} {τ : Mem} (h : f_X5_judge x1 σ = some (r, τ)) : Met l yX5_judge (Cond.code yX5_judge cX5_judge 3 (some .int) :: wt) rm_X5_judge (PW E mk [.ref (eA E 50), .int x1] σ) (QI E mk r τ) 0 0 (WA E) :=
  met_i (fun E => [.ref (eA E 50), .int x1]) (by decide) hmk (Nat.le_of_ble_eq_true rfl) (fun X o hr => w_X5_judge rfl o hr x1  h)
set_option maxRecDepth 100000 in
set_option maxHeartbeats 4000000 in
theorem w_X5_image {X : Cx} {l : Launch} {r : Int32} {σr : Mem} {res : Int32 × Mem} (hres : res = (r, σr)) (o : OK X cX5_image RX5 sdM 1 rm_X5_image l) (hr : RI X .int r σr)   {σ : Mem} (h : f_X5_image  σ = some res) : G X σ 0 [(0, .ref (eA (xE X) 50))] [] := by
  unfold f_X5_image at h
  refine g_aload_n o (q := 1) 0 rfl rfl dX5_image_0 rfl ?_
  refine gf_X5_0 o (q := 4) kM_50 lk_X5_9 dX5_image_1 rfl ?_
  refine g_aload_n o (q := 5) 0 rfl rfl dX5_image_4 rfl ?_
  refine gf_X5_1 o (q := 8) kM_50 lk_X5_13 dX5_image_5 rfl ?_
  refine g_csv o (q := 11) (As := [.ref (eA (xE X) 51), .ref (eA (xE X) 52)]) (rest := []) kv_X5_copyRow lk_X5_61 rfl (fun _ _ hc => c_X5_copyRow o.mk 51 52 kM_51 kM_52 hc) dX5_image_8 rfl ⟨rfl, rfl, Nat.le_of_ble_eq_true rfl, Nat.le_of_ble_eq_true rfl⟩ (Nat.le_of_ble_eq_true rfl) rfl h (fun _u21 σ21 h => ?_)
  refine g_aload_n o (q := 12) 0 rfl rfl dX5_image_11 rfl ?_
  refine g_iconst o (v := 1) (q := 13) (by decide) dX5_image_12 rfl ?_
  refine gp_X5_3 o (q := 16) kM_50 lk_X5_321 dX5_image_13 rfl (by decide) h (fun σ22 h => ?_)
  refine g_iconst o (v := 1) (q := 17) (by decide) dX5_image_16 rfl ?_
  exact g_iret o hr (h.trans (congrArg some hres)) rfl dX5_image_17
theorem c_X5_image {l : Launch} {E : En} {mk : Mem → Mem} (hmk : MK mk sdM)   {σ : Mem} {r : Int32} {τ : Mem} (h : f_X5_image  σ = some (r, τ)) : Met l yX5_image (Cond.code yX5_image cX5_image 1 (some .int) :: wt) rm_X5_image (PW E mk [.ref (eA E 50)] σ) (QI E mk r τ) 0 0 (WA E) :=
  met_i (fun E => [.ref (eA E 50)]) (by decide) hmk (Nat.le_of_ble_eq_true rfl) (fun X o hr => w_X5_image rfl o hr   h)
set_option maxRecDepth 100000 in
set_option maxHeartbeats 4000000 in
theorem w_X5_undo {X : Cx} {l : Launch} {r : Int32} {σr : Mem} {res : Int32 × Mem} (hres : res = (r, σr)) (o : OK X cX5_undo RX5 sdM 1 rm_X5_undo l) (hr : RI X .int r σr)   {σ : Mem} (h : f_X5_undo  σ = some res) : G X σ 0 [(0, .ref (eA (xE X) 50))] [] := by
  unfold f_X5_undo at h
  refine g_aload_n o (q := 1) 0 rfl rfl dX5_undo_0 rfl ?_
  refine gf_X5_3 o (q := 4) kM_50 lk_X5_321 dX5_undo_1 rfl ?_
  refine g_if_ne o (tgt := 14) (q := 7) dX5_undo_4 (by decide) rfl h (fun h => ?_) (fun h => ?_)
  · refine g_aload_n o (q := 15) 0 rfl rfl dX5_undo_14 rfl ?_
    refine gf_X5_1 o (q := 18) kM_50 lk_X5_13 dX5_undo_15 rfl ?_
    refine g_aload_n o (q := 19) 0 rfl rfl dX5_undo_18 rfl ?_
    refine gf_X5_0 o (q := 22) kM_50 lk_X5_9 dX5_undo_19 rfl ?_
    refine g_csv o (q := 25) (As := [.ref (eA (xE X) 52), .ref (eA (xE X) 51)]) (rest := []) kv_X5_copyRow lk_X5_61 rfl (fun _ _ hc => c_X5_copyRow o.mk 52 51 kM_52 kM_51 hc) dX5_undo_22 rfl ⟨rfl, rfl, Nat.le_of_ble_eq_true rfl, Nat.le_of_ble_eq_true rfl⟩ (Nat.le_of_ble_eq_true rfl) rfl h (fun _u21 σ21 h => ?_)
    refine g_aload_n o (q := 26) 0 rfl rfl dX5_undo_25 rfl ?_
    refine gf_X5_0 o (q := 29) kM_50 lk_X5_9 dX5_undo_26 rfl ?_
    refine g_iconst o (v := 0) (q := 30) (by decide) dX5_undo_29 rfl ?_
    refine g_iald o (q := 31) kM_51 dX5_undo_30 rfl h (fun j22 hjj22 h => ?_)
    exact g_iret o hr (h.trans (congrArg some hres)) rfl dX5_undo_31
  · refine g_aload_n o (q := 8) 0 rfl rfl dX5_undo_7 rfl ?_
    refine g_ldc o (q := 10) lk_X5_65 dX5_undo_8 rfl ?_
    refine g_cvi o (q := 13) (As := [.int (-1000004)]) (rest := []) kv_X5_finding lk_X5_66 kM_50 (by decide) rfl rfl rfl (fun _ _ hc => c_X5_finding o.mk (-1000004) hc) dX5_undo_10 rfl ⟨rfl, rfl, Nat.le_of_ble_eq_true rfl, Nat.le_of_ble_eq_true rfl⟩ (Nat.le_of_ble_eq_true rfl) rfl h (fun r24 σ23 h => ?_)
    exact g_iret o hr (h.trans (congrArg some hres)) rfl dX5_undo_13
theorem c_X5_undo {l : Launch} {E : En} {mk : Mem → Mem} (hmk : MK mk sdM)   {σ : Mem} {r : Int32} {τ : Mem} (h : f_X5_undo  σ = some (r, τ)) : Met l yX5_undo (Cond.code yX5_undo cX5_undo 1 (some .int) :: wt) rm_X5_undo (PW E mk [.ref (eA E 50)] σ) (QI E mk r τ) 0 0 (WA E) :=
  met_i (fun E => [.ref (eA E 50)]) (by decide) hmk (Nat.le_of_ble_eq_true rfl) (fun X o hr => w_X5_undo rfl o hr   h)
set_option maxRecDepth 100000 in
set_option maxHeartbeats 4000000 in
theorem w_X5_tear_J12 {X : Cx} {l : Launch} {r : Int32} {σr : Mem} {res : Int32 × Mem} (hres : res = (r, σr)) (o : OK X cX5_tear RX5 sdM 2 rm_X5_tear l) (hr : RI X .int r σr)   {s0 : Int32}  {σ : Mem} (h : f_X5_tear_J12  s0 σ = some res) : G X σ 12 [(0, .ref (eA (xE X) 50))] [.int s0] := by
  unfold f_X5_tear_J12 at h
  refine g_istore_n o (q := 13) dX5_tear_12 rfl rfl (by decide) h (fun x21 => [(1, .int x21), (0, .ref (eA (xE X) 50))]) (fun _ => rfl) (fun x21 h => ?_)
  refine g_aload_n o (q := 14) 1 rfl rfl dX5_tear_13 rfl ?_
  refine g_iconst o (v := 0) (q := 15) (by decide) dX5_tear_14 rfl ?_
  refine gp_X5_3 o (q := 18) kM_50 lk_X5_321 dX5_tear_15 rfl (by decide) h (fun σ22 h => ?_)
  refine g_iload_n o (q := 19) 0 rfl rfl dX5_tear_18 rfl ?_
  exact g_iret o hr (h.trans (congrArg some hres)) rfl dX5_tear_19
set_option maxRecDepth 100000 in
set_option maxHeartbeats 4000000 in
theorem w_X5_tear {X : Cx} {l : Launch} {r : Int32} {σr : Mem} {res : Int32 × Mem} (hres : res = (r, σr)) (o : OK X cX5_tear RX5 sdM 2 rm_X5_tear l) (hr : RI X .int r σr)   {σ : Mem} (h : f_X5_tear  σ = some res) : G X σ 0 [(0, .ref (eA (xE X) 50))] [] := by
  unfold f_X5_tear at h
  refine g_aload_n o (q := 1) 0 rfl rfl dX5_tear_0 rfl ?_
  refine gf_X5_3 o (q := 4) kM_50 lk_X5_321 dX5_tear_1 rfl ?_
  refine g_if_eq o (tgt := 11) (q := 7) dX5_tear_4 (by decide) rfl h (fun h => ?_) (fun h => ?_)
  · refine g_iconst o (v := 0) (q := 12) (by decide) dX5_tear_11 rfl ?_
    exact w_X5_tear_J12 hres o hr   h
  · refine g_iconst o (v := 1) (q := 8) (by decide) dX5_tear_7 rfl ?_
    refine g_goto o (tgt := 12) dX5_tear_8 (by decide) ?_
    exact w_X5_tear_J12 hres o hr   h
theorem c_X5_tear {l : Launch} {E : En} {mk : Mem → Mem} (hmk : MK mk sdM)   {σ : Mem} {r : Int32} {τ : Mem} (h : f_X5_tear  σ = some (r, τ)) : Met l yX5_tear (Cond.code yX5_tear cX5_tear 2 (some .int) :: wt) rm_X5_tear (PW E mk [.ref (eA E 50)] σ) (QI E mk r τ) 0 0 (WA E) :=
  met_i (fun E => [.ref (eA E 50)]) (by decide) hmk (Nat.le_of_ble_eq_true rfl) (fun X o hr => w_X5_tear rfl o hr   h)
set_option maxRecDepth 100000 in
set_option maxHeartbeats 4000000 in
theorem w_X5_count_J122 {X : Cx} {l : Launch} {r : Int32} {σr : Mem} {res : Int32 × Mem} (hres : res = (r, σr)) (o : OK X cX5_count RX5 sdM 4 rm_X5_count l) (hr : RI X .int r σr) {k98 : Int32 → Int32 → Mem → Option (Int32 × Mem)} (hk98 : ∀ (y2 : Int32) (y3 : Int32) (σ : Mem), k98 y2 y3 σ = some res → G X σ 98 [(0, .ref (eA (xE X) 50)), (2, .int y2), (3, .int y3)] []) {y3 : Int32} {s0 : Int32} {s1 : Int32}  {σ : Mem} (h : f_X5_count_J122 k98 y3 s0 s1 σ = some res) : G X σ 122 [(0, .ref (eA (xE X) 50)), (3, .int y3)] [.int s1, .int s0] := by
  unfold f_X5_count_J122 at h
  refine g_iadd o (q := 123) dX5_count_122 rfl ?_
  refine g_istore_n o (q := 124) dX5_count_123 rfl rfl (by decide) h (fun x33 => [(2, .int x33), (0, .ref (eA (xE X) 50)), (3, .int y3)]) (fun _ => rfl) (fun x33 h => ?_)
  refine g_iinc o (q := 127) (dn := 1) dX5_count_124 rfl 2 rfl (by decide) (by decide) h (fun x34 => [(3, .int x34), (2, .int x33), (0, .ref (eA (xE X) 50))]) (fun _ => rfl) (fun x34 h => ?_)
  refine g_goto o (tgt := 98) dX5_count_127 (by decide) ?_
  refine g_sub (lv' := [(0, .ref (eA (xE X) 50)), (2, .int x33), (3, .int x34)]) [2, 1, 0] rfl ?_
  exact hk98 x33 x34 σ  h
set_option maxRecDepth 100000 in
set_option maxHeartbeats 4000000 in
theorem w_X5_count_L98 {X : Cx} {l : Launch} {r : Int32} {σr : Mem} {res : Int32 × Mem} (hres : res = (r, σr)) (o : OK X cX5_count RX5 sdM 4 rm_X5_count l) (hr : RI X .int r σr)   : ∀ (n : Nat) (y2 : Int32) (y3 : Int32) (σ : Mem), f_X5_count_L98  n y2 y3 σ = some res → G X σ 98 [(0, .ref (eA (xE X) 50)), (2, .int y2), (3, .int y3)] [] := by
  intro n
  induction n with
  | zero => intro y2 y3 σ  h; cases h
  | succ n ih =>
    intro y2 y3 σ  h
    rw [f_X5_count_L98_s] at h
    refine g_iload_n o (q := 99) 2 rfl rfl dX5_count_98 rfl ?_
    refine g_bipush o (v := 10) (q := 101) (by decide) dX5_count_99 rfl ?_
    refine g_icmp_ge o (tgt := 130) (q := 104) dX5_count_101 (by decide) rfl h (fun h => ?_) (fun h => ?_)
    · refine g_iload_n o (q := 131) 1 rfl rfl dX5_count_130 rfl ?_
      exact g_iret o hr (h.trans (congrArg some hres)) rfl dX5_count_131
    · refine g_iload_n o (q := 105) 1 rfl rfl dX5_count_104 rfl ?_
      refine g_aload_n o (q := 106) 0 rfl rfl dX5_count_105 rfl ?_
      refine gf_X5_0 o (q := 109) kM_50 lk_X5_9 dX5_count_106 rfl ?_
      refine g_bipush o (v := 12) (q := 111) (by decide) dX5_count_109 rfl ?_
      refine g_iload_n o (q := 112) 2 rfl rfl dX5_count_111 rfl ?_
      refine g_iadd o (q := 113) dX5_count_112 rfl ?_
      refine g_iald o (q := 114) kM_51 dX5_count_113 rfl h (fun j32 hjj32 h => ?_)
      refine g_if_ge o (tgt := 121) (q := 117) dX5_count_114 (by decide) rfl h (fun h => ?_) (fun h => ?_)
      · refine g_iconst o (v := 1) (q := 122) (by decide) dX5_count_121 rfl ?_
        refine g_sub (lv' := [(0, .ref (eA (xE X) 50)), (3, .int y3)]) [0, 2] rfl ?_
        exact w_X5_count_J122 hres o hr ih  h
      · refine g_iconst o (v := 0) (q := 118) (by decide) dX5_count_117 rfl ?_
        refine g_goto o (tgt := 122) dX5_count_118 (by decide) ?_
        refine g_sub (lv' := [(0, .ref (eA (xE X) 50)), (3, .int y3)]) [0, 2] rfl ?_
        exact w_X5_count_J122 hres o hr ih  h
set_option maxRecDepth 100000 in
set_option maxHeartbeats 4000000 in
theorem w_X5_count {X : Cx} {l : Launch} {r : Int32} {σr : Mem} {res : Int32 × Mem} (hres : res = (r, σr)) (o : OK X cX5_count RX5 sdM 4 rm_X5_count l) (hr : RI X .int r σr) (x1 : Int32)  {σ : Mem} (h : f_X5_count x1 σ = some res) : G X σ 0 [(0, .ref (eA (xE X) 50)), (1, .int x1)] [] := by
  unfold f_X5_count at h
  refine g_iconst o (v := 0) (q := 1) (by decide) dX5_count_0 rfl ?_
  refine g_istore_n o (q := 2) dX5_count_1 rfl rfl (by decide) h (fun x21 => [(2, .int x21), (0, .ref (eA (xE X) 50)), (1, .int x1)]) (fun _ => rfl) (fun x21 h => ?_)
  refine g_iload_n o (q := 3) 2 rfl rfl dX5_count_2 rfl ?_
  refine g_swIn o (tgt := 48) (off := 45) 0 dX5_count_3 (by decide) (by decide) (by decide +kernel) (by decide) h (fun h => ?_) (fun c0 h => ?_)
  · refine g_aload_n o (q := 49) 1 rfl rfl dX5_count_48 rfl ?_
    refine gf_X5_0 o (q := 52) kM_50 lk_X5_9 dX5_count_49 rfl ?_
    refine g_iconst o (v := 0) (q := 53) (by decide) dX5_count_52 rfl ?_
    refine g_iald o (q := 54) kM_51 dX5_count_53 rfl h (fun j22 hjj22 h => ?_)
    exact g_iret o hr (h.trans (congrArg some hres)) rfl dX5_count_54
  refine g_swIn o (tgt := 55) (off := 52) 1 dX5_count_3 (by decide) (by decide) (by decide +kernel) (by decide) h (fun h => ?_) (fun c1 h => ?_)
  · refine g_aload_n o (q := 56) 1 rfl rfl dX5_count_55 rfl ?_
    refine gf_X5_0 o (q := 59) kM_50 lk_X5_9 dX5_count_56 rfl ?_
    refine g_iconst o (v := 1) (q := 60) (by decide) dX5_count_59 rfl ?_
    refine g_iald o (q := 61) kM_51 dX5_count_60 rfl h (fun j23 hjj23 h => ?_)
    exact g_iret o hr (h.trans (congrArg some hres)) rfl dX5_count_61
  refine g_swIn o (tgt := 62) (off := 59) 2 dX5_count_3 (by decide) (by decide) (by decide +kernel) (by decide) h (fun h => ?_) (fun c2 h => ?_)
  · refine g_aload_n o (q := 63) 1 rfl rfl dX5_count_62 rfl ?_
    refine gf_X5_0 o (q := 66) kM_50 lk_X5_9 dX5_count_63 rfl ?_
    refine g_iconst o (v := 4) (q := 67) (by decide) dX5_count_66 rfl ?_
    refine g_iald o (q := 68) kM_51 dX5_count_67 rfl h (fun j24 hjj24 h => ?_)
    exact g_iret o hr (h.trans (congrArg some hres)) rfl dX5_count_68
  refine g_swIn o (tgt := 69) (off := 66) 3 dX5_count_3 (by decide) (by decide) (by decide +kernel) (by decide) h (fun h => ?_) (fun c3 h => ?_)
  · refine g_aload_n o (q := 70) 1 rfl rfl dX5_count_69 rfl ?_
    refine gf_X5_0 o (q := 73) kM_50 lk_X5_9 dX5_count_70 rfl ?_
    refine g_iconst o (v := 5) (q := 74) (by decide) dX5_count_73 rfl ?_
    refine g_iald o (q := 75) kM_51 dX5_count_74 rfl h (fun j25 hjj25 h => ?_)
    exact g_iret o hr (h.trans (congrArg some hres)) rfl dX5_count_75
  refine g_swIn o (tgt := 76) (off := 73) 4 dX5_count_3 (by decide) (by decide) (by decide +kernel) (by decide) h (fun h => ?_) (fun c4 h => ?_)
  · refine g_aload_n o (q := 77) 1 rfl rfl dX5_count_76 rfl ?_
    refine g_cvi o (q := 80) (As := []) (rest := []) kv_X5_downOnes lk_X5_170 kM_50 (by decide) rfl rfl rfl (fun _ _ hc => c_X5_downOnes o.mk  hc) dX5_count_77 rfl ⟨rfl, rfl, Nat.le_of_ble_eq_true rfl, Nat.le_of_ble_eq_true rfl⟩ (Nat.le_of_ble_eq_true rfl) rfl h (fun r27 σ26 h => ?_)
    refine g_csi o (q := 83) (As := [.int r27]) (rest := []) kv_X5_bits lk_X5_101 rfl (fun _ _ hc => c_X5_bits o.mk r27 hc) dX5_count_80 rfl ⟨rfl, rfl, Nat.le_of_ble_eq_true rfl, Nat.le_of_ble_eq_true rfl⟩ (Nat.le_of_ble_eq_true rfl) rfl h (fun r29 σ28 h => ?_)
    exact g_iret o hr (h.trans (congrArg some hres)) rfl dX5_count_83
  refine g_swIn o (tgt := 84) (off := 81) 5 dX5_count_3 (by decide) (by decide) (by decide +kernel) (by decide) h (fun h => ?_) (fun c5 h => ?_)
  · refine g_aload_n o (q := 85) 1 rfl rfl dX5_count_84 rfl ?_
    refine gf_X5_6 o (q := 88) kM_50 lk_X5_227 dX5_count_85 rfl ?_
    exact g_iret o hr (h.trans (congrArg some hres)) rfl dX5_count_88
  refine g_swIn o (tgt := 89) (off := 86) 6 dX5_count_3 (by decide) (by decide) (by decide +kernel) (by decide) h (fun h => ?_) (fun c6 h => ?_)
  · refine g_aload_n o (q := 90) 1 rfl rfl dX5_count_89 rfl ?_
    refine gf_X5_0 o (q := 93) kM_50 lk_X5_9 dX5_count_90 rfl ?_
    refine g_iconst o (v := 2) (q := 94) (by decide) dX5_count_93 rfl ?_
    refine g_iald o (q := 95) kM_51 dX5_count_94 rfl h (fun j30 hjj30 h => ?_)
    exact g_iret o hr (h.trans (congrArg some hres)) rfl dX5_count_95
  refine g_swIn o (tgt := 96) (off := 93) 7 dX5_count_3 (by decide) (by decide) (by decide +kernel) (by decide) h (fun h => ?_) (fun c7 h => ?_)
  · refine g_iconst o (v := 0) (q := 97) (by decide) dX5_count_96 rfl ?_
    refine g_istore_n o (q := 98) dX5_count_97 rfl rfl (by decide) h (fun x31 => [(3, .int x31), (2, .int x21), (0, .ref (eA (xE X) 50)), (1, .int x1)]) (fun _ => rfl) (fun x31 h => ?_)
    refine g_sub (lv' := [(0, .ref (eA (xE X) 50)), (2, .int x21), (3, .int x31)]) [2, 1, 0] rfl ?_
    exact w_X5_count_L98 hres o hr  FU x21 x31 σ  h
  refine g_swOut o (tgt := 132) dX5_count_3 (sw_out (by decide) (by decide) (fun k h1 h2 => by rcases (show k = 0 ∨ k = 1 ∨ k = 2 ∨ k = 3 ∨ k = 4 ∨ k = 5 ∨ k = 6 ∨ k = 7 by omega) with rfl | rfl | rfl | rfl | rfl | rfl | rfl | rfl <;> assumption)) (by decide) ?_
  refine g_aload_n o (q := 133) 1 rfl rfl dX5_count_132 rfl ?_
  refine g_ldc o (q := 135) lk_X5_60 dX5_count_133 rfl ?_
  refine g_cvi o (q := 138) (As := [.int (-1000001)]) (rest := []) kv_X5_finding lk_X5_66 kM_50 (by decide) rfl rfl rfl (fun _ _ hc => c_X5_finding o.mk (-1000001) hc) dX5_count_135 rfl ⟨rfl, rfl, Nat.le_of_ble_eq_true rfl, Nat.le_of_ble_eq_true rfl⟩ (Nat.le_of_ble_eq_true rfl) rfl h (fun r36 σ35 h => ?_)
  exact g_iret o hr (h.trans (congrArg some hres)) rfl dX5_count_138
theorem c_X5_count {l : Launch} {E : En} {mk : Mem → Mem} (hmk : MK mk sdM) (x1 : Int32)  {σ : Mem} {r : Int32} {τ : Mem} (h : f_X5_count x1 σ = some (r, τ)) : Met l yX5_count (Cond.code yX5_count cX5_count 4 (some .int) :: wt) rm_X5_count (PW E mk [.ref (eA E 50), .int x1] σ) (QI E mk r τ) 0 0 (WA E) :=
  met_i (fun E => [.ref (eA E 50), .int x1]) (by decide) hmk (Nat.le_of_ble_eq_true rfl) (fun X o hr => w_X5_count rfl o hr x1  h)
set_option maxRecDepth 100000 in
set_option maxHeartbeats 4000000 in
theorem w_X5_status {X : Cx} {l : Launch} {r : Int32} {σr : Mem} {res : Int32 × Mem} (hres : res = (r, σr)) (o : OK X cX5_status RX5 sdM 2 rm_X5_status l) (hr : RI X .int r σr) (x1 : Int32)  {σ : Mem} (h : f_X5_status x1 σ = some res) : G X σ 0 [(0, .ref (eA (xE X) 50)), (1, .int x1)] [] := by
  unfold f_X5_status at h
  refine g_iload_n o (q := 1) 1 rfl rfl dX5_status_0 rfl ?_
  refine g_iconst o (v := (-1)) (q := 2) (by decide) dX5_status_1 rfl ?_
  refine g_bipush o (v := 6) (q := 4) (by decide) dX5_status_2 rfl ?_
  refine g_csi o (q := 7) (As := [.int x1, .int (-1), .int 6]) (rest := []) kv_X5_within lk_X5_70 rfl (fun _ _ hc => c_X5_within o.mk x1 (-1) 6 hc) dX5_status_4 rfl ⟨rfl, rfl, Nat.le_of_ble_eq_true rfl, Nat.le_of_ble_eq_true rfl⟩ (Nat.le_of_ble_eq_true rfl) rfl h (fun r22 σ21 h => ?_)
  refine g_if_eq o (tgt := 21) (q := 10) dX5_status_7 (by decide) rfl h (fun h => ?_) (fun h => ?_)
  · refine g_aload_n o (q := 22) 0 rfl rfl dX5_status_21 rfl ?_
    refine g_ldc o (q := 24) lk_X5_60 dX5_status_22 rfl ?_
    refine g_cvi o (q := 27) (As := [.int (-1000001)]) (rest := []) kv_X5_finding lk_X5_66 kM_50 (by decide) rfl rfl rfl (fun _ _ hc => c_X5_finding o.mk (-1000001) hc) dX5_status_24 rfl ⟨rfl, rfl, Nat.le_of_ble_eq_true rfl, Nat.le_of_ble_eq_true rfl⟩ (Nat.le_of_ble_eq_true rfl) rfl h (fun r24 σ23 h => ?_)
    exact g_iret o hr (h.trans (congrArg some hres)) rfl dX5_status_27
  · refine g_aload_n o (q := 11) 0 rfl rfl dX5_status_10 rfl ?_
    refine gf_X5_4 o (q := 14) kM_50 lk_X5_19 dX5_status_11 rfl ?_
    refine g_iload_n o (q := 15) 1 rfl rfl dX5_status_14 rfl ?_
    refine g_iconst o (v := 1) (q := 16) (by decide) dX5_status_15 rfl ?_
    refine g_iadd o (q := 17) dX5_status_16 rfl ?_
    refine g_iald o (q := 18) kM_54 dX5_status_17 rfl h (fun j25 hjj25 h => ?_)
    refine g_goto o (tgt := 27) dX5_status_18 (by decide) ?_
    exact g_iret o hr (h.trans (congrArg some hres)) rfl dX5_status_27
theorem c_X5_status {l : Launch} {E : En} {mk : Mem → Mem} (hmk : MK mk sdM) (x1 : Int32)  {σ : Mem} {r : Int32} {τ : Mem} (h : f_X5_status x1 σ = some (r, τ)) : Met l yX5_status (Cond.code yX5_status cX5_status 2 (some .int) :: wt) rm_X5_status (PW E mk [.ref (eA E 50), .int x1] σ) (QI E mk r τ) 0 0 (WA E) :=
  met_i (fun E => [.ref (eA E 50), .int x1]) (by decide) hmk (Nat.le_of_ble_eq_true rfl) (fun X o hr => w_X5_status rfl o hr x1  h)
