set_option maxRecDepth 100000 in
set_option maxHeartbeats 4000000 in
theorem w_X5_kindFor_J15 {X : Cx} {l : Launch} {r : Int32} {σr : Mem} {res : Int32 × Mem} (hres : res = (r, σr)) (o : OK X cX5_kindFor RX5 sdM 9 rm_X5_kindFor l) (hr : RI X .int r σr)     {σ : Mem} (h : f_X5_kindFor_J15   σ = some res) : G X σ 15 [(0, .ref (eA (xE X) 50))] [] := by
  unfold f_X5_kindFor_J15 at h
  refine g_aload_n o (q := 16) 0 rfl rfl dX5_kindFor_15 rfl ?_
  refine g_ldc o (q := 18) lk_X5_60 dX5_kindFor_16 rfl ?_
  refine g_cvi o (q := 21) (As := [.int (-1000001)]) (rest := []) kv_X5_finding lk_X5_66 kM_50 (by decide) rfl rfl rfl (fun _ _ hc => c_X5_finding o.mk (-1000001) hc) dX5_kindFor_18 rfl ⟨rfl, rfl, Nat.le_of_ble_eq_true rfl, Nat.le_of_ble_eq_true rfl⟩ (Nat.le_of_ble_eq_true rfl) rfl h (fun r24 σ23 h => ?_)
  exact g_iret o hr (h.trans (congrArg some hres)) rfl dX5_kindFor_21
set_option maxRecDepth 100000 in
set_option maxHeartbeats 4000000 in
theorem w_X5_kindFor_J87 {X : Cx} {l : Launch} {r : Int32} {σr : Mem} {res : Int32 × Mem} (hres : res = (r, σr)) (o : OK X cX5_kindFor RX5 sdM 9 rm_X5_kindFor l) (hr : RI X .int r σr) {k45 : Int32 → Int32 → Int32 → Int32 → Int32 → Int32 → Int32 → Mem → Option (Int32 × Mem)} (hk45 : ∀ (y1 : Int32) (y2 : Int32) (y3 : Int32) (y4 : Int32) (y5 : Int32) (y6 : Int32) (y7 : Int32) (σ : Mem), k45 y1 y2 y3 y4 y5 y6 y7 σ = some res → G X σ 45 [(0, .ref (eA (xE X) 50)), (1, .int y1), (2, .int y2), (3, .int y3), (4, .int y4), (5, .int y5), (6, .int y6), (7, .int y7)] []) {y1 : Int32} {y2 : Int32} {y3 : Int32} {y4 : Int32} {y5 : Int32} {y6 : Int32} {y7 : Int32}  {σ : Mem} (h : f_X5_kindFor_J87 k45 y1 y2 y3 y4 y5 y6 y7 σ = some res) : G X σ 87 [(0, .ref (eA (xE X) 50)), (1, .int y1), (2, .int y2), (3, .int y3), (4, .int y4), (5, .int y5), (6, .int y6), (7, .int y7)] [] := by
  unfold f_X5_kindFor_J87 at h
  refine g_iinc o (q := 90) (dn := 1) dX5_kindFor_87 rfl 7 rfl (by decide) (by decide) h (fun x44 => [(7, .int x44), (0, .ref (eA (xE X) 50)), (1, .int y1), (2, .int y2), (3, .int y3), (4, .int y4), (5, .int y5), (6, .int y6)]) (fun _ => rfl) (fun x44 h => ?_)
  refine g_goto o (tgt := 45) dX5_kindFor_90 (by decide) ?_
  refine g_sub (lv' := [(0, .ref (eA (xE X) 50)), (1, .int y1), (2, .int y2), (3, .int y3), (4, .int y4), (5, .int y5), (6, .int y6), (7, .int x44)]) [1, 2, 3, 4, 5, 6, 7, 0] rfl ?_
  exact hk45 y1 y2 y3 y4 y5 y6 x44 σ  h
set_option maxRecDepth 100000 in
set_option maxHeartbeats 4000000 in
theorem w_X5_kindFor_L45 {X : Cx} {l : Launch} {r : Int32} {σr : Mem} {res : Int32 × Mem} (hres : res = (r, σr)) (o : OK X cX5_kindFor RX5 sdM 9 rm_X5_kindFor l) (hr : RI X .int r σr)   : ∀ (n : Nat) (y1 : Int32) (y2 : Int32) (y3 : Int32) (y4 : Int32) (y5 : Int32) (y6 : Int32) (y7 : Int32) (σ : Mem), f_X5_kindFor_L45  n y1 y2 y3 y4 y5 y6 y7 σ = some res → G X σ 45 [(0, .ref (eA (xE X) 50)), (1, .int y1), (2, .int y2), (3, .int y3), (4, .int y4), (5, .int y5), (6, .int y6), (7, .int y7)] [] := by
  intro n
  induction n with
  | zero => intro y1 y2 y3 y4 y5 y6 y7 σ  h; cases h
  | succ n ih =>
    intro y1 y2 y3 y4 y5 y6 y7 σ  h
    rw [f_X5_kindFor_L45_s] at h
    refine g_iload o (q := 47) 7 rfl dX5_kindFor_45 rfl ?_
    refine g_bipush o (v := 6) (q := 49) (by decide) dX5_kindFor_47 rfl ?_
    refine g_icmp_gt o (tgt := 93) (q := 52) dX5_kindFor_49 (by decide) rfl h (fun h => ?_) (fun h => ?_)
    · refine g_aload_n o (q := 94) 0 rfl rfl dX5_kindFor_93 rfl ?_
      refine gf_X5_0 o (q := 97) kM_50 lk_X5_9 dX5_kindFor_94 rfl ?_
      refine g_iload_n o (q := 98) 3 rfl rfl dX5_kindFor_97 rfl ?_
      refine g_iload o (q := 100) 4 rfl dX5_kindFor_98 rfl ?_
      refine g_iast o (q := 101) kM_51 dX5_kindFor_100 rfl h (fun j35 σ36 h => ?_)
      refine g_iload o (q := 103) 5 rfl dX5_kindFor_101 rfl ?_
      exact g_iret o hr (h.trans (congrArg some hres)) rfl dX5_kindFor_103
    · refine g_aload_n o (q := 53) 0 rfl rfl dX5_kindFor_52 rfl ?_
      refine gf_X5_0 o (q := 56) kM_50 lk_X5_9 dX5_kindFor_53 rfl ?_
      refine g_iload_n o (q := 57) 3 rfl rfl dX5_kindFor_56 rfl ?_
      refine g_iload o (q := 59) 7 rfl dX5_kindFor_57 rfl ?_
      refine g_iast o (q := 60) kM_51 dX5_kindFor_59 rfl h (fun j37 σ38 h => ?_)
      refine g_aload_n o (q := 61) 0 rfl rfl dX5_kindFor_60 rfl ?_
      refine g_iload_n o (q := 62) 1 rfl rfl dX5_kindFor_61 rfl ?_
      refine g_iconst o (v := 1) (q := 63) (by decide) dX5_kindFor_62 rfl ?_
      refine g_csi o (q := 66) (As := [.int y1, .int 1]) (rest := [.ref (eA (xE X) 50)]) kv_X5_curtainAt lk_X5_85 rfl (fun _ _ hc => c_X5_curtainAt o.mk y1 1 hc) dX5_kindFor_63 rfl ⟨rfl, rfl, Nat.le_of_ble_eq_true rfl, Nat.le_of_ble_eq_true rfl⟩ (Nat.le_of_ble_eq_true rfl) rfl h (fun r40 σ39 h => ?_)
      refine g_iload_n o (q := 67) 2 rfl rfl dX5_kindFor_66 rfl ?_
      refine g_cvi o (q := 70) (As := [.int r40, .int y2]) (rest := []) kv_X5_behind lk_X5_185 kM_50 (by decide) rfl rfl rfl (fun _ _ hc => c_X5_behind o.mk r40 y2 hc) dX5_kindFor_67 rfl ⟨rfl, rfl, Nat.le_of_ble_eq_true rfl, Nat.le_of_ble_eq_true rfl⟩ (Nat.le_of_ble_eq_true rfl) rfl h (fun r42 σ41 h => ?_)
      refine g_istore o (q := 72) dX5_kindFor_70 rfl (by decide) h (fun x43 => [(8, .int x43), (0, .ref (eA (xE X) 50)), (1, .int y1), (2, .int y2), (3, .int y3), (4, .int y4), (5, .int y5), (6, .int y6), (7, .int y7)]) (fun _ => rfl) (fun x43 h => ?_)
      refine g_iload o (q := 74) 0 rfl dX5_kindFor_72 rfl ?_
      refine g_iload o (q := 76) 7 rfl dX5_kindFor_74 rfl ?_
      refine g_icmp_le o (tgt := 87) (q := 79) dX5_kindFor_76 (by decide) rfl h (fun h => ?_) (fun h => ?_)
      · refine g_sub (lv' := [(0, .ref (eA (xE X) 50)), (1, .int y1), (2, .int y2), (3, .int y3), (4, .int y4), (5, .int y5), (6, .int y6), (7, .int y7)]) [1, 2, 3, 4, 5, 6, 7, 8] rfl ?_
        exact w_X5_kindFor_J87 hres o hr ih  h
      · refine g_iload o (q := 81) 8 rfl dX5_kindFor_79 rfl ?_
        refine g_istore o (q := 83) dX5_kindFor_81 rfl (by decide) h (fun x45 => [(5, .int x45), (8, .int x43), (0, .ref (eA (xE X) 50)), (1, .int y1), (2, .int y2), (3, .int y3), (4, .int y4), (6, .int y6), (7, .int y7)]) (fun _ => rfl) (fun x45 h => ?_)
        refine g_iload o (q := 85) 1 rfl dX5_kindFor_83 rfl ?_
        refine g_istore o (q := 87) dX5_kindFor_85 rfl (by decide) h (fun x46 => [(6, .int x46), (5, .int x45), (8, .int x43), (0, .ref (eA (xE X) 50)), (1, .int y1), (2, .int y2), (3, .int y3), (4, .int y4), (7, .int y7)]) (fun _ => rfl) (fun x46 h => ?_)
        refine g_sub (lv' := [(0, .ref (eA (xE X) 50)), (1, .int y1), (2, .int y2), (3, .int y3), (4, .int y4), (5, .int x45), (6, .int x46), (7, .int y7)]) [3, 4, 5, 6, 7, 1, 0, 8] rfl ?_
        exact w_X5_kindFor_J87 hres o hr ih  h
set_option maxRecDepth 100000 in
set_option maxHeartbeats 4000000 in
theorem w_X5_kindFor {X : Cx} {l : Launch} {r : Int32} {σr : Mem} {res : Int32 × Mem} (hres : res = (r, σr)) (o : OK X cX5_kindFor RX5 sdM 9 rm_X5_kindFor l) (hr : RI X .int r σr) (x1 : Int32) (x2 : Int32)  {σ : Mem} (h : f_X5_kindFor x1 x2 σ = some res) : G X σ 0 [(0, .ref (eA (xE X) 50)), (1, .int x1), (2, .int x2)] [] := by
  unfold f_X5_kindFor at h
  refine g_aload_n o (q := 1) 0 rfl rfl dX5_kindFor_0 rfl ?_
  refine g_iload_n o (q := 2) 1 rfl rfl dX5_kindFor_1 rfl ?_
  refine g_cvi o (q := 5) (As := [.int x1]) (rest := []) kv_X5_isCurtain lk_X5_123 kM_50 (by decide) rfl rfl rfl (fun _ _ hc => c_X5_isCurtain o.mk x1 hc) dX5_kindFor_2 rfl ⟨rfl, rfl, Nat.le_of_ble_eq_true rfl, Nat.le_of_ble_eq_true rfl⟩ (Nat.le_of_ble_eq_true rfl) rfl h (fun r22 σ21 h => ?_)
  refine g_if_eq o (tgt := 15) (q := 8) dX5_kindFor_5 (by decide) rfl h (fun h => ?_) (fun h => ?_)
  · refine g_sub (lv' := [(0, .ref (eA (xE X) 50))]) [0] rfl ?_
    exact w_X5_kindFor_J15 hres o hr   h
  · refine g_iload_n o (q := 9) 2 rfl rfl dX5_kindFor_8 rfl ?_
    refine g_csi o (q := 12) (As := [.int x2]) (rest := []) kv_X5_isThought lk_X5_195 rfl (fun _ _ hc => c_X5_isThought o.mk x2 hc) dX5_kindFor_9 rfl ⟨rfl, rfl, Nat.le_of_ble_eq_true rfl, Nat.le_of_ble_eq_true rfl⟩ (Nat.le_of_ble_eq_true rfl) rfl h (fun r26 σ25 h => ?_)
    refine g_if_ne o (tgt := 22) (q := 15) dX5_kindFor_12 (by decide) rfl h (fun h => ?_) (fun h => ?_)
    · refine g_iload_n o (q := 23) 1 rfl rfl dX5_kindFor_22 rfl ?_
      refine g_iconst o (v := 0) (q := 24) (by decide) dX5_kindFor_23 rfl ?_
      refine g_csi o (q := 27) (As := [.int x1, .int 0]) (rest := []) kv_X5_curtainAt lk_X5_85 rfl (fun _ _ hc => c_X5_curtainAt o.mk x1 0 hc) dX5_kindFor_24 rfl ⟨rfl, rfl, Nat.le_of_ble_eq_true rfl, Nat.le_of_ble_eq_true rfl⟩ (Nat.le_of_ble_eq_true rfl) rfl h (fun r28 σ27 h => ?_)
      refine g_istore_n o (q := 28) dX5_kindFor_27 rfl rfl (by decide) h (fun x29 => [(3, .int x29), (0, .ref (eA (xE X) 50)), (1, .int x1), (2, .int x2)]) (fun _ => rfl) (fun x29 h => ?_)
      refine g_aload_n o (q := 29) 1 rfl rfl dX5_kindFor_28 rfl ?_
      refine gf_X5_0 o (q := 32) kM_50 lk_X5_9 dX5_kindFor_29 rfl ?_
      refine g_iload_n o (q := 33) 0 rfl rfl dX5_kindFor_32 rfl ?_
      refine g_iald o (q := 34) kM_51 dX5_kindFor_33 rfl h (fun j30 hjj30 h => ?_)
      refine g_istore o (q := 36) dX5_kindFor_34 rfl (by decide) h (fun x31 => [(4, .int x31), (3, .int x29), (0, .ref (eA (xE X) 50)), (1, .int x1), (2, .int x2)]) (fun _ => rfl) (fun x31 h => ?_)
      refine g_iconst o (v := 0) (q := 37) (by decide) dX5_kindFor_36 rfl ?_
      refine g_istore o (q := 39) dX5_kindFor_37 rfl (by decide) h (fun x32 => [(5, .int x32), (4, .int x31), (3, .int x29), (0, .ref (eA (xE X) 50)), (1, .int x1), (2, .int x2)]) (fun _ => rfl) (fun x32 h => ?_)
      refine g_iconst o (v := (-1)) (q := 40) (by decide) dX5_kindFor_39 rfl ?_
      refine g_istore o (q := 42) dX5_kindFor_40 rfl (by decide) h (fun x33 => [(6, .int x33), (5, .int x32), (4, .int x31), (3, .int x29), (0, .ref (eA (xE X) 50)), (1, .int x1), (2, .int x2)]) (fun _ => rfl) (fun x33 h => ?_)
      refine g_iconst o (v := 0) (q := 43) (by decide) dX5_kindFor_42 rfl ?_
      refine g_istore o (q := 45) dX5_kindFor_43 rfl (by decide) h (fun x34 => [(7, .int x34), (6, .int x33), (5, .int x32), (4, .int x31), (3, .int x29), (0, .ref (eA (xE X) 50)), (1, .int x1), (2, .int x2)]) (fun _ => rfl) (fun x34 h => ?_)
      refine g_sub (lv' := [(0, .ref (eA (xE X) 50)), (1, .int x1), (2, .int x2), (3, .int x29), (4, .int x31), (5, .int x32), (6, .int x33), (7, .int x34)]) [5, 6, 7, 4, 3, 2, 1, 0] rfl ?_
      exact w_X5_kindFor_L45 hres o hr  FU x1 x2 x29 x31 x32 x33 x34 σ27  h
    · refine g_sub (lv' := [(0, .ref (eA (xE X) 50))]) [0] rfl ?_
      exact w_X5_kindFor_J15 hres o hr   h
theorem c_X5_kindFor {l : Launch} {E : En} {mk : Mem → Mem} (hmk : MK mk sdM) (x1 : Int32) (x2 : Int32)  {σ : Mem} {r : Int32} {τ : Mem} (h : f_X5_kindFor x1 x2 σ = some (r, τ)) : Met l yX5_kindFor (Cond.code yX5_kindFor cX5_kindFor 9 (some .int) :: wt) rm_X5_kindFor (PW E mk [.ref (eA E 50), .int x1, .int x2] σ) (QI E mk r τ) 0 0 (WA E) :=
  met_i (fun E => [.ref (eA E 50), .int x1, .int x2]) (by decide) hmk (Nat.le_of_ble_eq_true rfl) (fun X o hr => w_X5_kindFor rfl o hr x1 x2  h)
set_option maxRecDepth 100000 in
set_option maxHeartbeats 4000000 in
theorem w_X5_moodFor_J15 {X : Cx} {l : Launch} {r : Int32} {σr : Mem} {res : Int32 × Mem} (hres : res = (r, σr)) (o : OK X cX5_moodFor RX5 sdM 8 rm_X5_moodFor l) (hr : RI X .int r σr)     {σ : Mem} (h : f_X5_moodFor_J15   σ = some res) : G X σ 15 [(0, .ref (eA (xE X) 50))] [] := by
  unfold f_X5_moodFor_J15 at h
  refine g_aload_n o (q := 16) 0 rfl rfl dX5_moodFor_15 rfl ?_
  refine g_ldc o (q := 18) lk_X5_60 dX5_moodFor_16 rfl ?_
  refine g_cvi o (q := 21) (As := [.int (-1000001)]) (rest := []) kv_X5_finding lk_X5_66 kM_50 (by decide) rfl rfl rfl (fun _ _ hc => c_X5_finding o.mk (-1000001) hc) dX5_moodFor_18 rfl ⟨rfl, rfl, Nat.le_of_ble_eq_true rfl, Nat.le_of_ble_eq_true rfl⟩ (Nat.le_of_ble_eq_true rfl) rfl h (fun r24 σ23 h => ?_)
  exact g_iret o hr (h.trans (congrArg some hres)) rfl dX5_moodFor_21
set_option maxRecDepth 100000 in
set_option maxHeartbeats 4000000 in
theorem w_X5_moodFor_J86 {X : Cx} {l : Launch} {r : Int32} {σr : Mem} {res : Int32 × Mem} (hres : res = (r, σr)) (o : OK X cX5_moodFor RX5 sdM 8 rm_X5_moodFor l) (hr : RI X .int r σr) {k51 : Int32 → Int32 → Int32 → Int32 → Int32 → Int32 → Int32 → Mem → Option (Int32 × Mem)} (hk51 : ∀ (y1 : Int32) (y2 : Int32) (y3 : Int32) (y4 : Int32) (y5 : Int32) (y6 : Int32) (y7 : Int32) (σ : Mem), k51 y1 y2 y3 y4 y5 y6 y7 σ = some res → G X σ 51 [(0, .ref (eA (xE X) 50)), (1, .int y1), (2, .int y2), (3, .int y3), (4, .int y4), (5, .int y5), (6, .int y6), (7, .int y7)] []) {y1 : Int32} {y2 : Int32} {y3 : Int32} {y4 : Int32} {y5 : Int32} {y7 : Int32} {s0 : Int32}  {σ : Mem} (h : f_X5_moodFor_J86 k51 y1 y2 y3 y4 y5 y7 s0 σ = some res) : G X σ 86 [(0, .ref (eA (xE X) 50)), (1, .int y1), (2, .int y2), (3, .int y3), (4, .int y4), (5, .int y5), (7, .int y7)] [.int s0] := by
  unfold f_X5_moodFor_J86 at h
  refine g_istore o (q := 88) dX5_moodFor_86 rfl (by decide) h (fun x47 => [(6, .int x47), (0, .ref (eA (xE X) 50)), (1, .int y1), (2, .int y2), (3, .int y3), (4, .int y4), (5, .int y5), (7, .int y7)]) (fun _ => rfl) (fun x47 h => ?_)
  refine g_iinc o (q := 91) (dn := (-1)) dX5_moodFor_88 rfl 7 rfl (by decide) (by decide) h (fun x48 => [(7, .int x48), (6, .int x47), (0, .ref (eA (xE X) 50)), (1, .int y1), (2, .int y2), (3, .int y3), (4, .int y4), (5, .int y5)]) (fun _ => rfl) (fun x48 h => ?_)
  refine g_goto o (tgt := 51) dX5_moodFor_91 (by decide) ?_
  refine g_sub (lv' := [(0, .ref (eA (xE X) 50)), (1, .int y1), (2, .int y2), (3, .int y3), (4, .int y4), (5, .int y5), (6, .int x47), (7, .int x48)]) [2, 3, 4, 5, 6, 7, 1, 0] rfl ?_
  exact hk51 y1 y2 y3 y4 y5 x47 x48 σ  h
set_option maxRecDepth 100000 in
set_option maxHeartbeats 4000000 in
theorem w_X5_moodFor_L51 {X : Cx} {l : Launch} {r : Int32} {σr : Mem} {res : Int32 × Mem} (hres : res = (r, σr)) (o : OK X cX5_moodFor RX5 sdM 8 rm_X5_moodFor l) (hr : RI X .int r σr)   : ∀ (n : Nat) (y1 : Int32) (y2 : Int32) (y3 : Int32) (y4 : Int32) (y5 : Int32) (y6 : Int32) (y7 : Int32) (σ : Mem), f_X5_moodFor_L51  n y1 y2 y3 y4 y5 y6 y7 σ = some res → G X σ 51 [(0, .ref (eA (xE X) 50)), (1, .int y1), (2, .int y2), (3, .int y3), (4, .int y4), (5, .int y5), (6, .int y6), (7, .int y7)] [] := by
  intro n
  induction n with
  | zero => intro y1 y2 y3 y4 y5 y6 y7 σ  h; cases h
  | succ n ih =>
    intro y1 y2 y3 y4 y5 y6 y7 σ  h
    rw [f_X5_moodFor_L51_s] at h
    refine g_iload o (q := 53) 7 rfl dX5_moodFor_51 rfl ?_
    refine g_if_lt o (tgt := 94) (q := 56) dX5_moodFor_53 (by decide) rfl h (fun h => ?_) (fun h => ?_)
    · refine g_aload_n o (q := 95) 0 rfl rfl dX5_moodFor_94 rfl ?_
      refine gf_X5_0 o (q := 98) kM_50 lk_X5_9 dX5_moodFor_95 rfl ?_
      refine g_iload_n o (q := 99) 3 rfl rfl dX5_moodFor_98 rfl ?_
      refine g_iload o (q := 101) 5 rfl dX5_moodFor_99 rfl ?_
      refine g_iast o (q := 102) kM_51 dX5_moodFor_101 rfl h (fun j37 σ38 h => ?_)
      refine g_aload_n o (q := 103) 0 rfl rfl dX5_moodFor_102 rfl ?_
      refine g_iload o (q := 105) 6 rfl dX5_moodFor_103 rfl ?_
      refine g_cvi o (q := 108) (As := [.int y6]) (rest := []) kv_X5_orNone lk_X5_192 kM_50 (by decide) rfl rfl rfl (fun _ _ hc => c_X5_orNone o.mk y6 hc) dX5_moodFor_105 rfl ⟨rfl, rfl, Nat.le_of_ble_eq_true rfl, Nat.le_of_ble_eq_true rfl⟩ (Nat.le_of_ble_eq_true rfl) rfl h (fun r40 σ39 h => ?_)
      exact g_iret o hr (h.trans (congrArg some hres)) rfl dX5_moodFor_108
    · refine g_aload_n o (q := 57) 0 rfl rfl dX5_moodFor_56 rfl ?_
      refine gf_X5_0 o (q := 60) kM_50 lk_X5_9 dX5_moodFor_57 rfl ?_
      refine g_iload_n o (q := 61) 3 rfl rfl dX5_moodFor_60 rfl ?_
      refine g_iload o (q := 63) 7 rfl dX5_moodFor_61 rfl ?_
      refine g_iast o (q := 64) kM_51 dX5_moodFor_63 rfl h (fun j41 σ42 h => ?_)
      refine g_aload_n o (q := 65) 0 rfl rfl dX5_moodFor_64 rfl ?_
      refine g_iload_n o (q := 66) 1 rfl rfl dX5_moodFor_65 rfl ?_
      refine g_iconst o (v := 5) (q := 67) (by decide) dX5_moodFor_66 rfl ?_
      refine g_csi o (q := 70) (As := [.int y1, .int 5]) (rest := [.ref (eA (xE X) 50)]) kv_X5_curtainAt lk_X5_85 rfl (fun _ _ hc => c_X5_curtainAt o.mk y1 5 hc) dX5_moodFor_67 rfl ⟨rfl, rfl, Nat.le_of_ble_eq_true rfl, Nat.le_of_ble_eq_true rfl⟩ (Nat.le_of_ble_eq_true rfl) rfl h (fun r44 σ43 h => ?_)
      refine g_iload_n o (q := 71) 2 rfl rfl dX5_moodFor_70 rfl ?_
      refine g_cvi o (q := 74) (As := [.int r44, .int y2]) (rest := []) kv_X5_behind lk_X5_185 kM_50 (by decide) rfl rfl rfl (fun _ _ hc => c_X5_behind o.mk r44 y2 hc) dX5_moodFor_71 rfl ⟨rfl, rfl, Nat.le_of_ble_eq_true rfl, Nat.le_of_ble_eq_true rfl⟩ (Nat.le_of_ble_eq_true rfl) rfl h (fun r46 σ45 h => ?_)
      refine g_iload o (q := 76) 4 rfl dX5_moodFor_74 rfl ?_
      refine g_icmp_ne o (tgt := 84) (q := 79) dX5_moodFor_76 (by decide) rfl h (fun h => ?_) (fun h => ?_)
      · refine g_iload o (q := 86) 6 rfl dX5_moodFor_84 rfl ?_
        refine g_sub (lv' := [(0, .ref (eA (xE X) 50)), (1, .int y1), (2, .int y2), (3, .int y3), (4, .int y4), (5, .int y5), (7, .int y7)]) [0, 1, 2, 3, 4, 5, 7] rfl ?_
        exact w_X5_moodFor_J86 hres o hr ih  h
      · refine g_iload o (q := 81) 7 rfl dX5_moodFor_79 rfl ?_
        refine g_goto o (tgt := 86) dX5_moodFor_81 (by decide) ?_
        refine g_sub (lv' := [(0, .ref (eA (xE X) 50)), (1, .int y1), (2, .int y2), (3, .int y3), (4, .int y4), (5, .int y5), (7, .int y7)]) [0, 1, 2, 3, 4, 5, 7] rfl ?_
        exact w_X5_moodFor_J86 hres o hr ih  h
set_option maxRecDepth 100000 in
set_option maxHeartbeats 4000000 in
theorem w_X5_moodFor {X : Cx} {l : Launch} {r : Int32} {σr : Mem} {res : Int32 × Mem} (hres : res = (r, σr)) (o : OK X cX5_moodFor RX5 sdM 8 rm_X5_moodFor l) (hr : RI X .int r σr) (x1 : Int32) (x2 : Int32)  {σ : Mem} (h : f_X5_moodFor x1 x2 σ = some res) : G X σ 0 [(0, .ref (eA (xE X) 50)), (1, .int x1), (2, .int x2)] [] := by
  unfold f_X5_moodFor at h
  refine g_aload_n o (q := 1) 0 rfl rfl dX5_moodFor_0 rfl ?_
  refine g_iload_n o (q := 2) 1 rfl rfl dX5_moodFor_1 rfl ?_
  refine g_cvi o (q := 5) (As := [.int x1]) (rest := []) kv_X5_isCurtain lk_X5_123 kM_50 (by decide) rfl rfl rfl (fun _ _ hc => c_X5_isCurtain o.mk x1 hc) dX5_moodFor_2 rfl ⟨rfl, rfl, Nat.le_of_ble_eq_true rfl, Nat.le_of_ble_eq_true rfl⟩ (Nat.le_of_ble_eq_true rfl) rfl h (fun r22 σ21 h => ?_)
  refine g_if_eq o (tgt := 15) (q := 8) dX5_moodFor_5 (by decide) rfl h (fun h => ?_) (fun h => ?_)
  · refine g_sub (lv' := [(0, .ref (eA (xE X) 50))]) [0] rfl ?_
    exact w_X5_moodFor_J15 hres o hr   h
  · refine g_iload_n o (q := 9) 2 rfl rfl dX5_moodFor_8 rfl ?_
    refine g_csi o (q := 12) (As := [.int x2]) (rest := []) kv_X5_isThought lk_X5_195 rfl (fun _ _ hc => c_X5_isThought o.mk x2 hc) dX5_moodFor_9 rfl ⟨rfl, rfl, Nat.le_of_ble_eq_true rfl, Nat.le_of_ble_eq_true rfl⟩ (Nat.le_of_ble_eq_true rfl) rfl h (fun r26 σ25 h => ?_)
    refine g_if_ne o (tgt := 22) (q := 15) dX5_moodFor_12 (by decide) rfl h (fun h => ?_) (fun h => ?_)
    · refine g_iload_n o (q := 23) 1 rfl rfl dX5_moodFor_22 rfl ?_
      refine g_iconst o (v := 1) (q := 24) (by decide) dX5_moodFor_23 rfl ?_
      refine g_csi o (q := 27) (As := [.int x1, .int 1]) (rest := []) kv_X5_curtainAt lk_X5_85 rfl (fun _ _ hc => c_X5_curtainAt o.mk x1 1 hc) dX5_moodFor_24 rfl ⟨rfl, rfl, Nat.le_of_ble_eq_true rfl, Nat.le_of_ble_eq_true rfl⟩ (Nat.le_of_ble_eq_true rfl) rfl h (fun r28 σ27 h => ?_)
      refine g_istore_n o (q := 28) dX5_moodFor_27 rfl rfl (by decide) h (fun x29 => [(3, .int x29), (0, .ref (eA (xE X) 50)), (1, .int x1), (2, .int x2)]) (fun _ => rfl) (fun x29 h => ?_)
      refine g_aload_n o (q := 29) 1 rfl rfl dX5_moodFor_28 rfl ?_
      refine g_iload_n o (q := 30) 2 rfl rfl dX5_moodFor_29 rfl ?_
      refine g_iconst o (v := 5) (q := 31) (by decide) dX5_moodFor_30 rfl ?_
      refine g_cvi o (q := 34) (As := [.int x1, .int 5]) (rest := []) kv_X5_curtainIs lk_X5_98 kM_50 (by decide) rfl rfl rfl (fun _ _ hc => c_X5_curtainIs o.mk x1 5 hc) dX5_moodFor_31 rfl ⟨rfl, rfl, Nat.le_of_ble_eq_true rfl, Nat.le_of_ble_eq_true rfl⟩ (Nat.le_of_ble_eq_true rfl) rfl h (fun r31 σ30 h => ?_)
      refine g_istore o (q := 36) dX5_moodFor_34 rfl (by decide) h (fun x32 => [(4, .int x32), (3, .int x29), (0, .ref (eA (xE X) 50)), (1, .int x1), (2, .int x2)]) (fun _ => rfl) (fun x32 h => ?_)
      refine g_aload_n o (q := 37) 2 rfl rfl dX5_moodFor_36 rfl ?_
      refine gf_X5_0 o (q := 40) kM_50 lk_X5_9 dX5_moodFor_37 rfl ?_
      refine g_iload_n o (q := 41) 1 rfl rfl dX5_moodFor_40 rfl ?_
      refine g_iald o (q := 42) kM_51 dX5_moodFor_41 rfl h (fun j33 hjj33 h => ?_)
      refine g_istore o (q := 44) dX5_moodFor_42 rfl (by decide) h (fun x34 => [(5, .int x34), (4, .int x32), (3, .int x29), (0, .ref (eA (xE X) 50)), (1, .int x1), (2, .int x2)]) (fun _ => rfl) (fun x34 h => ?_)
      refine g_iconst o (v := (-1)) (q := 45) (by decide) dX5_moodFor_44 rfl ?_
      refine g_istore o (q := 47) dX5_moodFor_45 rfl (by decide) h (fun x35 => [(6, .int x35), (5, .int x34), (4, .int x32), (3, .int x29), (0, .ref (eA (xE X) 50)), (1, .int x1), (2, .int x2)]) (fun _ => rfl) (fun x35 h => ?_)
      refine g_bipush o (v := 99) (q := 49) (by decide) dX5_moodFor_47 rfl ?_
      refine g_istore o (q := 51) dX5_moodFor_49 rfl (by decide) h (fun x36 => [(7, .int x36), (6, .int x35), (5, .int x34), (4, .int x32), (3, .int x29), (0, .ref (eA (xE X) 50)), (1, .int x1), (2, .int x2)]) (fun _ => rfl) (fun x36 h => ?_)
      refine g_sub (lv' := [(0, .ref (eA (xE X) 50)), (1, .int x1), (2, .int x2), (3, .int x29), (4, .int x32), (5, .int x34), (6, .int x35), (7, .int x36)]) [5, 6, 7, 4, 3, 2, 1, 0] rfl ?_
      exact w_X5_moodFor_L51 hres o hr  FU x1 x2 x29 x32 x34 x35 x36 σ30  h
    · refine g_sub (lv' := [(0, .ref (eA (xE X) 50))]) [0] rfl ?_
      exact w_X5_moodFor_J15 hres o hr   h
theorem c_X5_moodFor {l : Launch} {E : En} {mk : Mem → Mem} (hmk : MK mk sdM) (x1 : Int32) (x2 : Int32)  {σ : Mem} {r : Int32} {τ : Mem} (h : f_X5_moodFor x1 x2 σ = some (r, τ)) : Met l yX5_moodFor (Cond.code yX5_moodFor cX5_moodFor 8 (some .int) :: wt) rm_X5_moodFor (PW E mk [.ref (eA E 50), .int x1, .int x2] σ) (QI E mk r τ) 0 0 (WA E) :=
  met_i (fun E => [.ref (eA E 50), .int x1, .int x2]) (by decide) hmk (Nat.le_of_ble_eq_true rfl) (fun X o hr => w_X5_moodFor rfl o hr x1 x2  h)
set_option maxRecDepth 100000 in
set_option maxHeartbeats 4000000 in
theorem w_X5_staysUp_J37 {X : Cx} {l : Launch} {r : Int32} {σr : Mem} {res : Int32 × Mem} (hres : res = (r, σr)) (o : OK X cX5_staysUp RX5 sdM 5 rm_X5_staysUp l) (hr : RI X .boolean r σr)   {s0 : Int32}  {σ : Mem} (h : f_X5_staysUp_J37  s0 σ = some res) : G X σ 37 [(0, .ref (eA (xE X) 50))] [.int s0] := by
  unfold f_X5_staysUp_J37 at h
  refine g_istore o (q := 39) dX5_staysUp_37 rfl (by decide) h (fun x27 => [(4, .int x27), (0, .ref (eA (xE X) 50))]) (fun _ => rfl) (fun x27 h => ?_)
  refine g_aload_n o (q := 40) 1 rfl rfl dX5_staysUp_39 rfl ?_
  refine gf_X5_2 o (q := 43) kM_50 lk_X5_16 dX5_staysUp_40 rfl ?_
  refine g_aload_n o (q := 44) 1 rfl rfl dX5_staysUp_43 rfl ?_
  refine gf_X5_0 o (q := 47) kM_50 lk_X5_9 dX5_staysUp_44 rfl ?_
  refine g_csv o (q := 50) (As := [.ref (eA (xE X) 53), .ref (eA (xE X) 51)]) (rest := []) kv_X5_copyRow lk_X5_61 rfl (fun _ _ hc => c_X5_copyRow o.mk 53 51 kM_53 kM_51 hc) dX5_staysUp_47 rfl ⟨rfl, rfl, Nat.le_of_ble_eq_true rfl, Nat.le_of_ble_eq_true rfl⟩ (Nat.le_of_ble_eq_true rfl) rfl h (fun _u28 σ28 h => ?_)
  refine g_iload o (q := 52) 0 rfl dX5_staysUp_50 rfl ?_
  obtain ⟨hb, h⟩ := vB_some h
  exact g_iret o hr (h.trans (congrArg some hres)) (by rcases hb with hb | hb <;> rw [hb] <;> rfl) dX5_staysUp_52
set_option maxRecDepth 100000 in
set_option maxHeartbeats 4000000 in
theorem w_X5_staysUp {X : Cx} {l : Launch} {r : Int32} {σr : Mem} {res : Int32 × Mem} (hres : res = (r, σr)) (o : OK X cX5_staysUp RX5 sdM 5 rm_X5_staysUp l) (hr : RI X .boolean r σr) (x1 : Int32) (x2 : Int32) (x3 : Int32)  {σ : Mem} (h : f_X5_staysUp x1 x2 x3 σ = some res) : G X σ 0 [(0, .ref (eA (xE X) 50)), (1, .int x1), (2, .int x2), (3, .int x3)] [] := by
  unfold f_X5_staysUp at h
  refine g_aload_n o (q := 1) 0 rfl rfl dX5_staysUp_0 rfl ?_
  refine gf_X5_0 o (q := 4) kM_50 lk_X5_9 dX5_staysUp_1 rfl ?_
  refine g_aload_n o (q := 5) 0 rfl rfl dX5_staysUp_4 rfl ?_
  refine gf_X5_2 o (q := 8) kM_50 lk_X5_16 dX5_staysUp_5 rfl ?_
  refine g_csv o (q := 11) (As := [.ref (eA (xE X) 51), .ref (eA (xE X) 53)]) (rest := []) kv_X5_copyRow lk_X5_61 rfl (fun _ _ hc => c_X5_copyRow o.mk 51 53 kM_51 kM_53 hc) dX5_staysUp_8 rfl ⟨rfl, rfl, Nat.le_of_ble_eq_true rfl, Nat.le_of_ble_eq_true rfl⟩ (Nat.le_of_ble_eq_true rfl) rfl h (fun _u21 σ21 h => ?_)
  refine g_aload_n o (q := 12) 0 rfl rfl dX5_staysUp_11 rfl ?_
  refine g_iload_n o (q := 13) 1 rfl rfl dX5_staysUp_12 rfl ?_
  refine g_iload_n o (q := 14) 2 rfl rfl dX5_staysUp_13 rfl ?_
  refine g_cvi o (q := 17) (As := [.int x1, .int x2]) (rest := []) kv_X5_pulled lk_X5_153 kM_50 (by decide) rfl rfl rfl (fun _ _ hc => c_X5_pulled o.mk x1 x2 hc) dX5_staysUp_14 rfl ⟨rfl, rfl, Nat.le_of_ble_eq_true rfl, Nat.le_of_ble_eq_true rfl⟩ (Nat.le_of_ble_eq_true rfl) rfl h (fun r23 σ22 h => ?_)
  refine g_pop o (q := 18) rfl dX5_staysUp_17 rfl ?_
  refine g_aload_n o (q := 19) 0 rfl rfl dX5_staysUp_18 rfl ?_
  refine g_iload_n o (q := 20) 3 rfl rfl dX5_staysUp_19 rfl ?_
  refine g_cvv o (q := 23) (As := [.int x3]) (rest := []) kv_X5_beatsGo lk_X5_167 kM_50 (by decide) rfl rfl rfl (fun _ _ hc => c_X5_beatsGo o.mk x3 hc) dX5_staysUp_20 rfl ⟨rfl, rfl, Nat.le_of_ble_eq_true rfl, Nat.le_of_ble_eq_true rfl⟩ (Nat.le_of_ble_eq_true rfl) rfl h (fun _u24 σ24 h => ?_)
  refine g_aload_n o (q := 24) 0 rfl rfl dX5_staysUp_23 rfl ?_
  refine g_iload_n o (q := 25) 1 rfl rfl dX5_staysUp_24 rfl ?_
  refine g_iconst o (v := 3) (q := 26) (by decide) dX5_staysUp_25 rfl ?_
  refine g_cvi o (q := 29) (As := [.int x1, .int 3]) (rest := []) kv_X5_curtainIs lk_X5_98 kM_50 (by decide) rfl rfl rfl (fun _ _ hc => c_X5_curtainIs o.mk x1 3 hc) dX5_staysUp_26 rfl ⟨rfl, rfl, Nat.le_of_ble_eq_true rfl, Nat.le_of_ble_eq_true rfl⟩ (Nat.le_of_ble_eq_true rfl) rfl h (fun r26 σ25 h => ?_)
  refine g_if_le o (tgt := 36) (q := 32) dX5_staysUp_29 (by decide) rfl h (fun h => ?_) (fun h => ?_)
  · refine g_iconst o (v := 0) (q := 37) (by decide) dX5_staysUp_36 rfl ?_
    refine g_sub (lv' := [(0, .ref (eA (xE X) 50))]) [0] rfl ?_
    exact w_X5_staysUp_J37 hres o hr   h
  · refine g_iconst o (v := 1) (q := 33) (by decide) dX5_staysUp_32 rfl ?_
    refine g_goto o (tgt := 37) dX5_staysUp_33 (by decide) ?_
    refine g_sub (lv' := [(0, .ref (eA (xE X) 50))]) [0] rfl ?_
    exact w_X5_staysUp_J37 hres o hr   h
theorem c_X5_staysUp {l : Launch} {E : En} {mk : Mem → Mem} (hmk : MK mk sdM) (x1 : Int32) (x2 : Int32) (x3 : Int32)  {σ : Mem} {r : Int32} {τ : Mem} (h : f_X5_staysUp x1 x2 x3 σ = some (r, τ)) : Met l yX5_staysUp (Cond.code yX5_staysUp cX5_staysUp 5 (some .boolean) :: wt) rm_X5_staysUp (PW E mk [.ref (eA E 50), .int x1, .int x2, .int x3] σ) (QI E mk r τ) 0 0 (WA E) :=
  met_i (fun E => [.ref (eA E 50), .int x1, .int x2, .int x3]) (by decide) hmk (Nat.le_of_ble_eq_true rfl) (fun X o hr => w_X5_staysUp rfl o hr x1 x2 x3  h)
set_option maxRecDepth 100000 in
set_option maxHeartbeats 4000000 in
theorem w_X5_handsFor_J15 {X : Cx} {l : Launch} {r : Int32} {σr : Mem} {res : Int32 × Mem} (hres : res = (r, σr)) (o : OK X cX5_handsFor RX5 sdM 5 rm_X5_handsFor l) (hr : RI X .int r σr)     {σ : Mem} (h : f_X5_handsFor_J15   σ = some res) : G X σ 15 [(0, .ref (eA (xE X) 50))] [] := by
  unfold f_X5_handsFor_J15 at h
  refine g_aload_n o (q := 16) 0 rfl rfl dX5_handsFor_15 rfl ?_
  refine g_ldc o (q := 18) lk_X5_60 dX5_handsFor_16 rfl ?_
  refine g_cvi o (q := 21) (As := [.int (-1000001)]) (rest := []) kv_X5_finding lk_X5_66 kM_50 (by decide) rfl rfl rfl (fun _ _ hc => c_X5_finding o.mk (-1000001) hc) dX5_handsFor_18 rfl ⟨rfl, rfl, Nat.le_of_ble_eq_true rfl, Nat.le_of_ble_eq_true rfl⟩ (Nat.le_of_ble_eq_true rfl) rfl h (fun r24 σ23 h => ?_)
  exact g_iret o hr (h.trans (congrArg some hres)) rfl dX5_handsFor_21
set_option maxRecDepth 100000 in
set_option maxHeartbeats 4000000 in
theorem w_X5_handsFor_J65 {X : Cx} {l : Launch} {r : Int32} {σr : Mem} {res : Int32 × Mem} (hres : res = (r, σr)) (o : OK X cX5_handsFor RX5 sdM 5 rm_X5_handsFor l) (hr : RI X .int r σr) {k43 : Int32 → Int32 → Int32 → Int32 → Mem → Option (Int32 × Mem)} (hk43 : ∀ (y1 : Int32) (y2 : Int32) (y3 : Int32) (y4 : Int32) (σ : Mem), k43 y1 y2 y3 y4 σ = some res → G X σ 43 [(0, .ref (eA (xE X) 50)), (1, .int y1), (2, .int y2), (3, .int y3), (4, .int y4)] []) {y1 : Int32} {y2 : Int32} {y4 : Int32} {s0 : Int32}  {σ : Mem} (h : f_X5_handsFor_J65 k43 y1 y2 y4 s0 σ = some res) : G X σ 65 [(0, .ref (eA (xE X) 50)), (1, .int y1), (2, .int y2), (4, .int y4)] [.int s0] := by
  unfold f_X5_handsFor_J65 at h
  refine g_istore_n o (q := 66) dX5_handsFor_65 rfl rfl (by decide) h (fun x35 => [(3, .int x35), (0, .ref (eA (xE X) 50)), (1, .int y1), (2, .int y2), (4, .int y4)]) (fun _ => rfl) (fun x35 h => ?_)
  refine g_iinc o (q := 69) (dn := (-1)) dX5_handsFor_66 rfl 4 rfl (by decide) (by decide) h (fun x36 => [(4, .int x36), (3, .int x35), (0, .ref (eA (xE X) 50)), (1, .int y1), (2, .int y2)]) (fun _ => rfl) (fun x36 h => ?_)
  refine g_goto o (tgt := 43) dX5_handsFor_69 (by decide) ?_
  refine g_sub (lv' := [(0, .ref (eA (xE X) 50)), (1, .int y1), (2, .int y2), (3, .int x35), (4, .int x36)]) [2, 3, 4, 1, 0] rfl ?_
  exact hk43 y1 y2 x35 x36 σ  h
set_option maxRecDepth 100000 in
set_option maxHeartbeats 4000000 in
theorem w_X5_handsFor_L43 {X : Cx} {l : Launch} {r : Int32} {σr : Mem} {res : Int32 × Mem} (hres : res = (r, σr)) (o : OK X cX5_handsFor RX5 sdM 5 rm_X5_handsFor l) (hr : RI X .int r σr)   : ∀ (n : Nat) (y1 : Int32) (y2 : Int32) (y3 : Int32) (y4 : Int32) (σ : Mem), f_X5_handsFor_L43  n y1 y2 y3 y4 σ = some res → G X σ 43 [(0, .ref (eA (xE X) 50)), (1, .int y1), (2, .int y2), (3, .int y3), (4, .int y4)] [] := by
  intro n
  induction n with
  | zero => intro y1 y2 y3 y4 σ  h; cases h
  | succ n ih =>
    intro y1 y2 y3 y4 σ  h
    rw [f_X5_handsFor_L43_s] at h
    refine g_iload o (q := 45) 4 rfl dX5_handsFor_43 rfl ?_
    refine g_if_le o (tgt := 72) (q := 48) dX5_handsFor_45 (by decide) rfl h (fun h => ?_) (fun h => ?_)
    · refine g_aload_n o (q := 73) 0 rfl rfl dX5_handsFor_72 rfl ?_
      refine g_iload_n o (q := 74) 3 rfl rfl dX5_handsFor_73 rfl ?_
      refine g_cvi o (q := 77) (As := [.int y3]) (rest := []) kv_X5_orNone lk_X5_192 kM_50 (by decide) rfl rfl rfl (fun _ _ hc => c_X5_orNone o.mk y3 hc) dX5_handsFor_74 rfl ⟨rfl, rfl, Nat.le_of_ble_eq_true rfl, Nat.le_of_ble_eq_true rfl⟩ (Nat.le_of_ble_eq_true rfl) rfl h (fun r32 σ31 h => ?_)
      exact g_iret o hr (h.trans (congrArg some hres)) rfl dX5_handsFor_77
    · refine g_aload_n o (q := 49) 0 rfl rfl dX5_handsFor_48 rfl ?_
      refine g_iload_n o (q := 50) 1 rfl rfl dX5_handsFor_49 rfl ?_
      refine g_iload o (q := 52) 4 rfl dX5_handsFor_50 rfl ?_
      refine g_iload_n o (q := 53) 2 rfl rfl dX5_handsFor_52 rfl ?_
      refine g_cvi o (q := 56) (As := [.int y1, .int y4, .int y2]) (rest := []) kv_X5_staysUp lk_X5_199 kM_50 (by decide) rfl rfl rfl (fun _ _ hc => c_X5_staysUp o.mk y1 y4 y2 hc) dX5_handsFor_53 rfl ⟨rfl, rfl, Nat.le_of_ble_eq_true rfl, Nat.le_of_ble_eq_true rfl⟩ (Nat.le_of_ble_eq_true rfl) rfl h (fun r34 σ33 h => ?_)
      refine g_if_eq o (tgt := 64) (q := 59) dX5_handsFor_56 (by decide) rfl h (fun h => ?_) (fun h => ?_)
      · refine g_iload_n o (q := 65) 3 rfl rfl dX5_handsFor_64 rfl ?_
        refine g_sub (lv' := [(0, .ref (eA (xE X) 50)), (1, .int y1), (2, .int y2), (4, .int y4)]) [0, 1, 2, 4] rfl ?_
        exact w_X5_handsFor_J65 hres o hr ih  h
      · refine g_iload o (q := 61) 4 rfl dX5_handsFor_59 rfl ?_
        refine g_goto o (tgt := 65) dX5_handsFor_61 (by decide) ?_
        refine g_sub (lv' := [(0, .ref (eA (xE X) 50)), (1, .int y1), (2, .int y2), (4, .int y4)]) [0, 1, 2, 4] rfl ?_
        exact w_X5_handsFor_J65 hres o hr ih  h
set_option maxRecDepth 100000 in
set_option maxHeartbeats 4000000 in
theorem w_X5_handsFor {X : Cx} {l : Launch} {r : Int32} {σr : Mem} {res : Int32 × Mem} (hres : res = (r, σr)) (o : OK X cX5_handsFor RX5 sdM 5 rm_X5_handsFor l) (hr : RI X .int r σr) (x1 : Int32) (x2 : Int32)  {σ : Mem} (h : f_X5_handsFor x1 x2 σ = some res) : G X σ 0 [(0, .ref (eA (xE X) 50)), (1, .int x1), (2, .int x2)] [] := by
  unfold f_X5_handsFor at h
  refine g_aload_n o (q := 1) 0 rfl rfl dX5_handsFor_0 rfl ?_
  refine g_iload_n o (q := 2) 1 rfl rfl dX5_handsFor_1 rfl ?_
  refine g_cvi o (q := 5) (As := [.int x1]) (rest := []) kv_X5_isCurtain lk_X5_123 kM_50 (by decide) rfl rfl rfl (fun _ _ hc => c_X5_isCurtain o.mk x1 hc) dX5_handsFor_2 rfl ⟨rfl, rfl, Nat.le_of_ble_eq_true rfl, Nat.le_of_ble_eq_true rfl⟩ (Nat.le_of_ble_eq_true rfl) rfl h (fun r22 σ21 h => ?_)
  refine g_if_eq o (tgt := 15) (q := 8) dX5_handsFor_5 (by decide) rfl h (fun h => ?_) (fun h => ?_)
  · refine g_sub (lv' := [(0, .ref (eA (xE X) 50))]) [0] rfl ?_
    exact w_X5_handsFor_J15 hres o hr   h
  · refine g_iload_n o (q := 9) 2 rfl rfl dX5_handsFor_8 rfl ?_
    refine g_csi o (q := 12) (As := [.int x2]) (rest := []) kv_X5_isThought lk_X5_195 rfl (fun _ _ hc => c_X5_isThought o.mk x2 hc) dX5_handsFor_9 rfl ⟨rfl, rfl, Nat.le_of_ble_eq_true rfl, Nat.le_of_ble_eq_true rfl⟩ (Nat.le_of_ble_eq_true rfl) rfl h (fun r26 σ25 h => ?_)
    refine g_if_ne o (tgt := 22) (q := 15) dX5_handsFor_12 (by decide) rfl h (fun h => ?_) (fun h => ?_)
    · refine g_aload_n o (q := 23) 0 rfl rfl dX5_handsFor_22 rfl ?_
      refine g_iload_n o (q := 24) 1 rfl rfl dX5_handsFor_23 rfl ?_
      refine g_cvi o (q := 27) (As := [.int x1]) (rest := []) kv_X5_isTied lk_X5_149 kM_50 (by decide) rfl rfl rfl (fun _ _ hc => c_X5_isTied o.mk x1 hc) dX5_handsFor_24 rfl ⟨rfl, rfl, Nat.le_of_ble_eq_true rfl, Nat.le_of_ble_eq_true rfl⟩ (Nat.le_of_ble_eq_true rfl) rfl h (fun r28 σ27 h => ?_)
      refine g_if_eq o (tgt := 37) (q := 30) dX5_handsFor_27 (by decide) rfl h (fun h => ?_) (fun h => ?_)
      · refine g_iconst o (v := (-1)) (q := 38) (by decide) dX5_handsFor_37 rfl ?_
        refine g_istore_n o (q := 39) dX5_handsFor_38 rfl rfl (by decide) h (fun x29 => [(3, .int x29), (0, .ref (eA (xE X) 50)), (1, .int x1), (2, .int x2)]) (fun _ => rfl) (fun x29 h => ?_)
        refine g_bipush o (v := 40) (q := 41) (by decide) dX5_handsFor_39 rfl ?_
        refine g_istore o (q := 43) dX5_handsFor_41 rfl (by decide) h (fun x30 => [(4, .int x30), (3, .int x29), (0, .ref (eA (xE X) 50)), (1, .int x1), (2, .int x2)]) (fun _ => rfl) (fun x30 h => ?_)
        refine g_sub (lv' := [(0, .ref (eA (xE X) 50)), (1, .int x1), (2, .int x2), (3, .int x29), (4, .int x30)]) [2, 3, 4, 1, 0] rfl ?_
        exact w_X5_handsFor_L43 hres o hr  FU x1 x2 x29 x30 σ27  h
      · refine g_aload_n o (q := 31) 0 rfl rfl dX5_handsFor_30 rfl ?_
        refine g_ldc o (q := 33) lk_X5_152 dX5_handsFor_31 rfl ?_
        refine g_cvi o (q := 36) (As := [.int (-1000005)]) (rest := []) kv_X5_finding lk_X5_66 kM_50 (by decide) rfl rfl rfl (fun _ _ hc => c_X5_finding o.mk (-1000005) hc) dX5_handsFor_33 rfl ⟨rfl, rfl, Nat.le_of_ble_eq_true rfl, Nat.le_of_ble_eq_true rfl⟩ (Nat.le_of_ble_eq_true rfl) rfl h (fun r38 σ37 h => ?_)
        exact g_iret o hr (h.trans (congrArg some hres)) rfl dX5_handsFor_36
    · refine g_sub (lv' := [(0, .ref (eA (xE X) 50))]) [0] rfl ?_
      exact w_X5_handsFor_J15 hres o hr   h
theorem c_X5_handsFor {l : Launch} {E : En} {mk : Mem → Mem} (hmk : MK mk sdM) (x1 : Int32) (x2 : Int32)  {σ : Mem} {r : Int32} {τ : Mem} (h : f_X5_handsFor x1 x2 σ = some (r, τ)) : Met l yX5_handsFor (Cond.code yX5_handsFor cX5_handsFor 5 (some .int) :: wt) rm_X5_handsFor (PW E mk [.ref (eA E 50), .int x1, .int x2] σ) (QI E mk r τ) 0 0 (WA E) :=
  met_i (fun E => [.ref (eA E 50), .int x1, .int x2]) (by decide) hmk (Nat.le_of_ble_eq_true rfl) (fun X o hr => w_X5_handsFor rfl o hr x1 x2  h)
set_option maxRecDepth 100000 in
set_option maxHeartbeats 4000000 in
theorem w_X5_nothingIsCut_J80 {X : Cx} {l : Launch} {r : Int32} {σr : Mem} {res : Int32 × Mem} (hres : res = (r, σr)) (o : OK X cX5_nothingIsCut RX5 sdM 5 rm_X5_nothingIsCut l) (hr : RI X .boolean r σr)   {s0 : Int32}  {σ : Mem} (h : f_X5_nothingIsCut_J80  s0 σ = some res) : G X σ 80 [(0, .ref (eA (xE X) 50))] [.int s0] := by
  unfold f_X5_nothingIsCut_J80 at h
  refine g_istore o (q := 82) dX5_nothingIsCut_80 rfl (by decide) h (fun x28 => [(4, .int x28), (0, .ref (eA (xE X) 50))]) (fun _ => rfl) (fun x28 h => ?_)
  refine g_aload_n o (q := 83) 1 rfl rfl dX5_nothingIsCut_82 rfl ?_
  refine gf_X5_2 o (q := 86) kM_50 lk_X5_16 dX5_nothingIsCut_83 rfl ?_
  refine g_aload_n o (q := 87) 1 rfl rfl dX5_nothingIsCut_86 rfl ?_
  refine gf_X5_0 o (q := 90) kM_50 lk_X5_9 dX5_nothingIsCut_87 rfl ?_
  refine g_csv o (q := 93) (As := [.ref (eA (xE X) 53), .ref (eA (xE X) 51)]) (rest := []) kv_X5_copyRow lk_X5_61 rfl (fun _ _ hc => c_X5_copyRow o.mk 53 51 kM_53 kM_51 hc) dX5_nothingIsCut_90 rfl ⟨rfl, rfl, Nat.le_of_ble_eq_true rfl, Nat.le_of_ble_eq_true rfl⟩ (Nat.le_of_ble_eq_true rfl) rfl h (fun _u29 σ29 h => ?_)
  refine g_iload o (q := 95) 0 rfl dX5_nothingIsCut_93 rfl ?_
  obtain ⟨hb, h⟩ := vB_some h
  exact g_iret o hr (h.trans (congrArg some hres)) (by rcases hb with hb | hb <;> rw [hb] <;> rfl) dX5_nothingIsCut_95
set_option maxRecDepth 100000 in
set_option maxHeartbeats 4000000 in
theorem w_X5_nothingIsCut_J54 {X : Cx} {l : Launch} {r : Int32} {σr : Mem} {res : Int32 × Mem} (hres : res = (r, σr)) (o : OK X cX5_nothingIsCut RX5 sdM 5 rm_X5_nothingIsCut l) (hr : RI X .boolean r σr) {k21 : Int32 → Int32 → Int32 → Int32 → Mem → Option (Int32 × Mem)} (hk21 : ∀ (y1 : Int32) (y2 : Int32) (y3 : Int32) (y4 : Int32) (σ : Mem), k21 y1 y2 y3 y4 σ = some res → G X σ 21 [(0, .ref (eA (xE X) 50)), (1, .int y1), (2, .int y2), (3, .int y3), (4, .int y4)] []) {y1 : Int32} {y2 : Int32} {y3 : Int32} {y4 : Int32}  {σ : Mem} (h : f_X5_nothingIsCut_J54 k21 y1 y2 y3 y4 σ = some res) : G X σ 54 [(0, .ref (eA (xE X) 50)), (1, .int y1), (2, .int y2), (3, .int y3), (4, .int y4)] [] := by
  unfold f_X5_nothingIsCut_J54 at h
  refine g_iinc o (q := 57) (dn := 1) dX5_nothingIsCut_54 rfl 4 rfl (by decide) (by decide) h (fun x30 => [(4, .int x30), (0, .ref (eA (xE X) 50)), (1, .int y1), (2, .int y2), (3, .int y3)]) (fun _ => rfl) (fun x30 h => ?_)
  refine g_goto o (tgt := 21) dX5_nothingIsCut_57 (by decide) ?_
  refine g_sub (lv' := [(0, .ref (eA (xE X) 50)), (1, .int y1), (2, .int y2), (3, .int y3), (4, .int x30)]) [1, 2, 3, 4, 0] rfl ?_
  exact hk21 y1 y2 y3 x30 σ  h
set_option maxRecDepth 100000 in
set_option maxHeartbeats 4000000 in
theorem w_X5_nothingIsCut_L21 {X : Cx} {l : Launch} {r : Int32} {σr : Mem} {res : Int32 × Mem} (hres : res = (r, σr)) (o : OK X cX5_nothingIsCut RX5 sdM 5 rm_X5_nothingIsCut l) (hr : RI X .boolean r σr)   : ∀ (n : Nat) (y1 : Int32) (y2 : Int32) (y3 : Int32) (y4 : Int32) (σ : Mem), f_X5_nothingIsCut_L21  n y1 y2 y3 y4 σ = some res → G X σ 21 [(0, .ref (eA (xE X) 50)), (1, .int y1), (2, .int y2), (3, .int y3), (4, .int y4)] [] := by
  intro n
  induction n with
  | zero => intro y1 y2 y3 y4 σ  h; cases h
  | succ n ih =>
    intro y1 y2 y3 y4 σ  h
    rw [f_X5_nothingIsCut_L21_s] at h
    refine g_iload o (q := 23) 4 rfl dX5_nothingIsCut_21 rfl ?_
    refine g_aload_n o (q := 24) 0 rfl rfl dX5_nothingIsCut_23 rfl ?_
    refine gf_X5_0 o (q := 27) kM_50 lk_X5_9 dX5_nothingIsCut_24 rfl ?_
    refine g_iconst o (v := 1) (q := 28) (by decide) dX5_nothingIsCut_27 rfl ?_
    refine g_iald o (q := 29) kM_51 dX5_nothingIsCut_28 rfl h (fun j25 hjj25 h => ?_)
    refine g_icmp_ge o (tgt := 60) (q := 32) dX5_nothingIsCut_29 (by decide) rfl h (fun h => ?_) (fun h => ?_)
    · refine g_aload_n o (q := 61) 0 rfl rfl dX5_nothingIsCut_60 rfl ?_
      refine g_iload_n o (q := 62) 2 rfl rfl dX5_nothingIsCut_61 rfl ?_
      refine g_cvv o (q := 65) (As := [.int y2]) (rest := []) kv_X5_beatsGo lk_X5_167 kM_50 (by decide) rfl rfl rfl (fun _ _ hc => c_X5_beatsGo o.mk y2 hc) dX5_nothingIsCut_62 rfl ⟨rfl, rfl, Nat.le_of_ble_eq_true rfl, Nat.le_of_ble_eq_true rfl⟩ (Nat.le_of_ble_eq_true rfl) rfl h (fun _u26 σ26 h => ?_)
      refine g_aload_n o (q := 66) 0 rfl rfl dX5_nothingIsCut_65 rfl ?_
      refine gf_X5_0 o (q := 69) kM_50 lk_X5_9 dX5_nothingIsCut_66 rfl ?_
      refine g_iconst o (v := 4) (q := 70) (by decide) dX5_nothingIsCut_69 rfl ?_
      refine g_iald o (q := 71) kM_51 dX5_nothingIsCut_70 rfl h (fun j27 hjj27 h => ?_)
      refine g_iload_n o (q := 72) 3 rfl rfl dX5_nothingIsCut_71 rfl ?_
      refine g_icmp_ne o (tgt := 79) (q := 75) dX5_nothingIsCut_72 (by decide) rfl h (fun h => ?_) (fun h => ?_)
      · refine g_iconst o (v := 0) (q := 80) (by decide) dX5_nothingIsCut_79 rfl ?_
        refine g_sub (lv' := [(0, .ref (eA (xE X) 50))]) [0] rfl ?_
        exact w_X5_nothingIsCut_J80 hres o hr   h
      · refine g_iconst o (v := 1) (q := 76) (by decide) dX5_nothingIsCut_75 rfl ?_
        refine g_goto o (tgt := 80) dX5_nothingIsCut_76 (by decide) ?_
        refine g_sub (lv' := [(0, .ref (eA (xE X) 50))]) [0] rfl ?_
        exact w_X5_nothingIsCut_J80 hres o hr   h
    · refine g_iload_n o (q := 33) 1 rfl rfl dX5_nothingIsCut_32 rfl ?_
      refine g_iload o (q := 35) 4 rfl dX5_nothingIsCut_33 rfl ?_
      refine g_ishr o (q := 36) dX5_nothingIsCut_35 rfl ?_
      refine g_iconst o (v := 1) (q := 37) (by decide) dX5_nothingIsCut_36 rfl ?_
      refine g_iand o (q := 38) dX5_nothingIsCut_37 rfl ?_
      refine g_iconst o (v := 1) (q := 39) (by decide) dX5_nothingIsCut_38 rfl ?_
      refine g_icmp_ne o (tgt := 54) (q := 42) dX5_nothingIsCut_39 (by decide) rfl h (fun h => ?_) (fun h => ?_)
      · exact w_X5_nothingIsCut_J54 hres o hr ih  h
      · refine g_aload_n o (q := 43) 0 rfl rfl dX5_nothingIsCut_42 rfl ?_
        refine gf_X5_0 o (q := 46) kM_50 lk_X5_9 dX5_nothingIsCut_43 rfl ?_
        refine g_iload o (q := 48) 4 rfl dX5_nothingIsCut_46 rfl ?_
        refine g_iconst o (v := 4) (q := 49) (by decide) dX5_nothingIsCut_48 rfl ?_
        refine g_csi o (q := 52) (As := [.int y4, .int 4]) (rest := [.ref (eA (xE X) 51)]) kv_X5_curtainAt lk_X5_85 rfl (fun _ _ hc => c_X5_curtainAt o.mk y4 4 hc) dX5_nothingIsCut_49 rfl ⟨rfl, rfl, Nat.le_of_ble_eq_true rfl, Nat.le_of_ble_eq_true rfl⟩ (Nat.le_of_ble_eq_true rfl) rfl h (fun r32 σ31 h => ?_)
        refine g_iconst o (v := 1) (q := 53) (by decide) dX5_nothingIsCut_52 rfl ?_
        refine g_iast o (q := 54) kM_51 dX5_nothingIsCut_53 rfl h (fun j33 σ34 h => ?_)
        exact w_X5_nothingIsCut_J54 hres o hr ih  h
set_option maxRecDepth 100000 in
set_option maxHeartbeats 4000000 in
theorem w_X5_nothingIsCut {X : Cx} {l : Launch} {r : Int32} {σr : Mem} {res : Int32 × Mem} (hres : res = (r, σr)) (o : OK X cX5_nothingIsCut RX5 sdM 5 rm_X5_nothingIsCut l) (hr : RI X .boolean r σr) (x1 : Int32) (x2 : Int32)  {σ : Mem} (h : f_X5_nothingIsCut x1 x2 σ = some res) : G X σ 0 [(0, .ref (eA (xE X) 50)), (1, .int x1), (2, .int x2)] [] := by
  unfold f_X5_nothingIsCut at h
  refine g_aload_n o (q := 1) 0 rfl rfl dX5_nothingIsCut_0 rfl ?_
  refine gf_X5_0 o (q := 4) kM_50 lk_X5_9 dX5_nothingIsCut_1 rfl ?_
  refine g_iconst o (v := 4) (q := 5) (by decide) dX5_nothingIsCut_4 rfl ?_
  refine g_iald o (q := 6) kM_51 dX5_nothingIsCut_5 rfl h (fun j21 hjj21 h => ?_)
  refine g_istore_n o (q := 7) dX5_nothingIsCut_6 rfl rfl (by decide) h (fun x22 => [(3, .int x22), (0, .ref (eA (xE X) 50)), (1, .int x1), (2, .int x2)]) (fun _ => rfl) (fun x22 h => ?_)
  refine g_aload_n o (q := 8) 1 rfl rfl dX5_nothingIsCut_7 rfl ?_
  refine gf_X5_0 o (q := 11) kM_50 lk_X5_9 dX5_nothingIsCut_8 rfl ?_
  refine g_aload_n o (q := 12) 1 rfl rfl dX5_nothingIsCut_11 rfl ?_
  refine gf_X5_2 o (q := 15) kM_50 lk_X5_16 dX5_nothingIsCut_12 rfl ?_
  refine g_csv o (q := 18) (As := [.ref (eA (xE X) 51), .ref (eA (xE X) 53)]) (rest := []) kv_X5_copyRow lk_X5_61 rfl (fun _ _ hc => c_X5_copyRow o.mk 51 53 kM_51 kM_53 hc) dX5_nothingIsCut_15 rfl ⟨rfl, rfl, Nat.le_of_ble_eq_true rfl, Nat.le_of_ble_eq_true rfl⟩ (Nat.le_of_ble_eq_true rfl) rfl h (fun _u23 σ23 h => ?_)
  refine g_iconst o (v := 0) (q := 19) (by decide) dX5_nothingIsCut_18 rfl ?_
  refine g_istore o (q := 21) dX5_nothingIsCut_19 rfl (by decide) h (fun x24 => [(4, .int x24), (3, .int x22), (0, .ref (eA (xE X) 50)), (1, .int x1), (2, .int x2)]) (fun _ => rfl) (fun x24 h => ?_)
  refine g_sub (lv' := [(0, .ref (eA (xE X) 50)), (1, .int x1), (2, .int x2), (3, .int x22), (4, .int x24)]) [2, 3, 4, 1, 0] rfl ?_
  exact w_X5_nothingIsCut_L21 hres o hr  FU x1 x2 x22 x24 σ23  h
theorem c_X5_nothingIsCut {l : Launch} {E : En} {mk : Mem → Mem} (hmk : MK mk sdM) (x1 : Int32) (x2 : Int32)  {σ : Mem} {r : Int32} {τ : Mem} (h : f_X5_nothingIsCut x1 x2 σ = some (r, τ)) : Met l yX5_nothingIsCut (Cond.code yX5_nothingIsCut cX5_nothingIsCut 5 (some .boolean) :: wt) rm_X5_nothingIsCut (PW E mk [.ref (eA E 50), .int x1, .int x2] σ) (QI E mk r τ) 0 0 (WA E) :=
  met_i (fun E => [.ref (eA E 50), .int x1, .int x2]) (by decide) hmk (Nat.le_of_ble_eq_true rfl) (fun X o hr => w_X5_nothingIsCut rfl o hr x1 x2  h)
set_option maxRecDepth 100000 in
set_option maxHeartbeats 4000000 in
theorem w_X5_tie_J63 {X : Cx} {l : Launch} {r : Int32} {σr : Mem} {res : Int32 × Mem} (hres : res = (r, σr)) (o : OK X cX5_tie RX5 sdM 4 rm_X5_tie l) (hr : RI X .int r σr) {k30 : Int32 → Int32 → Int32 → Mem → Option (Int32 × Mem)} (hk30 : ∀ (y1 : Int32) (y2 : Int32) (y3 : Int32) (σ : Mem), k30 y1 y2 y3 σ = some res → G X σ 30 [(0, .ref (eA (xE X) 50)), (1, .int y1), (2, .int y2), (3, .int y3)] []) {y1 : Int32} {y3 : Int32} {s0 : Int32}  {σ : Mem} (h : f_X5_tie_J63 k30 y1 y3 s0 σ = some res) : G X σ 63 [(0, .ref (eA (xE X) 50)), (1, .int y1), (3, .int y3)] [.int s0] := by
  unfold f_X5_tie_J63 at h
  refine g_istore_n o (q := 64) dX5_tie_63 rfl rfl (by decide) h (fun x30 => [(2, .int x30), (0, .ref (eA (xE X) 50)), (1, .int y1), (3, .int y3)]) (fun _ => rfl) (fun x30 h => ?_)
  refine g_iinc o (q := 67) (dn := (-1)) dX5_tie_64 rfl 3 rfl (by decide) (by decide) h (fun x31 => [(3, .int x31), (2, .int x30), (0, .ref (eA (xE X) 50)), (1, .int y1)]) (fun _ => rfl) (fun x31 h => ?_)
  refine g_goto o (tgt := 30) dX5_tie_67 (by decide) ?_
  refine g_sub (lv' := [(0, .ref (eA (xE X) 50)), (1, .int y1), (2, .int x30), (3, .int x31)]) [2, 3, 1, 0] rfl ?_
  exact hk30 y1 x30 x31 σ  h
set_option maxRecDepth 100000 in
set_option maxHeartbeats 4000000 in
theorem w_X5_tie_J62 {X : Cx} {l : Launch} {r : Int32} {σr : Mem} {res : Int32 × Mem} (hres : res = (r, σr)) (o : OK X cX5_tie RX5 sdM 4 rm_X5_tie l) (hr : RI X .int r σr) {k30 : Int32 → Int32 → Int32 → Mem → Option (Int32 × Mem)} (hk30 : ∀ (y1 : Int32) (y2 : Int32) (y3 : Int32) (σ : Mem), k30 y1 y2 y3 σ = some res → G X σ 30 [(0, .ref (eA (xE X) 50)), (1, .int y1), (2, .int y2), (3, .int y3)] []) {y1 : Int32} {y2 : Int32} {y3 : Int32}  {σ : Mem} (h : f_X5_tie_J62 k30 y1 y2 y3 σ = some res) : G X σ 62 [(0, .ref (eA (xE X) 50)), (1, .int y1), (2, .int y2), (3, .int y3)] [] := by
  unfold f_X5_tie_J62 at h
  refine g_iload_n o (q := 63) 2 rfl rfl dX5_tie_62 rfl ?_
  refine g_sub (lv' := [(0, .ref (eA (xE X) 50)), (1, .int y1), (3, .int y3)]) [0, 1, 3] rfl ?_
  exact w_X5_tie_J63 hres o hr hk30  h
set_option maxRecDepth 100000 in
set_option maxHeartbeats 4000000 in
theorem w_X5_tie_J49 {X : Cx} {l : Launch} {r : Int32} {σr : Mem} {res : Int32 × Mem} (hres : res = (r, σr)) (o : OK X cX5_tie RX5 sdM 4 rm_X5_tie l) (hr : RI X .int r σr) {k30 : Int32 → Int32 → Int32 → Mem → Option (Int32 × Mem)} (hk30 : ∀ (y1 : Int32) (y2 : Int32) (y3 : Int32) (σ : Mem), k30 y1 y2 y3 σ = some res → G X σ 30 [(0, .ref (eA (xE X) 50)), (1, .int y1), (2, .int y2), (3, .int y3)] []) {y1 : Int32} {y2 : Int32} {y3 : Int32}  {σ : Mem} (h : f_X5_tie_J49 k30 y1 y2 y3 σ = some res) : G X σ 49 [(0, .ref (eA (xE X) 50)), (1, .int y1), (2, .int y2), (3, .int y3)] [] := by
  unfold f_X5_tie_J49 at h
  refine g_aload_n o (q := 50) 0 rfl rfl dX5_tie_49 rfl ?_
  refine g_iload_n o (q := 51) 3 rfl rfl dX5_tie_50 rfl ?_
  refine g_iload_n o (q := 52) 1 rfl rfl dX5_tie_51 rfl ?_
  refine g_cvi o (q := 55) (As := [.int y3, .int y1]) (rest := []) kv_X5_nothingIsCut lk_X5_202 kM_50 (by decide) rfl rfl rfl (fun _ _ hc => c_X5_nothingIsCut o.mk y3 y1 hc) dX5_tie_52 rfl ⟨rfl, rfl, Nat.le_of_ble_eq_true rfl, Nat.le_of_ble_eq_true rfl⟩ (Nat.le_of_ble_eq_true rfl) rfl h (fun r29 σ28 h => ?_)
  refine g_if_eq o (tgt := 62) (q := 58) dX5_tie_55 (by decide) rfl h (fun h => ?_) (fun h => ?_)
  · exact w_X5_tie_J62 hres o hr hk30  h
  · refine g_iload_n o (q := 59) 3 rfl rfl dX5_tie_58 rfl ?_
    refine g_goto o (tgt := 63) dX5_tie_59 (by decide) ?_
    refine g_sub (lv' := [(0, .ref (eA (xE X) 50)), (1, .int y1), (3, .int y3)]) [0, 1, 3] rfl ?_
    exact w_X5_tie_J63 hres o hr hk30  h
set_option maxRecDepth 100000 in
set_option maxHeartbeats 4000000 in
theorem w_X5_tie_L30 {X : Cx} {l : Launch} {r : Int32} {σr : Mem} {res : Int32 × Mem} (hres : res = (r, σr)) (o : OK X cX5_tie RX5 sdM 4 rm_X5_tie l) (hr : RI X .int r σr)   : ∀ (n : Nat) (y1 : Int32) (y2 : Int32) (y3 : Int32) (σ : Mem), f_X5_tie_L30  n y1 y2 y3 σ = some res → G X σ 30 [(0, .ref (eA (xE X) 50)), (1, .int y1), (2, .int y2), (3, .int y3)] [] := by
  intro n
  induction n with
  | zero => intro y1 y2 y3 σ  h; cases h
  | succ n ih =>
    intro y1 y2 y3 σ  h
    rw [f_X5_tie_L30_s] at h
    refine g_iload_n o (q := 31) 3 rfl rfl dX5_tie_30 rfl ?_
    refine g_if_lt o (tgt := 70) (q := 34) dX5_tie_31 (by decide) rfl h (fun h => ?_) (fun h => ?_)
    · refine g_aload_n o (q := 71) 0 rfl rfl dX5_tie_70 rfl ?_
      refine g_iload_n o (q := 72) 2 rfl rfl dX5_tie_71 rfl ?_
      refine g_cvi o (q := 75) (As := [.int y2]) (rest := []) kv_X5_orNone lk_X5_192 kM_50 (by decide) rfl rfl rfl (fun _ _ hc => c_X5_orNone o.mk y2 hc) dX5_tie_72 rfl ⟨rfl, rfl, Nat.le_of_ble_eq_true rfl, Nat.le_of_ble_eq_true rfl⟩ (Nat.le_of_ble_eq_true rfl) rfl h (fun r27 σ26 h => ?_)
      exact g_iret o hr (h.trans (congrArg some hres)) rfl dX5_tie_75
    · refine g_iload_n o (q := 35) 2 rfl rfl dX5_tie_34 rfl ?_
      refine g_if_lt o (tgt := 49) (q := 38) dX5_tie_35 (by decide) rfl h (fun h => ?_) (fun h => ?_)
      · exact w_X5_tie_J49 hres o hr ih  h
      · refine g_iload_n o (q := 39) 3 rfl rfl dX5_tie_38 rfl ?_
        refine g_csi o (q := 42) (As := [.int y3]) (rest := []) kv_X5_bits lk_X5_101 rfl (fun _ _ hc => c_X5_bits o.mk y3 hc) dX5_tie_39 rfl ⟨rfl, rfl, Nat.le_of_ble_eq_true rfl, Nat.le_of_ble_eq_true rfl⟩ (Nat.le_of_ble_eq_true rfl) rfl h (fun r33 σ32 h => ?_)
        refine g_iload_n o (q := 43) 2 rfl rfl dX5_tie_42 rfl ?_
        refine g_csi o (q := 46) (As := [.int y2]) (rest := [.int r33]) kv_X5_bits lk_X5_101 rfl (fun _ _ hc => c_X5_bits o.mk y2 hc) dX5_tie_43 rfl ⟨rfl, rfl, Nat.le_of_ble_eq_true rfl, Nat.le_of_ble_eq_true rfl⟩ (Nat.le_of_ble_eq_true rfl) rfl h (fun r35 σ34 h => ?_)
        refine g_icmp_gt o (tgt := 62) (q := 49) dX5_tie_46 (by decide) rfl h (fun h => ?_) (fun h => ?_)
        · exact w_X5_tie_J62 hres o hr ih  h
        · exact w_X5_tie_J49 hres o hr ih  h
set_option maxRecDepth 100000 in
set_option maxHeartbeats 4000000 in
theorem w_X5_tie {X : Cx} {l : Launch} {r : Int32} {σr : Mem} {res : Int32 × Mem} (hres : res = (r, σr)) (o : OK X cX5_tie RX5 sdM 4 rm_X5_tie l) (hr : RI X .int r σr) (x1 : Int32)  {σ : Mem} (h : f_X5_tie x1 σ = some res) : G X σ 0 [(0, .ref (eA (xE X) 50)), (1, .int x1)] [] := by
  unfold f_X5_tie at h
  refine g_iload_n o (q := 1) 1 rfl rfl dX5_tie_0 rfl ?_
  refine g_iconst o (v := 0) (q := 2) (by decide) dX5_tie_1 rfl ?_
  refine g_bipush o (v := 20) (q := 4) (by decide) dX5_tie_2 rfl ?_
  refine g_csi o (q := 7) (As := [.int x1, .int 0, .int 20]) (rest := []) kv_X5_within lk_X5_70 rfl (fun _ _ hc => c_X5_within o.mk x1 0 20 hc) dX5_tie_4 rfl ⟨rfl, rfl, Nat.le_of_ble_eq_true rfl, Nat.le_of_ble_eq_true rfl⟩ (Nat.le_of_ble_eq_true rfl) rfl h (fun r22 σ21 h => ?_)
  refine g_if_ne o (tgt := 17) (q := 10) dX5_tie_7 (by decide) rfl h (fun h => ?_) (fun h => ?_)
  · refine g_iconst o (v := (-1)) (q := 18) (by decide) dX5_tie_17 rfl ?_
    refine g_istore_n o (q := 19) dX5_tie_18 rfl rfl (by decide) h (fun x23 => [(2, .int x23), (0, .ref (eA (xE X) 50)), (1, .int x1)]) (fun _ => rfl) (fun x23 h => ?_)
    refine g_iconst o (v := 1) (q := 20) (by decide) dX5_tie_19 rfl ?_
    refine g_aload_n o (q := 21) 1 rfl rfl dX5_tie_20 rfl ?_
    refine gf_X5_0 o (q := 24) kM_50 lk_X5_9 dX5_tie_21 rfl ?_
    refine g_iconst o (v := 1) (q := 25) (by decide) dX5_tie_24 rfl ?_
    refine g_iald o (q := 26) kM_51 dX5_tie_25 rfl h (fun j24 hjj24 h => ?_)
    refine g_ishl o (q := 27) dX5_tie_26 rfl ?_
    refine g_iconst o (v := 1) (q := 28) (by decide) dX5_tie_27 rfl ?_
    refine g_isub o (q := 29) dX5_tie_28 rfl ?_
    refine g_istore_n o (q := 30) dX5_tie_29 rfl rfl (by decide) h (fun x25 => [(3, .int x25), (2, .int x23), (0, .ref (eA (xE X) 50)), (1, .int x1)]) (fun _ => rfl) (fun x25 h => ?_)
    refine g_sub (lv' := [(0, .ref (eA (xE X) 50)), (1, .int x1), (2, .int x23), (3, .int x25)]) [2, 3, 1, 0] rfl ?_
    exact w_X5_tie_L30 hres o hr  FU x1 x23 x25 σ21  h
  · refine g_aload_n o (q := 11) 0 rfl rfl dX5_tie_10 rfl ?_
    refine g_ldc o (q := 13) lk_X5_60 dX5_tie_11 rfl ?_
    refine g_cvi o (q := 16) (As := [.int (-1000001)]) (rest := []) kv_X5_finding lk_X5_66 kM_50 (by decide) rfl rfl rfl (fun _ _ hc => c_X5_finding o.mk (-1000001) hc) dX5_tie_13 rfl ⟨rfl, rfl, Nat.le_of_ble_eq_true rfl, Nat.le_of_ble_eq_true rfl⟩ (Nat.le_of_ble_eq_true rfl) rfl h (fun r37 σ36 h => ?_)
    exact g_iret o hr (h.trans (congrArg some hres)) rfl dX5_tie_16
theorem c_X5_tie {l : Launch} {E : En} {mk : Mem → Mem} (hmk : MK mk sdM) (x1 : Int32)  {σ : Mem} {r : Int32} {τ : Mem} (h : f_X5_tie x1 σ = some (r, τ)) : Met l yX5_tie (Cond.code yX5_tie cX5_tie 4 (some .int) :: wt) rm_X5_tie (PW E mk [.ref (eA E 50), .int x1] σ) (QI E mk r τ) 0 0 (WA E) :=
  met_i (fun E => [.ref (eA E 50), .int x1]) (by decide) hmk (Nat.le_of_ble_eq_true rfl) (fun X o hr => w_X5_tie rfl o hr x1  h)
set_option maxRecDepth 100000 in
set_option maxHeartbeats 4000000 in
theorem w_X5_pleases_J43 {X : Cx} {l : Launch} {r : Int32} {σr : Mem} {res : Int32 × Mem} (hres : res = (r, σr)) (o : OK X cX5_pleases RX5 sdM 4 rm_X5_pleases l) (hr : RI X .boolean r σr) {k4 : Int32 → Int32 → Int32 → Mem → Option (Int32 × Mem)} (hk4 : ∀ (y1 : Int32) (y2 : Int32) (y3 : Int32) (σ : Mem), k4 y1 y2 y3 σ = some res → G X σ 4 [(0, .ref (eA (xE X) 50)), (1, .int y1), (2, .int y2), (3, .int y3)] []) {y1 : Int32} {y3 : Int32} {s0 : Int32}  {σ : Mem} (h : f_X5_pleases_J43 k4 y1 y3 s0 σ = some res) : G X σ 43 [(0, .ref (eA (xE X) 50)), (1, .int y1), (3, .int y3)] [.int s0] := by
  unfold f_X5_pleases_J43 at h
  refine g_istore_n o (q := 44) dX5_pleases_43 rfl rfl (by decide) h (fun x24 => [(2, .int x24), (0, .ref (eA (xE X) 50)), (1, .int y1), (3, .int y3)]) (fun _ => rfl) (fun x24 h => ?_)
  refine g_iinc o (q := 47) (dn := 1) dX5_pleases_44 rfl 3 rfl (by decide) (by decide) h (fun x25 => [(3, .int x25), (2, .int x24), (0, .ref (eA (xE X) 50)), (1, .int y1)]) (fun _ => rfl) (fun x25 h => ?_)
  refine g_goto o (tgt := 4) dX5_pleases_47 (by decide) ?_
  refine g_sub (lv' := [(0, .ref (eA (xE X) 50)), (1, .int y1), (2, .int x24), (3, .int x25)]) [2, 3, 1, 0] rfl ?_
  exact hk4 y1 x24 x25 σ  h
set_option maxRecDepth 100000 in
set_option maxHeartbeats 4000000 in
theorem w_X5_pleases_J42 {X : Cx} {l : Launch} {r : Int32} {σr : Mem} {res : Int32 × Mem} (hres : res = (r, σr)) (o : OK X cX5_pleases RX5 sdM 4 rm_X5_pleases l) (hr : RI X .boolean r σr) {k4 : Int32 → Int32 → Int32 → Mem → Option (Int32 × Mem)} (hk4 : ∀ (y1 : Int32) (y2 : Int32) (y3 : Int32) (σ : Mem), k4 y1 y2 y3 σ = some res → G X σ 4 [(0, .ref (eA (xE X) 50)), (1, .int y1), (2, .int y2), (3, .int y3)] []) {y1 : Int32} {y3 : Int32}  {σ : Mem} (h : f_X5_pleases_J42 k4 y1 y3 σ = some res) : G X σ 42 [(0, .ref (eA (xE X) 50)), (1, .int y1), (3, .int y3)] [] := by
  unfold f_X5_pleases_J42 at h
  refine g_iconst o (v := 0) (q := 43) (by decide) dX5_pleases_42 rfl ?_
  exact w_X5_pleases_J43 hres o hr hk4  h
set_option maxRecDepth 100000 in
set_option maxHeartbeats 4000000 in
theorem w_X5_pleases_J38 {X : Cx} {l : Launch} {r : Int32} {σr : Mem} {res : Int32 × Mem} (hres : res = (r, σr)) (o : OK X cX5_pleases RX5 sdM 4 rm_X5_pleases l) (hr : RI X .boolean r σr) {k4 : Int32 → Int32 → Int32 → Mem → Option (Int32 × Mem)} (hk4 : ∀ (y1 : Int32) (y2 : Int32) (y3 : Int32) (σ : Mem), k4 y1 y2 y3 σ = some res → G X σ 4 [(0, .ref (eA (xE X) 50)), (1, .int y1), (2, .int y2), (3, .int y3)] []) {y1 : Int32} {y3 : Int32}  {σ : Mem} (h : f_X5_pleases_J38 k4 y1 y3 σ = some res) : G X σ 38 [(0, .ref (eA (xE X) 50)), (1, .int y1), (3, .int y3)] [] := by
  unfold f_X5_pleases_J38 at h
  refine g_iconst o (v := 1) (q := 39) (by decide) dX5_pleases_38 rfl ?_
  refine g_goto o (tgt := 43) dX5_pleases_39 (by decide) ?_
  exact w_X5_pleases_J43 hres o hr hk4  h
set_option maxRecDepth 100000 in
set_option maxHeartbeats 4000000 in
theorem w_X5_pleases_L4 {X : Cx} {l : Launch} {r : Int32} {σr : Mem} {res : Int32 × Mem} (hres : res = (r, σr)) (o : OK X cX5_pleases RX5 sdM 4 rm_X5_pleases l) (hr : RI X .boolean r σr)   : ∀ (n : Nat) (y1 : Int32) (y2 : Int32) (y3 : Int32) (σ : Mem), f_X5_pleases_L4  n y1 y2 y3 σ = some res → G X σ 4 [(0, .ref (eA (xE X) 50)), (1, .int y1), (2, .int y2), (3, .int y3)] [] := by
  intro n
  induction n with
  | zero => intro y1 y2 y3 σ  h; cases h
  | succ n ih =>
    intro y1 y2 y3 σ  h
    rw [f_X5_pleases_L4_s] at h
    refine g_iload_n o (q := 5) 3 rfl rfl dX5_pleases_4 rfl ?_
    refine g_aload_n o (q := 6) 0 rfl rfl dX5_pleases_5 rfl ?_
    refine gf_X5_0 o (q := 9) kM_50 lk_X5_9 dX5_pleases_6 rfl ?_
    refine g_iconst o (v := 1) (q := 10) (by decide) dX5_pleases_9 rfl ?_
    refine g_iald o (q := 11) kM_51 dX5_pleases_10 rfl h (fun j23 hjj23 h => ?_)
    refine g_icmp_ge o (tgt := 50) (q := 14) dX5_pleases_11 (by decide) rfl h (fun h => ?_) (fun h => ?_)
    · refine g_iload_n o (q := 51) 2 rfl rfl dX5_pleases_50 rfl ?_
      obtain ⟨hb, h⟩ := vB_some h
      exact g_iret o hr (h.trans (congrArg some hres)) (by rcases hb with hb | hb <;> rw [hb] <;> rfl) dX5_pleases_51
    · refine g_iload_n o (q := 15) 2 rfl rfl dX5_pleases_14 rfl ?_
      refine g_if_eq o (tgt := 42) (q := 18) dX5_pleases_15 (by decide) rfl h (fun h => ?_) (fun h => ?_)
      · refine g_sub (lv' := [(0, .ref (eA (xE X) 50)), (1, .int y1), (3, .int y3)]) [0, 1, 3] rfl ?_
        exact w_X5_pleases_J42 hres o hr ih  h
      · refine g_aload_n o (q := 19) 0 rfl rfl dX5_pleases_18 rfl ?_
        refine g_iload_n o (q := 20) 3 rfl rfl dX5_pleases_19 rfl ?_
        refine g_iconst o (v := 2) (q := 21) (by decide) dX5_pleases_20 rfl ?_
        refine g_cvi o (q := 24) (As := [.int y3, .int 2]) (rest := []) kv_X5_curtainIs lk_X5_98 kM_50 (by decide) rfl rfl rfl (fun _ _ hc => c_X5_curtainIs o.mk y3 2 hc) dX5_pleases_21 rfl ⟨rfl, rfl, Nat.le_of_ble_eq_true rfl, Nat.le_of_ble_eq_true rfl⟩ (Nat.le_of_ble_eq_true rfl) rfl h (fun r27 σ26 h => ?_)
        refine g_if_eq o (tgt := 38) (q := 27) dX5_pleases_24 (by decide) rfl h (fun h => ?_) (fun h => ?_)
        · refine g_sub (lv' := [(0, .ref (eA (xE X) 50)), (1, .int y1), (3, .int y3)]) [0, 1, 3] rfl ?_
          exact w_X5_pleases_J38 hres o hr ih  h
        · refine g_aload_n o (q := 28) 0 rfl rfl dX5_pleases_27 rfl ?_
          refine g_iload_n o (q := 29) 3 rfl rfl dX5_pleases_28 rfl ?_
          refine g_iconst o (v := 2) (q := 30) (by decide) dX5_pleases_29 rfl ?_
          refine g_cvi o (q := 33) (As := [.int y3, .int 2]) (rest := []) kv_X5_curtainIs lk_X5_98 kM_50 (by decide) rfl rfl rfl (fun _ _ hc => c_X5_curtainIs o.mk y3 2 hc) dX5_pleases_30 rfl ⟨rfl, rfl, Nat.le_of_ble_eq_true rfl, Nat.le_of_ble_eq_true rfl⟩ (Nat.le_of_ble_eq_true rfl) rfl h (fun r29 σ28 h => ?_)
          refine g_iload_n o (q := 34) 1 rfl rfl dX5_pleases_33 rfl ?_
          refine g_iand o (q := 35) dX5_pleases_34 rfl ?_
          refine g_if_eq o (tgt := 42) (q := 38) dX5_pleases_35 (by decide) rfl h (fun h => ?_) (fun h => ?_)
          · refine g_sub (lv' := [(0, .ref (eA (xE X) 50)), (1, .int y1), (3, .int y3)]) [0, 1, 3] rfl ?_
            exact w_X5_pleases_J42 hres o hr ih  h
          · refine g_sub (lv' := [(0, .ref (eA (xE X) 50)), (1, .int y1), (3, .int y3)]) [0, 1, 3] rfl ?_
            exact w_X5_pleases_J38 hres o hr ih  h
set_option maxRecDepth 100000 in
set_option maxHeartbeats 4000000 in
theorem w_X5_pleases {X : Cx} {l : Launch} {r : Int32} {σr : Mem} {res : Int32 × Mem} (hres : res = (r, σr)) (o : OK X cX5_pleases RX5 sdM 4 rm_X5_pleases l) (hr : RI X .boolean r σr) (x1 : Int32)  {σ : Mem} (h : f_X5_pleases x1 σ = some res) : G X σ 0 [(0, .ref (eA (xE X) 50)), (1, .int x1)] [] := by
  unfold f_X5_pleases at h
  refine g_iconst o (v := 1) (q := 1) (by decide) dX5_pleases_0 rfl ?_
  refine g_istore_n o (q := 2) dX5_pleases_1 rfl rfl (by decide) h (fun x21 => [(2, .int x21), (0, .ref (eA (xE X) 50)), (1, .int x1)]) (fun _ => rfl) (fun x21 h => ?_)
  refine g_iconst o (v := 0) (q := 3) (by decide) dX5_pleases_2 rfl ?_
  refine g_istore_n o (q := 4) dX5_pleases_3 rfl rfl (by decide) h (fun x22 => [(3, .int x22), (2, .int x21), (0, .ref (eA (xE X) 50)), (1, .int x1)]) (fun _ => rfl) (fun x22 h => ?_)
  refine g_sub (lv' := [(0, .ref (eA (xE X) 50)), (1, .int x1), (2, .int x21), (3, .int x22)]) [2, 3, 1, 0] rfl ?_
  exact w_X5_pleases_L4 hres o hr  FU x1 x21 x22 σ  h
theorem c_X5_pleases {l : Launch} {E : En} {mk : Mem → Mem} (hmk : MK mk sdM) (x1 : Int32)  {σ : Mem} {r : Int32} {τ : Mem} (h : f_X5_pleases x1 σ = some (r, τ)) : Met l yX5_pleases (Cond.code yX5_pleases cX5_pleases 4 (some .boolean) :: wt) rm_X5_pleases (PW E mk [.ref (eA E 50), .int x1] σ) (QI E mk r τ) 0 0 (WA E) :=
  met_i (fun E => [.ref (eA E 50), .int x1]) (by decide) hmk (Nat.le_of_ble_eq_true rfl) (fun X o hr => w_X5_pleases rfl o hr x1  h)
set_option maxRecDepth 100000 in
set_option maxHeartbeats 4000000 in
theorem w_X5_please_J36 {X : Cx} {l : Launch} {r : Int32} {σr : Mem} {res : Int32 × Mem} (hres : res = (r, σr)) (o : OK X cX5_please RX5 sdM 3 rm_X5_please l) (hr : RI X .int r σr) {k8 : Int32 → Int32 → Mem → Option (Int32 × Mem)} (hk8 : ∀ (y1 : Int32) (y2 : Int32) (σ : Mem), k8 y1 y2 σ = some res → G X σ 8 [(0, .ref (eA (xE X) 50)), (1, .int y1), (2, .int y2)] []) {y2 : Int32} {s0 : Int32}  {σ : Mem} (h : f_X5_please_J36 k8 y2 s0 σ = some res) : G X σ 36 [(0, .ref (eA (xE X) 50)), (2, .int y2)] [.int s0] := by
  unfold f_X5_please_J36 at h
  refine g_istore_n o (q := 37) dX5_please_36 rfl rfl (by decide) h (fun x27 => [(1, .int x27), (0, .ref (eA (xE X) 50)), (2, .int y2)]) (fun _ => rfl) (fun x27 h => ?_)
  refine g_iinc o (q := 40) (dn := (-1)) dX5_please_37 rfl 2 rfl (by decide) (by decide) h (fun x28 => [(2, .int x28), (1, .int x27), (0, .ref (eA (xE X) 50))]) (fun _ => rfl) (fun x28 h => ?_)
  refine g_goto o (tgt := 8) dX5_please_40 (by decide) ?_
  refine g_sub (lv' := [(0, .ref (eA (xE X) 50)), (1, .int x27), (2, .int x28)]) [2, 1, 0] rfl ?_
  exact hk8 x27 x28 σ  h
set_option maxRecDepth 100000 in
set_option maxHeartbeats 4000000 in
theorem w_X5_please_J35 {X : Cx} {l : Launch} {r : Int32} {σr : Mem} {res : Int32 × Mem} (hres : res = (r, σr)) (o : OK X cX5_please RX5 sdM 3 rm_X5_please l) (hr : RI X .int r σr) {k8 : Int32 → Int32 → Mem → Option (Int32 × Mem)} (hk8 : ∀ (y1 : Int32) (y2 : Int32) (σ : Mem), k8 y1 y2 σ = some res → G X σ 8 [(0, .ref (eA (xE X) 50)), (1, .int y1), (2, .int y2)] []) {y1 : Int32} {y2 : Int32}  {σ : Mem} (h : f_X5_please_J35 k8 y1 y2 σ = some res) : G X σ 35 [(0, .ref (eA (xE X) 50)), (1, .int y1), (2, .int y2)] [] := by
  unfold f_X5_please_J35 at h
  refine g_iload_n o (q := 36) 1 rfl rfl dX5_please_35 rfl ?_
  refine g_sub (lv' := [(0, .ref (eA (xE X) 50)), (2, .int y2)]) [0, 2] rfl ?_
  exact w_X5_please_J36 hres o hr hk8  h
set_option maxRecDepth 100000 in
set_option maxHeartbeats 4000000 in
theorem w_X5_please_L8 {X : Cx} {l : Launch} {r : Int32} {σr : Mem} {res : Int32 × Mem} (hres : res = (r, σr)) (o : OK X cX5_please RX5 sdM 3 rm_X5_please l) (hr : RI X .int r σr)   : ∀ (n : Nat) (y1 : Int32) (y2 : Int32) (σ : Mem), f_X5_please_L8  n y1 y2 σ = some res → G X σ 8 [(0, .ref (eA (xE X) 50)), (1, .int y1), (2, .int y2)] [] := by
  intro n
  induction n with
  | zero => intro y1 y2 σ  h; cases h
  | succ n ih =>
    intro y1 y2 σ  h
    rw [f_X5_please_L8_s] at h
    refine g_iload_n o (q := 9) 2 rfl rfl dX5_please_8 rfl ?_
    refine g_if_lt o (tgt := 43) (q := 12) dX5_please_9 (by decide) rfl h (fun h => ?_) (fun h => ?_)
    · refine g_iload_n o (q := 44) 1 rfl rfl dX5_please_43 rfl ?_
      exact g_iret o hr (h.trans (congrArg some hres)) rfl dX5_please_44
    · refine g_iload_n o (q := 13) 2 rfl rfl dX5_please_12 rfl ?_
      refine g_csi o (q := 16) (As := [.int y2]) (rest := []) kv_X5_bits lk_X5_101 rfl (fun _ _ hc => c_X5_bits o.mk y2 hc) dX5_please_13 rfl ⟨rfl, rfl, Nat.le_of_ble_eq_true rfl, Nat.le_of_ble_eq_true rfl⟩ (Nat.le_of_ble_eq_true rfl) rfl h (fun r24 σ23 h => ?_)
      refine g_iload_n o (q := 17) 1 rfl rfl dX5_please_16 rfl ?_
      refine g_csi o (q := 20) (As := [.int y1]) (rest := [.int r24]) kv_X5_bits lk_X5_101 rfl (fun _ _ hc => c_X5_bits o.mk y1 hc) dX5_please_17 rfl ⟨rfl, rfl, Nat.le_of_ble_eq_true rfl, Nat.le_of_ble_eq_true rfl⟩ (Nat.le_of_ble_eq_true rfl) rfl h (fun r26 σ25 h => ?_)
      refine g_icmp_gt o (tgt := 35) (q := 23) dX5_please_20 (by decide) rfl h (fun h => ?_) (fun h => ?_)
      · exact w_X5_please_J35 hres o hr ih  h
      · refine g_aload_n o (q := 24) 0 rfl rfl dX5_please_23 rfl ?_
        refine g_iload_n o (q := 25) 2 rfl rfl dX5_please_24 rfl ?_
        refine g_cvi o (q := 28) (As := [.int y2]) (rest := []) kv_X5_pleases lk_X5_205 kM_50 (by decide) rfl rfl rfl (fun _ _ hc => c_X5_pleases o.mk y2 hc) dX5_please_25 rfl ⟨rfl, rfl, Nat.le_of_ble_eq_true rfl, Nat.le_of_ble_eq_true rfl⟩ (Nat.le_of_ble_eq_true rfl) rfl h (fun r30 σ29 h => ?_)
        refine g_if_eq o (tgt := 35) (q := 31) dX5_please_28 (by decide) rfl h (fun h => ?_) (fun h => ?_)
        · exact w_X5_please_J35 hres o hr ih  h
        · refine g_iload_n o (q := 32) 2 rfl rfl dX5_please_31 rfl ?_
          refine g_goto o (tgt := 36) dX5_please_32 (by decide) ?_
          refine g_sub (lv' := [(0, .ref (eA (xE X) 50)), (2, .int y2)]) [0, 2] rfl ?_
          exact w_X5_please_J36 hres o hr ih  h
set_option maxRecDepth 100000 in
set_option maxHeartbeats 4000000 in
theorem w_X5_please {X : Cx} {l : Launch} {r : Int32} {σr : Mem} {res : Int32 × Mem} (hres : res = (r, σr)) (o : OK X cX5_please RX5 sdM 3 rm_X5_please l) (hr : RI X .int r σr)   {σ : Mem} (h : f_X5_please  σ = some res) : G X σ 0 [(0, .ref (eA (xE X) 50))] [] := by
  unfold f_X5_please at h
  refine g_sipush o (v := 4095) (q := 3) (by decide) dX5_please_0 rfl ?_
  refine g_istore_n o (q := 4) dX5_please_3 rfl rfl (by decide) h (fun x21 => [(1, .int x21), (0, .ref (eA (xE X) 50))]) (fun _ => rfl) (fun x21 h => ?_)
  refine g_sipush o (v := 4095) (q := 7) (by decide) dX5_please_4 rfl ?_
  refine g_istore_n o (q := 8) dX5_please_7 rfl rfl (by decide) h (fun x22 => [(2, .int x22), (1, .int x21), (0, .ref (eA (xE X) 50))]) (fun _ => rfl) (fun x22 h => ?_)
  refine g_sub (lv' := [(0, .ref (eA (xE X) 50)), (1, .int x21), (2, .int x22)]) [2, 1, 0] rfl ?_
  exact w_X5_please_L8 hres o hr  FU x21 x22 σ  h
theorem c_X5_please {l : Launch} {E : En} {mk : Mem → Mem} (hmk : MK mk sdM)   {σ : Mem} {r : Int32} {τ : Mem} (h : f_X5_please  σ = some (r, τ)) : Met l yX5_please (Cond.code yX5_please cX5_please 3 (some .int) :: wt) rm_X5_please (PW E mk [.ref (eA E 50)] σ) (QI E mk r τ) 0 0 (WA E) :=
  met_i (fun E => [.ref (eA E 50)]) (by decide) hmk (Nat.le_of_ble_eq_true rfl) (fun X o hr => w_X5_please rfl o hr   h)
set_option maxRecDepth 100000 in
set_option maxHeartbeats 4000000 in
theorem w_X5_isSheet {X : Cx} {l : Launch} {r : Int32} {σr : Mem} {res : Int32 × Mem} (hres : res = (r, σr)) (o : OK X cX5_isSheet RX5 sdM 1 rm_X5_isSheet l) (hr : RI X .boolean r σr) (x0 : Int32)  {σ : Mem} (h : f_X5_isSheet x0 σ = some res) : G X σ 0 [(0, .int x0)] [] := by
  unfold f_X5_isSheet at h
  refine g_iload_n o (q := 1) 0 rfl rfl dX5_isSheet_0 rfl ?_
  refine g_iconst o (v := 0) (q := 2) (by decide) dX5_isSheet_1 rfl ?_
  refine g_iconst o (v := 3) (q := 3) (by decide) dX5_isSheet_2 rfl ?_
  refine g_csi o (q := 6) (As := [.int x0, .int 0, .int 3]) (rest := []) kv_X5_within lk_X5_70 rfl (fun _ _ hc => c_X5_within o.mk x0 0 3 hc) dX5_isSheet_3 rfl ⟨rfl, rfl, Nat.le_of_ble_eq_true rfl, Nat.le_of_ble_eq_true rfl⟩ (Nat.le_of_ble_eq_true rfl) rfl h (fun r22 σ21 h => ?_)
  obtain ⟨hb, h⟩ := vB_some h
  exact g_iret o hr (h.trans (congrArg some hres)) (by rcases hb with hb | hb <;> rw [hb] <;> rfl) dX5_isSheet_6
theorem c_X5_isSheet {l : Launch} {E : En} {mk : Mem → Mem} (hmk : MK mk sdM) (x0 : Int32)  {σ : Mem} {r : Int32} {τ : Mem} (h : f_X5_isSheet x0 σ = some (r, τ)) : Met l yX5_isSheet (Cond.code yX5_isSheet cX5_isSheet 1 (some .boolean) :: wt) rm_X5_isSheet (PW E mk [.int x0] σ) (QI E mk r τ) 0 0 (WA E) :=
  met_i (fun E => [.int x0]) (by decide) hmk (Nat.le_of_ble_eq_true rfl) (fun X o hr => w_X5_isSheet rfl o hr x0  h)
