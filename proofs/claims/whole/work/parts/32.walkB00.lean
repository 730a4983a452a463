set_option maxRecDepth 100000 in
set_option maxHeartbeats 4000000 in
theorem w_X1_take_L80 {X : Cx} {l : Launch} {u : Unit} {σr : Mem} {res : Unit × Mem} (hres : res = (u, σr)) (o : OK X cX1_take RX1 sdC 3 rm_X1_take l) (hr : RV X σr)   : ∀ (n : Nat) (b0 : Nat) (b1 : Nat) (y2 : Int32) (σ : Mem), kd sdC b0 1 → kd sdC b1 1 → f_X1_take_L80  n b0 b1 y2 σ = some res → G X σ 80 [(0, .ref (eA (xE X) b0)), (1, .ref (eA (xE X) b1)), (2, .int y2)] [] := by
  intro n
  induction n with
  | zero => intro b0 b1 y2 σ g0 g1 h; cases h
  | succ n ih =>
    intro b0 b1 y2 σ g0 g1 h
    rw [f_X1_take_L80_s] at h
    refine g_iload_n o (q := 81) 2 rfl rfl dX1_take_80 rfl ?_
    refine g_aload_n o (q := 82) 0 rfl rfl dX1_take_81 rfl ?_
    refine gf_X1_5 o (q := 85) g0 lk_X1_41 dX1_take_82 rfl ?_
    refine g_icmp_ge o (tgt := 109) (q := 88) dX1_take_85 (by decide) rfl h (fun h => ?_) (fun h => ?_)
    · exact g_vret o hr (h.trans (congrArg some hres)) dX1_take_109
    · refine g_aload_n o (q := 89) 0 rfl rfl dX1_take_88 rfl ?_
      refine gf_X1_8 o (q := 92) g0 lk_X1_24 dX1_take_89 rfl ?_
      refine g_iload_n o (q := 93) 2 rfl rfl dX1_take_92 rfl ?_
      refine g_aald8 o (q := 94) (ka_curs g0) dX1_take_93 rfl h (fun j30 hjj30 h => ?_)
      refine g_aload_n o (q := 95) 1 rfl rfl dX1_take_94 rfl ?_
      refine gf_X1_8 o (q := 98) g1 lk_X1_24 dX1_take_95 rfl ?_
      refine g_iload_n o (q := 99) 2 rfl rfl dX1_take_98 rfl ?_
      refine g_aald8 o (q := 100) (ka_curs g1) dX1_take_99 rfl h (fun j31 hjj31 h => ?_)
      refine g_cvv o (q := 103) (As := [.ref (eA (xE X) (b1 + 3 + 1 + j31))]) (rest := []) kv_X0_take lk_X1_50 (kd_cur (ka_curs g0) hjj30) (by decide) rfl rfl rfl (fun _ _ hc => c_X0_take o.mk (b0 + 3 + 1 + j30) (b1 + 3 + 1 + j31) (kd_cur (ka_curs g0) hjj30) (kd_cur (ka_curs g1) hjj31) hc) dX1_take_100 rfl ⟨rfl, rfl, Nat.le_of_ble_eq_true rfl, Nat.le_of_ble_eq_true rfl⟩ (Nat.le_of_ble_eq_true rfl) rfl h (fun _u32 σ32 h => ?_)
      refine g_iinc o (q := 106) (dn := 1) dX1_take_103 rfl 2 rfl (by decide) (by decide) h (fun x33 => [(2, .int x33), (0, .ref (eA (xE X) b0)), (1, .ref (eA (xE X) b1))]) (fun _ => rfl) (fun x33 h => ?_)
      refine g_goto o (tgt := 80) dX1_take_106 (by decide) ?_
      refine g_sub (lv' := [(0, .ref (eA (xE X) b0)), (1, .ref (eA (xE X) b1)), (2, .int x33)]) [1, 2, 0] rfl ?_
      exact ih b0 b1 x33 σ32 g0 g1 h
set_option maxRecDepth 100000 in
set_option maxHeartbeats 4000000 in
theorem w_X1_take {X : Cx} {l : Launch} {u : Unit} {σr : Mem} {res : Unit × Mem} (hres : res = (u, σr)) (o : OK X cX1_take RX1 sdC 3 rm_X1_take l) (hr : RV X σr) (a0 : Nat) (a1 : Nat) (h0 : kd sdC a0 1) (h1 : kd sdC a1 1) {σ : Mem} (h : f_X1_take a0 a1 σ = some res) : G X σ 0 [(0, .ref (eA (xE X) a0)), (1, .ref (eA (xE X) a1))] [] := by
  unfold f_X1_take at h
  refine g_aload_n o (q := 1) 0 rfl rfl dX1_take_0 rfl ?_
  refine g_aload_n o (q := 2) 1 rfl rfl dX1_take_1 rfl ?_
  refine gf_X1_0 o (q := 5) h1 lk_X1_29 dX1_take_2 rfl ?_
  refine gp_X1_0 o (q := 8) h0 lk_X1_29 dX1_take_5 rfl h (fun σ21 h => ?_)
  refine g_aload_n o (q := 9) 0 rfl rfl dX1_take_8 rfl ?_
  refine g_aload_n o (q := 10) 1 rfl rfl dX1_take_9 rfl ?_
  refine gf_X1_1 o (q := 13) h1 lk_X1_32 dX1_take_10 rfl ?_
  refine gp_X1_1 o (q := 16) h0 lk_X1_32 dX1_take_13 rfl h (fun σ22 h => ?_)
  refine g_aload_n o (q := 17) 0 rfl rfl dX1_take_16 rfl ?_
  refine g_aload_n o (q := 18) 1 rfl rfl dX1_take_17 rfl ?_
  refine gf_X1_2 o (q := 21) h1 lk_X1_35 dX1_take_18 rfl ?_
  refine gp_X1_2 o (q := 24) h0 lk_X1_35 dX1_take_21 rfl h (fun σ23 h => ?_)
  refine g_aload_n o (q := 25) 0 rfl rfl dX1_take_24 rfl ?_
  refine g_aload_n o (q := 26) 1 rfl rfl dX1_take_25 rfl ?_
  refine gf_X1_3 o (q := 29) h1 lk_X1_38 dX1_take_26 rfl ?_
  refine gp_X1_3 o (q := 32) h0 lk_X1_38 dX1_take_29 rfl h (fun σ24 h => ?_)
  refine g_aload_n o (q := 33) 0 rfl rfl dX1_take_32 rfl ?_
  refine g_aload_n o (q := 34) 1 rfl rfl dX1_take_33 rfl ?_
  refine gf_X1_4 o (q := 37) h1 lk_X1_9 dX1_take_34 rfl ?_
  refine gp_X1_4 o (q := 40) h0 lk_X1_9 dX1_take_37 rfl h (fun σ25 h => ?_)
  refine g_aload_n o (q := 41) 0 rfl rfl dX1_take_40 rfl ?_
  refine g_aload_n o (q := 42) 1 rfl rfl dX1_take_41 rfl ?_
  refine gf_X1_5 o (q := 45) h1 lk_X1_41 dX1_take_42 rfl ?_
  refine gp_X1_5 o (q := 48) h0 lk_X1_41 dX1_take_45 rfl h (fun σ26 h => ?_)
  refine g_aload_n o (q := 49) 1 rfl rfl dX1_take_48 rfl ?_
  refine gf_X1_6 o (q := 52) h1 lk_X1_15 dX1_take_49 rfl ?_
  refine g_iconst o (v := 0) (q := 53) (by decide) dX1_take_52 rfl ?_
  refine g_aload_n o (q := 54) 0 rfl rfl dX1_take_53 rfl ?_
  refine gf_X1_6 o (q := 57) h0 lk_X1_15 dX1_take_54 rfl ?_
  refine g_iconst o (v := 0) (q := 58) (by decide) dX1_take_57 rfl ?_
  refine g_bipush o (v := 6) (q := 60) (by decide) dX1_take_58 rfl ?_
  refine g_acpy o (q := 63) (ka_list h1) (ka_list h0) lk_X1_44 dX1_take_60 rfl h ⟨Nat.le_of_ble_eq_true rfl, Nat.le_of_ble_eq_true rfl⟩ (fun σ27 h => ?_)
  refine g_aload_n o (q := 64) 1 rfl rfl dX1_take_63 rfl ?_
  refine gf_X1_7 o (q := 67) h1 lk_X1_19 dX1_take_64 rfl ?_
  refine g_iconst o (v := 0) (q := 68) (by decide) dX1_take_67 rfl ?_
  refine g_aload_n o (q := 69) 0 rfl rfl dX1_take_68 rfl ?_
  refine gf_X1_7 o (q := 72) h0 lk_X1_19 dX1_take_69 rfl ?_
  refine g_iconst o (v := 0) (q := 73) (by decide) dX1_take_72 rfl ?_
  refine g_bipush o (v := 10) (q := 75) (by decide) dX1_take_73 rfl ?_
  refine g_acpy o (q := 78) (ka_spots h1) (ka_spots h0) lk_X1_44 dX1_take_75 rfl h ⟨Nat.le_of_ble_eq_true rfl, Nat.le_of_ble_eq_true rfl⟩ (fun σ28 h => ?_)
  refine g_iconst o (v := 0) (q := 79) (by decide) dX1_take_78 rfl ?_
  refine g_istore_n o (q := 80) dX1_take_79 rfl rfl (by decide) h (fun x29 => [(2, .int x29), (0, .ref (eA (xE X) a0)), (1, .ref (eA (xE X) a1))]) (fun _ => rfl) (fun x29 h => ?_)
  refine g_sub (lv' := [(0, .ref (eA (xE X) a0)), (1, .ref (eA (xE X) a1)), (2, .int x29)]) [1, 2, 0] rfl ?_
  exact w_X1_take_L80 hres o hr  FU a0 a1 x29 σ28 h0 h1 h
theorem c_X1_take {l : Launch} {E : En} {mk : Mem → Mem} (hmk : MK mk sdC) (a0 : Nat) (a1 : Nat) (h0 : kd sdC a0 1) (h1 : kd sdC a1 1) {σ : Mem} {r : Unit} {τ : Mem} (h : f_X1_take a0 a1 σ = some (r, τ)) : Met l yX1_take (Cond.code yX1_take cX1_take 3 none :: wt) rm_X1_take (PW E mk [.ref (eA E a0), .ref (eA E a1)] σ) (QV E mk τ) 0 0 (WA E) :=
  met_v (fun E => [.ref (eA E a0), .ref (eA E a1)]) (by decide) hmk (Nat.le_of_ble_eq_true rfl) (fun X o hr => w_X1_take rfl o hr a0 a1 h0 h1 h)
set_option maxRecDepth 100000 in
set_option maxHeartbeats 4000000 in
theorem w_X1_isFull {X : Cx} {l : Launch} {r : Int32} {σr : Mem} {res : Int32 × Mem} (hres : res = (r, σr)) (o : OK X cX1_isFull RX1 sdC 1 rm_X1_isFull l) (hr : RI X .boolean r σr) (a0 : Nat) (h0 : kd sdC a0 1) {σ : Mem} (h : f_X1_isFull a0 σ = some res) : G X σ 0 [(0, .ref (eA (xE X) a0))] [] := by
  unfold f_X1_isFull at h
  refine g_aload_n o (q := 1) 0 rfl rfl dX1_isFull_0 rfl ?_
  refine gf_X1_5 o (q := 4) h0 lk_X1_41 dX1_isFull_1 rfl ?_
  refine g_bipush o (v := 8) (q := 6) (by decide) dX1_isFull_4 rfl ?_
  refine g_icmp_lt o (tgt := 13) (q := 9) dX1_isFull_6 (by decide) rfl h (fun h => ?_) (fun h => ?_)
  · refine g_iconst o (v := 0) (q := 14) (by decide) dX1_isFull_13 rfl ?_
    exact g_iret o hr (h.trans (congrArg some hres)) (by decide) dX1_isFull_14
  · refine g_iconst o (v := 1) (q := 10) (by decide) dX1_isFull_9 rfl ?_
    refine g_goto o (tgt := 14) dX1_isFull_10 (by decide) ?_
    exact g_iret o hr (h.trans (congrArg some hres)) (by decide) dX1_isFull_14
theorem c_X1_isFull {l : Launch} {E : En} {mk : Mem → Mem} (hmk : MK mk sdC) (a0 : Nat) (h0 : kd sdC a0 1) {σ : Mem} {r : Int32} {τ : Mem} (h : f_X1_isFull a0 σ = some (r, τ)) : Met l yX1_isFull (Cond.code yX1_isFull cX1_isFull 1 (some .boolean) :: wt) rm_X1_isFull (PW E mk [.ref (eA E a0)] σ) (QI E mk r τ) 0 0 (WA E) :=
  met_i (fun E => [.ref (eA E a0)]) (by decide) hmk (Nat.le_of_ble_eq_true rfl) (fun X o hr => w_X1_isFull rfl o hr a0 h0 h)
set_option maxRecDepth 100000 in
set_option maxHeartbeats 4000000 in
theorem w_X1_hang {X : Cx} {l : Launch} {r : Nat} {σr : Mem} {res : Nat × Mem} (hres : res = (r, σr)) (o : OK X cX1_hang RX1 sdC 3 rm_X1_hang l) (hr : RR X r σr) (a0 : Nat) (x1 : Int32) (h0 : kd sdC a0 1) {σ : Mem} (h : f_X1_hang a0 x1 σ = some res) : G X σ 0 [(0, .ref (eA (xE X) a0)), (1, .int x1)] [] := by
  unfold f_X1_hang at h
  refine g_aload_n o (q := 1) 0 rfl rfl dX1_hang_0 rfl ?_
  refine gf_X1_8 o (q := 4) h0 lk_X1_24 dX1_hang_1 rfl ?_
  refine g_aload_n o (q := 5) 0 rfl rfl dX1_hang_4 rfl ?_
  refine gf_X1_5 o (q := 8) h0 lk_X1_41 dX1_hang_5 rfl ?_
  refine g_aald8 o (q := 9) (ka_curs h0) dX1_hang_8 rfl h (fun j21 hjj21 h => ?_)
  refine g_astore_n o (q := 10) dX1_hang_9 rfl rfl (by decide) [(2, .ref (eA (xE X) (a0 + 3 + 1 + j21))), (0, .ref (eA (xE X) a0)), (1, .int x1)] rfl ?_
  refine g_aload_n o (q := 11) 0 rfl rfl dX1_hang_10 rfl ?_
  refine g_iload_n o (q := 12) 2 rfl rfl dX1_hang_11 rfl ?_
  refine g_cvv o (q := 15) (As := [.int x1]) (rest := []) kv_X0_beNew lk_X1_54 (kd_cur (ka_curs h0) hjj21) (by decide) rfl rfl rfl (fun _ _ hc => c_X0_beNew o.mk (a0 + 3 + 1 + j21) x1 (kd_cur (ka_curs h0) hjj21) hc) dX1_hang_12 rfl ⟨rfl, rfl, Nat.le_of_ble_eq_true rfl, Nat.le_of_ble_eq_true rfl⟩ (Nat.le_of_ble_eq_true rfl) rfl h (fun _u22 σ22 h => ?_)
  refine g_aload_n o (q := 16) 1 rfl rfl dX1_hang_15 rfl ?_
  refine g_dup o (q := 17) rfl dX1_hang_16 rfl ?_
  refine gf_X1_5 o (q := 20) h0 lk_X1_41 dX1_hang_17 rfl ?_
  refine g_iconst o (v := 1) (q := 21) (by decide) dX1_hang_20 rfl ?_
  refine g_iadd o (q := 22) dX1_hang_21 rfl ?_
  refine gp_X1_5 o (q := 25) h0 lk_X1_41 dX1_hang_22 rfl h (fun σ23 h => ?_)
  refine g_aload_n o (q := 26) 0 rfl rfl dX1_hang_25 rfl ?_
  exact g_aret o hr (h.trans (congrArg some hres)) dX1_hang_26
theorem c_X1_hang {l : Launch} {E : En} {mk : Mem → Mem} (hmk : MK mk sdC) (a0 : Nat) (x1 : Int32) (h0 : kd sdC a0 1) {σ : Mem} {r : Nat} {τ : Mem} (h : f_X1_hang a0 x1 σ = some (r, τ)) : Met l yX1_hang (Cond.code yX1_hang cX1_hang 3 (some (.object "CurtainHouse$Curtain")) :: wt) rm_X1_hang (PW E mk [.ref (eA E a0), .int x1] σ) (QR E mk r τ) 0 0 (WA E) :=
  met_r (fun E => [.ref (eA E a0), .int x1]) (by decide) hmk (Nat.le_of_ble_eq_true rfl) (fun X o hr => w_X1_hang rfl o hr a0 x1 h0 h)
theorem hang_kd {a : Nat} {x : Int32} {σ τ : Mem} {r : Nat} (ha : kd sdC a 1) (h : f_X1_hang a x σ = some (r, τ)) : kd sdC r 0 := by
  unfold f_X1_hang at h
  obtain ⟨-, h1, h2⟩ := vI_some h
  simp only [vC, vW] at h2
  split at h2
  · cases h2
  · cases h2
    exact kd_cur (ka_curs ha) h1
set_option maxRecDepth 100000 in
set_option maxHeartbeats 4000000 in
theorem w_X1_placeIn {X : Cx} {l : Launch} {r : Int32} {σr : Mem} {res : Int32 × Mem} (hres : res = (r, σr)) (o : OK X cX1_placeIn RX1 sdC 2 rm_X1_placeIn l) (hr : RI X .int r σr) (a0 : Nat) (x1 : Int32) (h0 : kd sdC a0 1) {σ : Mem} (h : f_X1_placeIn a0 x1 σ = some res) : G X σ 0 [(0, .ref (eA (xE X) a0)), (1, .int x1)] [] := by
  unfold f_X1_placeIn at h
  refine g_ldc o (q := 2) lk_X1_58 dX1_placeIn_0 rfl ?_
  refine g_aload_n o (q := 3) 0 rfl rfl dX1_placeIn_2 rfl ?_
  refine gf_X1_3 o (q := 6) h0 lk_X1_38 dX1_placeIn_3 rfl ?_
  refine g_iload_n o (q := 7) 1 rfl rfl dX1_placeIn_6 rfl ?_
  refine g_iadd o (q := 8) dX1_placeIn_7 rfl ?_
  refine g_mmin o (q := 11) lk_X1_59 dX1_placeIn_8 rfl ⟨Nat.le_of_ble_eq_true rfl, Nat.le_of_ble_eq_true rfl⟩ ?_
  refine g_bipush o (v := 6) (q := 13) (by decide) dX1_placeIn_11 rfl ?_
  refine g_irem o (q := 14) (by decide) dX1_placeIn_13 rfl ?_
  exact g_iret o hr (h.trans (congrArg some hres)) rfl dX1_placeIn_14
theorem c_X1_placeIn {l : Launch} {E : En} {mk : Mem → Mem} (hmk : MK mk sdC) (a0 : Nat) (x1 : Int32) (h0 : kd sdC a0 1) {σ : Mem} {r : Int32} {τ : Mem} (h : f_X1_placeIn a0 x1 σ = some (r, τ)) : Met l yX1_placeIn (Cond.code yX1_placeIn cX1_placeIn 2 (some .int) :: wt) rm_X1_placeIn (PW E mk [.ref (eA E a0), .int x1] σ) (QI E mk r τ) 0 0 (WA E) :=
  met_i (fun E => [.ref (eA E a0), .int x1]) (by decide) hmk (Nat.le_of_ble_eq_true rfl) (fun X o hr => w_X1_placeIn rfl o hr a0 x1 h0 h)
set_option maxRecDepth 100000 in
set_option maxHeartbeats 4000000 in
theorem w_X1_sceneIn {X : Cx} {l : Launch} {r : Int32} {σr : Mem} {res : Int32 × Mem} (hres : res = (r, σr)) (o : OK X cX1_sceneIn RX1 sdC 2 rm_X1_sceneIn l) (hr : RI X .int r σr) (a0 : Nat) (x1 : Int32) (h0 : kd sdC a0 1) {σ : Mem} (h : f_X1_sceneIn a0 x1 σ = some res) : G X σ 0 [(0, .ref (eA (xE X) a0)), (1, .int x1)] [] := by
  unfold f_X1_sceneIn at h
  refine g_aload_n o (q := 1) 0 rfl rfl dX1_sceneIn_0 rfl ?_
  refine gf_X1_6 o (q := 4) h0 lk_X1_15 dX1_sceneIn_1 rfl ?_
  refine g_aload_n o (q := 5) 0 rfl rfl dX1_sceneIn_4 rfl ?_
  refine g_iload_n o (q := 6) 1 rfl rfl dX1_sceneIn_5 rfl ?_
  refine g_cvi o (q := 9) (As := [.int x1]) (rest := [.ref (eA (xE X) (a0 + 1))]) kv_X1_placeIn lk_X1_65 h0 (by decide) rfl rfl rfl (fun _ _ hc => c_X1_placeIn o.mk a0 x1 h0 hc) dX1_sceneIn_6 rfl ⟨rfl, rfl, Nat.le_of_ble_eq_true rfl, Nat.le_of_ble_eq_true rfl⟩ (Nat.le_of_ble_eq_true rfl) rfl h (fun r22 σ21 h => ?_)
  refine g_iald o (q := 10) (ka_list h0) dX1_sceneIn_9 rfl h (fun j23 hjj23 h => ?_)
  exact g_iret o hr (h.trans (congrArg some hres)) rfl dX1_sceneIn_10
theorem c_X1_sceneIn {l : Launch} {E : En} {mk : Mem → Mem} (hmk : MK mk sdC) (a0 : Nat) (x1 : Int32) (h0 : kd sdC a0 1) {σ : Mem} {r : Int32} {τ : Mem} (h : f_X1_sceneIn a0 x1 σ = some (r, τ)) : Met l yX1_sceneIn (Cond.code yX1_sceneIn cX1_sceneIn 2 (some .int) :: wt) rm_X1_sceneIn (PW E mk [.ref (eA E a0), .int x1] σ) (QI E mk r τ) 0 0 (WA E) :=
  met_i (fun E => [.ref (eA E a0), .int x1]) (by decide) hmk (Nat.le_of_ble_eq_true rfl) (fun X o hr => w_X1_sceneIn rfl o hr a0 x1 h0 h)
set_option maxRecDepth 100000 in
set_option maxHeartbeats 4000000 in
theorem w_X1_tellDown {X : Cx} {l : Launch} {u : Unit} {σr : Mem} {res : Unit × Mem} (hres : res = (u, σr)) (o : OK X cX1_tellDown RX1 sdC 1 rm_X1_tellDown l) (hr : RV X σr) (a0 : Nat) (h0 : kd sdC a0 1) {σ : Mem} (h : f_X1_tellDown a0 σ = some res) : G X σ 0 [(0, .ref (eA (xE X) a0))] [] := by
  unfold f_X1_tellDown at h
  refine g_aload_n o (q := 1) 0 rfl rfl dX1_tellDown_0 rfl ?_
  refine gf_X1_0 o (q := 4) h0 lk_X1_29 dX1_tellDown_1 rfl ?_
  refine g_iconst o (v := 1) (q := 5) (by decide) dX1_tellDown_4 rfl ?_
  refine g_icmp_ne o (tgt := 28) (q := 8) dX1_tellDown_5 (by decide) rfl h (fun h => ?_) (fun h => ?_)
  · refine g_aload_n o (q := 29) 0 rfl rfl dX1_tellDown_28 rfl ?_
    refine g_ldc o (q := 31) lk_X1_58 dX1_tellDown_29 rfl ?_
    refine g_aload_n o (q := 32) 0 rfl rfl dX1_tellDown_31 rfl ?_
    refine gf_X1_1 o (q := 35) h0 lk_X1_32 dX1_tellDown_32 rfl ?_
    refine g_iconst o (v := 1) (q := 36) (by decide) dX1_tellDown_35 rfl ?_
    refine g_iadd o (q := 37) dX1_tellDown_36 rfl ?_
    refine g_mmin o (q := 40) lk_X1_59 dX1_tellDown_37 rfl ⟨Nat.le_of_ble_eq_true rfl, Nat.le_of_ble_eq_true rfl⟩ ?_
    refine gp_X1_1 o (q := 43) h0 lk_X1_32 dX1_tellDown_40 rfl h (fun σ21 h => ?_)
    exact g_vret o hr (h.trans (congrArg some hres)) dX1_tellDown_43
  · refine g_aload_n o (q := 9) 0 rfl rfl dX1_tellDown_8 rfl ?_
    refine g_sipush o (v := 900) (q := 12) (by decide) dX1_tellDown_9 rfl ?_
    refine g_aload_n o (q := 13) 0 rfl rfl dX1_tellDown_12 rfl ?_
    refine gf_X1_2 o (q := 16) h0 lk_X1_35 dX1_tellDown_13 rfl ?_
    refine g_bipush o (v := 100) (q := 18) (by decide) dX1_tellDown_16 rfl ?_
    refine g_iadd o (q := 19) dX1_tellDown_18 rfl ?_
    refine g_mmin o (q := 22) lk_X1_59 dX1_tellDown_19 rfl ⟨Nat.le_of_ble_eq_true rfl, Nat.le_of_ble_eq_true rfl⟩ ?_
    refine gp_X1_2 o (q := 25) h0 lk_X1_35 dX1_tellDown_22 rfl h (fun σ22 h => ?_)
    refine g_goto o (tgt := 43) dX1_tellDown_25 (by decide) ?_
    exact g_vret o hr (h.trans (congrArg some hres)) dX1_tellDown_43
theorem c_X1_tellDown {l : Launch} {E : En} {mk : Mem → Mem} (hmk : MK mk sdC) (a0 : Nat) (h0 : kd sdC a0 1) {σ : Mem} {r : Unit} {τ : Mem} (h : f_X1_tellDown a0 σ = some (r, τ)) : Met l yX1_tellDown (Cond.code yX1_tellDown cX1_tellDown 1 none :: wt) rm_X1_tellDown (PW E mk [.ref (eA E a0)] σ) (QV E mk τ) 0 0 (WA E) :=
  met_v (fun E => [.ref (eA E a0)]) (by decide) hmk (Nat.le_of_ble_eq_true rfl) (fun X o hr => w_X1_tellDown rfl o hr a0 h0 h)
set_option maxRecDepth 100000 in
set_option maxHeartbeats 4000000 in
theorem w_X1_passBeat_J37 {X : Cx} {l : Launch} {u : Unit} {σr : Mem} {res : Unit × Mem} (hres : res = (u, σr)) (o : OK X cX1_passBeat RX1 sdC 3 rm_X1_passBeat l) (hr : RV X σr) {k8 : Nat → Int32 → Int32 → Mem → Option (Unit × Mem)} (hk8 : ∀ (b0 : Nat) (y1 : Int32) (y2 : Int32) (σ : Mem), kd sdC b0 1 → k8 b0 y1 y2 σ = some res → G X σ 8 [(0, .ref (eA (xE X) b0)), (1, .int y1), (2, .int y2)] []) {b0 : Nat} {y1 : Int32} {y2 : Int32} (g0 : kd sdC b0 1) {σ : Mem} (h : f_X1_passBeat_J37 k8 b0 y1 y2 σ = some res) : G X σ 37 [(0, .ref (eA (xE X) b0)), (1, .int y1), (2, .int y2)] [] := by
  unfold f_X1_passBeat_J37 at h
  refine g_iinc o (q := 40) (dn := 1) dX1_passBeat_37 rfl 2 rfl (by decide) (by decide) h (fun x29 => [(2, .int x29), (0, .ref (eA (xE X) b0)), (1, .int y1)]) (fun _ => rfl) (fun x29 h => ?_)
  refine g_goto o (tgt := 8) dX1_passBeat_40 (by decide) ?_
  refine g_sub (lv' := [(0, .ref (eA (xE X) b0)), (1, .int y1), (2, .int x29)]) [1, 2, 0] rfl ?_
  exact hk8 b0 y1 x29 σ g0 h
set_option maxRecDepth 100000 in
set_option maxHeartbeats 4000000 in
theorem w_X1_passBeat_L8 {X : Cx} {l : Launch} {u : Unit} {σr : Mem} {res : Unit × Mem} (hres : res = (u, σr)) (o : OK X cX1_passBeat RX1 sdC 3 rm_X1_passBeat l) (hr : RV X σr)   : ∀ (n : Nat) (b0 : Nat) (y1 : Int32) (y2 : Int32) (σ : Mem), kd sdC b0 1 → f_X1_passBeat_L8  n b0 y1 y2 σ = some res → G X σ 8 [(0, .ref (eA (xE X) b0)), (1, .int y1), (2, .int y2)] [] := by
  intro n
  induction n with
  | zero => intro b0 y1 y2 σ g0 h; cases h
  | succ n ih =>
    intro b0 y1 y2 σ g0 h
    rw [f_X1_passBeat_L8_s] at h
    refine g_iload_n o (q := 9) 2 rfl rfl dX1_passBeat_8 rfl ?_
    refine g_aload_n o (q := 10) 0 rfl rfl dX1_passBeat_9 rfl ?_
    refine gf_X1_5 o (q := 13) g0 lk_X1_41 dX1_passBeat_10 rfl ?_
    refine g_icmp_ge o (tgt := 43) (q := 16) dX1_passBeat_13 (by decide) rfl h (fun h => ?_) (fun h => ?_)
    · refine g_aload_n o (q := 44) 0 rfl rfl dX1_passBeat_43 rfl ?_
      refine g_ldc o (q := 46) lk_X1_58 dX1_passBeat_44 rfl ?_
      refine g_aload_n o (q := 47) 0 rfl rfl dX1_passBeat_46 rfl ?_
      refine gf_X1_3 o (q := 50) g0 lk_X1_38 dX1_passBeat_47 rfl ?_
      refine g_iconst o (v := 1) (q := 51) (by decide) dX1_passBeat_50 rfl ?_
      refine g_iadd o (q := 52) dX1_passBeat_51 rfl ?_
      refine g_mmin o (q := 55) lk_X1_59 dX1_passBeat_52 rfl ⟨Nat.le_of_ble_eq_true rfl, Nat.le_of_ble_eq_true rfl⟩ ?_
      refine gp_X1_3 o (q := 58) g0 lk_X1_38 dX1_passBeat_55 rfl h (fun σ25 h => ?_)
      exact g_vret o hr (h.trans (congrArg some hres)) dX1_passBeat_58
    · refine g_aload_n o (q := 17) 0 rfl rfl dX1_passBeat_16 rfl ?_
      refine gf_X1_8 o (q := 20) g0 lk_X1_24 dX1_passBeat_17 rfl ?_
      refine g_iload_n o (q := 21) 2 rfl rfl dX1_passBeat_20 rfl ?_
      refine g_aald8 o (q := 22) (ka_curs g0) dX1_passBeat_21 rfl h (fun j26 hjj26 h => ?_)
      refine g_iload_n o (q := 23) 1 rfl rfl dX1_passBeat_22 rfl ?_
      refine g_aload_n o (q := 24) 0 rfl rfl dX1_passBeat_23 rfl ?_
      refine gf_X1_0 o (q := 27) g0 lk_X1_29 dX1_passBeat_24 rfl ?_
      refine g_cvi o (q := 30) (As := [.int y1, .int (σ b0 0)]) (rest := []) kv_X0_passBeat lk_X1_75 (kd_cur (ka_curs g0) hjj26) (by decide) rfl rfl rfl (fun _ _ hc => c_X0_passBeat o.mk (b0 + 3 + 1 + j26) y1 (σ b0 0) (kd_cur (ka_curs g0) hjj26) hc) dX1_passBeat_27 rfl ⟨rfl, rfl, Nat.le_of_ble_eq_true rfl, Nat.le_of_ble_eq_true rfl⟩ (Nat.le_of_ble_eq_true rfl) rfl h (fun r28 σ27 h => ?_)
      refine g_if_eq o (tgt := 37) (q := 33) dX1_passBeat_30 (by decide) rfl h (fun h => ?_) (fun h => ?_)
      · exact w_X1_passBeat_J37 hres o hr ih g0 h
      · refine g_aload_n o (q := 34) 0 rfl rfl dX1_passBeat_33 rfl ?_
        refine g_cvv o (q := 37) (As := []) (rest := []) kv_X1_tellDown lk_X1_78 g0 (by decide) rfl rfl rfl (fun _ _ hc => c_X1_tellDown o.mk b0 g0 hc) dX1_passBeat_34 rfl ⟨rfl, rfl, Nat.le_of_ble_eq_true rfl, Nat.le_of_ble_eq_true rfl⟩ (Nat.le_of_ble_eq_true rfl) rfl h (fun _u30 σ30 h => ?_)
        exact w_X1_passBeat_J37 hres o hr ih g0 h
set_option maxRecDepth 100000 in
set_option maxHeartbeats 4000000 in
theorem w_X1_passBeat {X : Cx} {l : Launch} {u : Unit} {σr : Mem} {res : Unit × Mem} (hres : res = (u, σr)) (o : OK X cX1_passBeat RX1 sdC 3 rm_X1_passBeat l) (hr : RV X σr) (a0 : Nat) (h0 : kd sdC a0 1) {σ : Mem} (h : f_X1_passBeat a0 σ = some res) : G X σ 0 [(0, .ref (eA (xE X) a0))] [] := by
  unfold f_X1_passBeat at h
  refine g_aload_n o (q := 1) 0 rfl rfl dX1_passBeat_0 rfl ?_
  refine g_iconst o (v := 0) (q := 2) (by decide) dX1_passBeat_1 rfl ?_
  refine g_cvi o (q := 5) (As := [.int 0]) (rest := []) kv_X1_sceneIn lk_X1_72 h0 (by decide) rfl rfl rfl (fun _ _ hc => c_X1_sceneIn o.mk a0 0 h0 hc) dX1_passBeat_2 rfl ⟨rfl, rfl, Nat.le_of_ble_eq_true rfl, Nat.le_of_ble_eq_true rfl⟩ (Nat.le_of_ble_eq_true rfl) rfl h (fun r22 σ21 h => ?_)
  refine g_istore_n o (q := 6) dX1_passBeat_5 rfl rfl (by decide) h (fun x23 => [(1, .int x23), (0, .ref (eA (xE X) a0))]) (fun _ => rfl) (fun x23 h => ?_)
  refine g_iconst o (v := 0) (q := 7) (by decide) dX1_passBeat_6 rfl ?_
  refine g_istore_n o (q := 8) dX1_passBeat_7 rfl rfl (by decide) h (fun x24 => [(2, .int x24), (1, .int x23), (0, .ref (eA (xE X) a0))]) (fun _ => rfl) (fun x24 h => ?_)
  refine g_sub (lv' := [(0, .ref (eA (xE X) a0)), (1, .int x23), (2, .int x24)]) [2, 1, 0] rfl ?_
  exact w_X1_passBeat_L8 hres o hr  FU a0 x23 x24 σ21 h0 h
theorem c_X1_passBeat {l : Launch} {E : En} {mk : Mem → Mem} (hmk : MK mk sdC) (a0 : Nat) (h0 : kd sdC a0 1) {σ : Mem} {r : Unit} {τ : Mem} (h : f_X1_passBeat a0 σ = some (r, τ)) : Met l yX1_passBeat (Cond.code yX1_passBeat cX1_passBeat 3 none :: wt) rm_X1_passBeat (PW E mk [.ref (eA E a0)] σ) (QV E mk τ) 0 0 (WA E) :=
  met_v (fun E => [.ref (eA E a0)]) (by decide) hmk (Nat.le_of_ble_eq_true rfl) (fun X o hr => w_X1_passBeat rfl o hr a0 h0 h)
set_option maxRecDepth 100000 in
set_option maxHeartbeats 4000000 in
theorem w_X1_passBeats_L2 {X : Cx} {l : Launch} {u : Unit} {σr : Mem} {res : Unit × Mem} (hres : res = (u, σr)) (o : OK X cX1_passBeats RX1 sdC 3 rm_X1_passBeats l) (hr : RV X σr)   : ∀ (n : Nat) (b0 : Nat) (y1 : Int32) (y2 : Int32) (σ : Mem), kd sdC b0 1 → f_X1_passBeats_L2  n b0 y1 y2 σ = some res → G X σ 2 [(0, .ref (eA (xE X) b0)), (1, .int y1), (2, .int y2)] [] := by
  intro n
  induction n with
  | zero => intro b0 y1 y2 σ g0 h; cases h
  | succ n ih =>
    intro b0 y1 y2 σ g0 h
    rw [f_X1_passBeats_L2_s] at h
    refine g_iload_n o (q := 3) 2 rfl rfl dX1_passBeats_2 rfl ?_
    refine g_iload_n o (q := 4) 1 rfl rfl dX1_passBeats_3 rfl ?_
    refine g_icmp_ge o (tgt := 17) (q := 7) dX1_passBeats_4 (by decide) rfl h (fun h => ?_) (fun h => ?_)
    · exact g_vret o hr (h.trans (congrArg some hres)) dX1_passBeats_17
    · refine g_aload_n o (q := 8) 0 rfl rfl dX1_passBeats_7 rfl ?_
      refine g_cvv o (q := 11) (As := []) (rest := []) kv_X1_passBeat lk_X1_69 g0 (by decide) rfl rfl rfl (fun _ _ hc => c_X1_passBeat o.mk b0 g0 hc) dX1_passBeats_8 rfl ⟨rfl, rfl, Nat.le_of_ble_eq_true rfl, Nat.le_of_ble_eq_true rfl⟩ (Nat.le_of_ble_eq_true rfl) rfl h (fun _u22 σ22 h => ?_)
      refine g_iinc o (q := 14) (dn := 1) dX1_passBeats_11 rfl 2 rfl (by decide) (by decide) h (fun x23 => [(2, .int x23), (0, .ref (eA (xE X) b0)), (1, .int y1)]) (fun _ => rfl) (fun x23 h => ?_)
      refine g_goto o (tgt := 2) dX1_passBeats_14 (by decide) ?_
      refine g_sub (lv' := [(0, .ref (eA (xE X) b0)), (1, .int y1), (2, .int x23)]) [1, 2, 0] rfl ?_
      exact ih b0 y1 x23 σ22 g0 h
set_option maxRecDepth 100000 in
set_option maxHeartbeats 4000000 in
theorem w_X1_passBeats {X : Cx} {l : Launch} {u : Unit} {σr : Mem} {res : Unit × Mem} (hres : res = (u, σr)) (o : OK X cX1_passBeats RX1 sdC 3 rm_X1_passBeats l) (hr : RV X σr) (a0 : Nat) (x1 : Int32) (h0 : kd sdC a0 1) {σ : Mem} (h : f_X1_passBeats a0 x1 σ = some res) : G X σ 0 [(0, .ref (eA (xE X) a0)), (1, .int x1)] [] := by
  unfold f_X1_passBeats at h
  refine g_iconst o (v := 0) (q := 1) (by decide) dX1_passBeats_0 rfl ?_
  refine g_istore_n o (q := 2) dX1_passBeats_1 rfl rfl (by decide) h (fun x21 => [(2, .int x21), (0, .ref (eA (xE X) a0)), (1, .int x1)]) (fun _ => rfl) (fun x21 h => ?_)
  refine g_sub (lv' := [(0, .ref (eA (xE X) a0)), (1, .int x1), (2, .int x21)]) [1, 2, 0] rfl ?_
  exact w_X1_passBeats_L2 hres o hr  FU a0 x1 x21 σ h0 h
theorem c_X1_passBeats {l : Launch} {E : En} {mk : Mem → Mem} (hmk : MK mk sdC) (a0 : Nat) (x1 : Int32) (h0 : kd sdC a0 1) {σ : Mem} {r : Unit} {τ : Mem} (h : f_X1_passBeats a0 x1 σ = some (r, τ)) : Met l yX1_passBeats (Cond.code yX1_passBeats cX1_passBeats 3 none :: wt) rm_X1_passBeats (PW E mk [.ref (eA E a0), .int x1] σ) (QV E mk τ) 0 0 (WA E) :=
  met_v (fun E => [.ref (eA E a0), .int x1]) (by decide) hmk (Nat.le_of_ble_eq_true rfl) (fun X o hr => w_X1_passBeats rfl o hr a0 x1 h0 h)
set_option maxRecDepth 100000 in
set_option maxHeartbeats 4000000 in
theorem w_X1_draw {X : Cx} {l : Launch} {r : Int32} {σr : Mem} {res : Int32 × Mem} (hres : res = (r, σr)) (o : OK X cX1_draw RX1 sdC 1 rm_X1_draw l) (hr : RI X .int r σr) (a0 : Nat) (h0 : kd sdC a0 1) {σ : Mem} (h : f_X1_draw a0 σ = some res) : G X σ 0 [(0, .ref (eA (xE X) a0))] [] := by
  unfold f_X1_draw at h
  refine g_aload_n o (q := 1) 0 rfl rfl dX1_draw_0 rfl ?_
  refine g_aload_n o (q := 2) 0 rfl rfl dX1_draw_1 rfl ?_
  refine gf_X1_4 o (q := 5) h0 lk_X1_9 dX1_draw_2 rfl ?_
  refine g_ldc o (q := 7) lk_X1_81 dX1_draw_5 rfl ?_
  refine g_imul o (q := 8) dX1_draw_7 rfl ?_
  refine g_sipush o (v := 12345) (q := 11) (by decide) dX1_draw_8 rfl ?_
  refine g_iadd o (q := 12) dX1_draw_11 rfl ?_
  refine gp_X1_4 o (q := 15) h0 lk_X1_9 dX1_draw_12 rfl h (fun σ21 h => ?_)
  refine g_aload_n o (q := 16) 0 rfl rfl dX1_draw_15 rfl ?_
  refine gf_X1_4 o (q := 19) h0 lk_X1_9 dX1_draw_16 rfl ?_
  refine g_bipush o (v := 8) (q := 21) (by decide) dX1_draw_19 rfl ?_
  refine g_iushr o (q := 22) dX1_draw_21 rfl ?_
  exact g_iret o hr (h.trans (congrArg some hres)) rfl dX1_draw_22
theorem c_X1_draw {l : Launch} {E : En} {mk : Mem → Mem} (hmk : MK mk sdC) (a0 : Nat) (h0 : kd sdC a0 1) {σ : Mem} {r : Int32} {τ : Mem} (h : f_X1_draw a0 σ = some (r, τ)) : Met l yX1_draw (Cond.code yX1_draw cX1_draw 1 (some .int) :: wt) rm_X1_draw (PW E mk [.ref (eA E a0)] σ) (QI E mk r τ) 0 0 (WA E) :=
  met_i (fun E => [.ref (eA E a0)]) (by decide) hmk (Nat.le_of_ble_eq_true rfl) (fun X o hr => w_X1_draw rfl o hr a0 h0 h)
set_option maxRecDepth 100000 in
set_option maxHeartbeats 4000000 in
theorem w_X1_thoseDown_J32 {X : Cx} {l : Launch} {r : Int32} {σr : Mem} {res : Int32 × Mem} (hres : res = (r, σr)) (o : OK X cX1_thoseDown RX1 sdC 3 rm_X1_thoseDown l) (hr : RI X .int r σr) {k4 : Nat → Int32 → Int32 → Mem → Option (Int32 × Mem)} (hk4 : ∀ (b0 : Nat) (y1 : Int32) (y2 : Int32) (σ : Mem), kd sdC b0 1 → k4 b0 y1 y2 σ = some res → G X σ 4 [(0, .ref (eA (xE X) b0)), (1, .int y1), (2, .int y2)] []) {b0 : Nat} {y2 : Int32} {s0 : Int32} {s1 : Int32} (g0 : kd sdC b0 1) {σ : Mem} (h : f_X1_thoseDown_J32 k4 b0 y2 s0 s1 σ = some res) : G X σ 32 [(0, .ref (eA (xE X) b0)), (2, .int y2)] [.int s1, .int s0] := by
  unfold f_X1_thoseDown_J32 at h
  refine g_ior o (q := 33) dX1_thoseDown_32 rfl ?_
  refine g_istore_n o (q := 34) dX1_thoseDown_33 rfl rfl (by decide) h (fun x24 => [(1, .int x24), (0, .ref (eA (xE X) b0)), (2, .int y2)]) (fun _ => rfl) (fun x24 h => ?_)
  refine g_iinc o (q := 37) (dn := 1) dX1_thoseDown_34 rfl 2 rfl (by decide) (by decide) h (fun x25 => [(2, .int x25), (1, .int x24), (0, .ref (eA (xE X) b0))]) (fun _ => rfl) (fun x25 h => ?_)
  refine g_goto o (tgt := 4) dX1_thoseDown_37 (by decide) ?_
  refine g_sub (lv' := [(0, .ref (eA (xE X) b0)), (1, .int x24), (2, .int x25)]) [2, 1, 0] rfl ?_
  exact hk4 b0 x24 x25 σ g0 h
set_option maxRecDepth 100000 in
set_option maxHeartbeats 4000000 in
theorem w_X1_thoseDown_L4 {X : Cx} {l : Launch} {r : Int32} {σr : Mem} {res : Int32 × Mem} (hres : res = (r, σr)) (o : OK X cX1_thoseDown RX1 sdC 3 rm_X1_thoseDown l) (hr : RI X .int r σr)   : ∀ (n : Nat) (b0 : Nat) (y1 : Int32) (y2 : Int32) (σ : Mem), kd sdC b0 1 → f_X1_thoseDown_L4  n b0 y1 y2 σ = some res → G X σ 4 [(0, .ref (eA (xE X) b0)), (1, .int y1), (2, .int y2)] [] := by
  intro n
  induction n with
  | zero => intro b0 y1 y2 σ g0 h; cases h
  | succ n ih =>
    intro b0 y1 y2 σ g0 h
    rw [f_X1_thoseDown_L4_s] at h
    refine g_iload_n o (q := 5) 2 rfl rfl dX1_thoseDown_4 rfl ?_
    refine g_aload_n o (q := 6) 0 rfl rfl dX1_thoseDown_5 rfl ?_
    refine gf_X1_5 o (q := 9) g0 lk_X1_41 dX1_thoseDown_6 rfl ?_
    refine g_icmp_ge o (tgt := 40) (q := 12) dX1_thoseDown_9 (by decide) rfl h (fun h => ?_) (fun h => ?_)
    · refine g_iload_n o (q := 41) 1 rfl rfl dX1_thoseDown_40 rfl ?_
      exact g_iret o hr (h.trans (congrArg some hres)) rfl dX1_thoseDown_41
    · refine g_iload_n o (q := 13) 1 rfl rfl dX1_thoseDown_12 rfl ?_
      refine g_aload_n o (q := 14) 0 rfl rfl dX1_thoseDown_13 rfl ?_
      refine gf_X1_8 o (q := 17) g0 lk_X1_24 dX1_thoseDown_14 rfl ?_
      refine g_iload_n o (q := 18) 2 rfl rfl dX1_thoseDown_17 rfl ?_
      refine g_aald8 o (q := 19) (ka_curs g0) dX1_thoseDown_18 rfl h (fun j23 hjj23 h => ?_)
      refine gf_X0_3 o (q := 22) (kd_cur (ka_curs g0) hjj23) lk_X1_82 dX1_thoseDown_19 rfl ?_
      refine g_if_ne o (tgt := 31) (q := 25) dX1_thoseDown_22 (by decide) rfl h (fun h => ?_) (fun h => ?_)
      · refine g_iconst o (v := 0) (q := 32) (by decide) dX1_thoseDown_31 rfl ?_
        refine g_sub (lv' := [(0, .ref (eA (xE X) b0)), (2, .int y2)]) [0, 2] rfl ?_
        exact w_X1_thoseDown_J32 hres o hr ih g0 h
      · refine g_iconst o (v := 1) (q := 26) (by decide) dX1_thoseDown_25 rfl ?_
        refine g_iload_n o (q := 27) 2 rfl rfl dX1_thoseDown_26 rfl ?_
        refine g_ishl o (q := 28) dX1_thoseDown_27 rfl ?_
        refine g_goto o (tgt := 32) dX1_thoseDown_28 (by decide) ?_
        refine g_sub (lv' := [(0, .ref (eA (xE X) b0)), (2, .int y2)]) [0, 2] rfl ?_
        exact w_X1_thoseDown_J32 hres o hr ih g0 h
set_option maxRecDepth 100000 in
set_option maxHeartbeats 4000000 in
theorem w_X1_thoseDown {X : Cx} {l : Launch} {r : Int32} {σr : Mem} {res : Int32 × Mem} (hres : res = (r, σr)) (o : OK X cX1_thoseDown RX1 sdC 3 rm_X1_thoseDown l) (hr : RI X .int r σr) (a0 : Nat) (h0 : kd sdC a0 1) {σ : Mem} (h : f_X1_thoseDown a0 σ = some res) : G X σ 0 [(0, .ref (eA (xE X) a0))] [] := by
  unfold f_X1_thoseDown at h
  refine g_iconst o (v := 0) (q := 1) (by decide) dX1_thoseDown_0 rfl ?_
  refine g_istore_n o (q := 2) dX1_thoseDown_1 rfl rfl (by decide) h (fun x21 => [(1, .int x21), (0, .ref (eA (xE X) a0))]) (fun _ => rfl) (fun x21 h => ?_)
  refine g_iconst o (v := 0) (q := 3) (by decide) dX1_thoseDown_2 rfl ?_
  refine g_istore_n o (q := 4) dX1_thoseDown_3 rfl rfl (by decide) h (fun x22 => [(2, .int x22), (1, .int x21), (0, .ref (eA (xE X) a0))]) (fun _ => rfl) (fun x22 h => ?_)
  refine g_sub (lv' := [(0, .ref (eA (xE X) a0)), (1, .int x21), (2, .int x22)]) [2, 1, 0] rfl ?_
  exact w_X1_thoseDown_L4 hres o hr  FU a0 x21 x22 σ h0 h
theorem c_X1_thoseDown {l : Launch} {E : En} {mk : Mem → Mem} (hmk : MK mk sdC) (a0 : Nat) (h0 : kd sdC a0 1) {σ : Mem} {r : Int32} {τ : Mem} (h : f_X1_thoseDown a0 σ = some (r, τ)) : Met l yX1_thoseDown (Cond.code yX1_thoseDown cX1_thoseDown 3 (some .int) :: wt) rm_X1_thoseDown (PW E mk [.ref (eA E a0)] σ) (QI E mk r τ) 0 0 (WA E) :=
  met_i (fun E => [.ref (eA E a0)]) (by decide) hmk (Nat.le_of_ble_eq_true rfl) (fun X o hr => w_X1_thoseDown rfl o hr a0 h0 h)
set_option maxRecDepth 100000 in
set_option maxHeartbeats 4000000 in
theorem w_X1_thoseWeary_J41 {X : Cx} {l : Launch} {r : Int32} {σr : Mem} {res : Int32 × Mem} (hres : res = (r, σr)) (o : OK X cX1_thoseWeary RX1 sdC 3 rm_X1_thoseWeary l) (hr : RI X .int r σr) {k4 : Nat → Int32 → Int32 → Mem → Option (Int32 × Mem)} (hk4 : ∀ (b0 : Nat) (y1 : Int32) (y2 : Int32) (σ : Mem), kd sdC b0 1 → k4 b0 y1 y2 σ = some res → G X σ 4 [(0, .ref (eA (xE X) b0)), (1, .int y1), (2, .int y2)] []) {b0 : Nat} {y2 : Int32} {s0 : Int32} {s1 : Int32} (g0 : kd sdC b0 1) {σ : Mem} (h : f_X1_thoseWeary_J41 k4 b0 y2 s0 s1 σ = some res) : G X σ 41 [(0, .ref (eA (xE X) b0)), (2, .int y2)] [.int s1, .int s0] := by
  unfold f_X1_thoseWeary_J41 at h
  refine g_ior o (q := 42) dX1_thoseWeary_41 rfl ?_
  refine g_istore_n o (q := 43) dX1_thoseWeary_42 rfl rfl (by decide) h (fun x27 => [(1, .int x27), (0, .ref (eA (xE X) b0)), (2, .int y2)]) (fun _ => rfl) (fun x27 h => ?_)
  refine g_iinc o (q := 46) (dn := 1) dX1_thoseWeary_43 rfl 2 rfl (by decide) (by decide) h (fun x28 => [(2, .int x28), (1, .int x27), (0, .ref (eA (xE X) b0))]) (fun _ => rfl) (fun x28 h => ?_)
  refine g_goto o (tgt := 4) dX1_thoseWeary_46 (by decide) ?_
  refine g_sub (lv' := [(0, .ref (eA (xE X) b0)), (1, .int x27), (2, .int x28)]) [2, 1, 0] rfl ?_
  exact hk4 b0 x27 x28 σ g0 h
set_option maxRecDepth 100000 in
set_option maxHeartbeats 4000000 in
theorem w_X1_thoseWeary_L4 {X : Cx} {l : Launch} {r : Int32} {σr : Mem} {res : Int32 × Mem} (hres : res = (r, σr)) (o : OK X cX1_thoseWeary RX1 sdC 3 rm_X1_thoseWeary l) (hr : RI X .int r σr)   : ∀ (n : Nat) (b0 : Nat) (y1 : Int32) (y2 : Int32) (σ : Mem), kd sdC b0 1 → f_X1_thoseWeary_L4  n b0 y1 y2 σ = some res → G X σ 4 [(0, .ref (eA (xE X) b0)), (1, .int y1), (2, .int y2)] [] := by
  intro n
  induction n with
  | zero => intro b0 y1 y2 σ g0 h; cases h
  | succ n ih =>
    intro b0 y1 y2 σ g0 h
    rw [f_X1_thoseWeary_L4_s] at h
    refine g_iload_n o (q := 5) 2 rfl rfl dX1_thoseWeary_4 rfl ?_
    refine g_aload_n o (q := 6) 0 rfl rfl dX1_thoseWeary_5 rfl ?_
    refine gf_X1_5 o (q := 9) g0 lk_X1_41 dX1_thoseWeary_6 rfl ?_
    refine g_icmp_ge o (tgt := 49) (q := 12) dX1_thoseWeary_9 (by decide) rfl h (fun h => ?_) (fun h => ?_)
    · refine g_iload_n o (q := 50) 1 rfl rfl dX1_thoseWeary_49 rfl ?_
      exact g_iret o hr (h.trans (congrArg some hres)) rfl dX1_thoseWeary_50
    · refine g_iload_n o (q := 13) 1 rfl rfl dX1_thoseWeary_12 rfl ?_
      refine g_aload_n o (q := 14) 0 rfl rfl dX1_thoseWeary_13 rfl ?_
      refine gf_X1_8 o (q := 17) g0 lk_X1_24 dX1_thoseWeary_14 rfl ?_
      refine g_iload_n o (q := 18) 2 rfl rfl dX1_thoseWeary_17 rfl ?_
      refine g_aald8 o (q := 19) (ka_curs g0) dX1_thoseWeary_18 rfl h (fun j23 hjj23 h => ?_)
      refine gf_X0_1 o (q := 22) (kd_cur (ka_curs g0) hjj23) lk_X1_85 dX1_thoseWeary_19 rfl ?_
      refine g_aload_n o (q := 23) 0 rfl rfl dX1_thoseWeary_22 rfl ?_
      refine gf_X1_8 o (q := 26) g0 lk_X1_24 dX1_thoseWeary_23 rfl ?_
      refine g_iload_n o (q := 27) 2 rfl rfl dX1_thoseWeary_26 rfl ?_
      refine g_aald8 o (q := 28) (ka_curs g0) dX1_thoseWeary_27 rfl h (fun j24 hjj24 h => ?_)
      refine g_cvi o (q := 31) (As := []) (rest := [.int (σ (b0 + 3 + 1 + j23) 1), .int y1]) kv_X0_bears lk_X1_88 (kd_cur (ka_curs g0) hjj24) (by decide) rfl rfl rfl (fun _ _ hc => c_X0_bears o.mk (b0 + 3 + 1 + j24) (kd_cur (ka_curs g0) hjj24) hc) dX1_thoseWeary_28 rfl ⟨rfl, rfl, Nat.le_of_ble_eq_true rfl, Nat.le_of_ble_eq_true rfl⟩ (Nat.le_of_ble_eq_true rfl) rfl h (fun r26 σ25 h => ?_)
      refine g_icmp_ge o (tgt := 40) (q := 34) dX1_thoseWeary_31 (by decide) rfl h (fun h => ?_) (fun h => ?_)
      · refine g_iconst o (v := 0) (q := 41) (by decide) dX1_thoseWeary_40 rfl ?_
        refine g_sub (lv' := [(0, .ref (eA (xE X) b0)), (2, .int y2)]) [0, 2] rfl ?_
        exact w_X1_thoseWeary_J41 hres o hr ih g0 h
      · refine g_iconst o (v := 1) (q := 35) (by decide) dX1_thoseWeary_34 rfl ?_
        refine g_iload_n o (q := 36) 2 rfl rfl dX1_thoseWeary_35 rfl ?_
        refine g_ishl o (q := 37) dX1_thoseWeary_36 rfl ?_
        refine g_goto o (tgt := 41) dX1_thoseWeary_37 (by decide) ?_
        refine g_sub (lv' := [(0, .ref (eA (xE X) b0)), (2, .int y2)]) [0, 2] rfl ?_
        exact w_X1_thoseWeary_J41 hres o hr ih g0 h
set_option maxRecDepth 100000 in
set_option maxHeartbeats 4000000 in
theorem w_X1_thoseWeary {X : Cx} {l : Launch} {r : Int32} {σr : Mem} {res : Int32 × Mem} (hres : res = (r, σr)) (o : OK X cX1_thoseWeary RX1 sdC 3 rm_X1_thoseWeary l) (hr : RI X .int r σr) (a0 : Nat) (h0 : kd sdC a0 1) {σ : Mem} (h : f_X1_thoseWeary a0 σ = some res) : G X σ 0 [(0, .ref (eA (xE X) a0))] [] := by
  unfold f_X1_thoseWeary at h
  refine g_iconst o (v := 0) (q := 1) (by decide) dX1_thoseWeary_0 rfl ?_
  refine g_istore_n o (q := 2) dX1_thoseWeary_1 rfl rfl (by decide) h (fun x21 => [(1, .int x21), (0, .ref (eA (xE X) a0))]) (fun _ => rfl) (fun x21 h => ?_)
  refine g_iconst o (v := 0) (q := 3) (by decide) dX1_thoseWeary_2 rfl ?_
  refine g_istore_n o (q := 4) dX1_thoseWeary_3 rfl rfl (by decide) h (fun x22 => [(2, .int x22), (1, .int x21), (0, .ref (eA (xE X) a0))]) (fun _ => rfl) (fun x22 h => ?_)
  refine g_sub (lv' := [(0, .ref (eA (xE X) a0)), (1, .int x21), (2, .int x22)]) [2, 1, 0] rfl ?_
  exact w_X1_thoseWeary_L4 hres o hr  FU a0 x21 x22 σ h0 h
theorem c_X1_thoseWeary {l : Launch} {E : En} {mk : Mem → Mem} (hmk : MK mk sdC) (a0 : Nat) (h0 : kd sdC a0 1) {σ : Mem} {r : Int32} {τ : Mem} (h : f_X1_thoseWeary a0 σ = some (r, τ)) : Met l yX1_thoseWeary (Cond.code yX1_thoseWeary cX1_thoseWeary 3 (some .int) :: wt) rm_X1_thoseWeary (PW E mk [.ref (eA E a0)] σ) (QI E mk r τ) 0 0 (WA E) :=
  met_i (fun E => [.ref (eA E a0)]) (by decide) hmk (Nat.le_of_ble_eq_true rfl) (fun X o hr => w_X1_thoseWeary rfl o hr a0 h0 h)
set_option maxRecDepth 100000 in
set_option maxHeartbeats 4000000 in
theorem w_X1_allMoods_L4 {X : Cx} {l : Launch} {r : Int32} {σr : Mem} {res : Int32 × Mem} (hres : res = (r, σr)) (o : OK X cX1_allMoods RX1 sdC 3 rm_X1_allMoods l) (hr : RI X .int r σr)   : ∀ (n : Nat) (b0 : Nat) (y1 : Int32) (y2 : Int32) (σ : Mem), kd sdC b0 1 → f_X1_allMoods_L4  n b0 y1 y2 σ = some res → G X σ 4 [(0, .ref (eA (xE X) b0)), (1, .int y1), (2, .int y2)] [] := by
  intro n
  induction n with
  | zero => intro b0 y1 y2 σ g0 h; cases h
  | succ n ih =>
    intro b0 y1 y2 σ g0 h
    rw [f_X1_allMoods_L4_s] at h
    refine g_iload_n o (q := 5) 2 rfl rfl dX1_allMoods_4 rfl ?_
    refine g_aload_n o (q := 6) 0 rfl rfl dX1_allMoods_5 rfl ?_
    refine gf_X1_5 o (q := 9) g0 lk_X1_41 dX1_allMoods_6 rfl ?_
    refine g_icmp_ge o (tgt := 30) (q := 12) dX1_allMoods_9 (by decide) rfl h (fun h => ?_) (fun h => ?_)
    · refine g_iload_n o (q := 31) 1 rfl rfl dX1_allMoods_30 rfl ?_
      exact g_iret o hr (h.trans (congrArg some hres)) rfl dX1_allMoods_31
    · refine g_iload_n o (q := 13) 1 rfl rfl dX1_allMoods_12 rfl ?_
      refine g_aload_n o (q := 14) 0 rfl rfl dX1_allMoods_13 rfl ?_
      refine gf_X1_8 o (q := 17) g0 lk_X1_24 dX1_allMoods_14 rfl ?_
      refine g_iload_n o (q := 18) 2 rfl rfl dX1_allMoods_17 rfl ?_
      refine g_aald8 o (q := 19) (ka_curs g0) dX1_allMoods_18 rfl h (fun j23 hjj23 h => ?_)
      refine gf_X0_1 o (q := 22) (kd_cur (ka_curs g0) hjj23) lk_X1_85 dX1_allMoods_19 rfl ?_
      refine g_iadd o (q := 23) dX1_allMoods_22 rfl ?_
      refine g_istore_n o (q := 24) dX1_allMoods_23 rfl rfl (by decide) h (fun x24 => [(1, .int x24), (0, .ref (eA (xE X) b0)), (2, .int y2)]) (fun _ => rfl) (fun x24 h => ?_)
      refine g_iinc o (q := 27) (dn := 1) dX1_allMoods_24 rfl 2 rfl (by decide) (by decide) h (fun x25 => [(2, .int x25), (1, .int x24), (0, .ref (eA (xE X) b0))]) (fun _ => rfl) (fun x25 h => ?_)
      refine g_goto o (tgt := 4) dX1_allMoods_27 (by decide) ?_
      refine g_sub (lv' := [(0, .ref (eA (xE X) b0)), (1, .int x24), (2, .int x25)]) [2, 1, 0] rfl ?_
      exact ih b0 x24 x25 σ g0 h
set_option maxRecDepth 100000 in
set_option maxHeartbeats 4000000 in
theorem w_X1_allMoods {X : Cx} {l : Launch} {r : Int32} {σr : Mem} {res : Int32 × Mem} (hres : res = (r, σr)) (o : OK X cX1_allMoods RX1 sdC 3 rm_X1_allMoods l) (hr : RI X .int r σr) (a0 : Nat) (h0 : kd sdC a0 1) {σ : Mem} (h : f_X1_allMoods a0 σ = some res) : G X σ 0 [(0, .ref (eA (xE X) a0))] [] := by
  unfold f_X1_allMoods at h
  refine g_iconst o (v := 0) (q := 1) (by decide) dX1_allMoods_0 rfl ?_
  refine g_istore_n o (q := 2) dX1_allMoods_1 rfl rfl (by decide) h (fun x21 => [(1, .int x21), (0, .ref (eA (xE X) a0))]) (fun _ => rfl) (fun x21 h => ?_)
  refine g_iconst o (v := 0) (q := 3) (by decide) dX1_allMoods_2 rfl ?_
  refine g_istore_n o (q := 4) dX1_allMoods_3 rfl rfl (by decide) h (fun x22 => [(2, .int x22), (1, .int x21), (0, .ref (eA (xE X) a0))]) (fun _ => rfl) (fun x22 h => ?_)
  refine g_sub (lv' := [(0, .ref (eA (xE X) a0)), (1, .int x21), (2, .int x22)]) [2, 1, 0] rfl ?_
  exact w_X1_allMoods_L4 hres o hr  FU a0 x21 x22 σ h0 h
theorem c_X1_allMoods {l : Launch} {E : En} {mk : Mem → Mem} (hmk : MK mk sdC) (a0 : Nat) (h0 : kd sdC a0 1) {σ : Mem} {r : Int32} {τ : Mem} (h : f_X1_allMoods a0 σ = some (r, τ)) : Met l yX1_allMoods (Cond.code yX1_allMoods cX1_allMoods 3 (some .int) :: wt) rm_X1_allMoods (PW E mk [.ref (eA E a0)] σ) (QI E mk r τ) 0 0 (WA E) :=
  met_i (fun E => [.ref (eA E a0)]) (by decide) hmk (Nat.le_of_ble_eq_true rfl) (fun X o hr => w_X1_allMoods rfl o hr a0 h0 h)
set_option maxRecDepth 100000 in
set_option maxHeartbeats 4000000 in
theorem w_X1_allLikes_L4 {X : Cx} {l : Launch} {r : Int32} {σr : Mem} {res : Int32 × Mem} (hres : res = (r, σr)) (o : OK X cX1_allLikes RX1 sdC 3 rm_X1_allLikes l) (hr : RI X .int r σr)   : ∀ (n : Nat) (b0 : Nat) (y1 : Int32) (y2 : Int32) (σ : Mem), kd sdC b0 1 → f_X1_allLikes_L4  n b0 y1 y2 σ = some res → G X σ 4 [(0, .ref (eA (xE X) b0)), (1, .int y1), (2, .int y2)] [] := by
  intro n
  induction n with
  | zero => intro b0 y1 y2 σ g0 h; cases h
  | succ n ih =>
    intro b0 y1 y2 σ g0 h
    rw [f_X1_allLikes_L4_s] at h
    refine g_iload_n o (q := 5) 2 rfl rfl dX1_allLikes_4 rfl ?_
    refine g_aload_n o (q := 6) 0 rfl rfl dX1_allLikes_5 rfl ?_
    refine gf_X1_5 o (q := 9) g0 lk_X1_41 dX1_allLikes_6 rfl ?_
    refine g_icmp_ge o (tgt := 30) (q := 12) dX1_allLikes_9 (by decide) rfl h (fun h => ?_) (fun h => ?_)
    · refine g_iload_n o (q := 31) 1 rfl rfl dX1_allLikes_30 rfl ?_
      exact g_iret o hr (h.trans (congrArg some hres)) rfl dX1_allLikes_31
    · refine g_iload_n o (q := 13) 1 rfl rfl dX1_allLikes_12 rfl ?_
      refine g_aload_n o (q := 14) 0 rfl rfl dX1_allLikes_13 rfl ?_
      refine gf_X1_8 o (q := 17) g0 lk_X1_24 dX1_allLikes_14 rfl ?_
      refine g_iload_n o (q := 18) 2 rfl rfl dX1_allLikes_17 rfl ?_
      refine g_aald8 o (q := 19) (ka_curs g0) dX1_allLikes_18 rfl h (fun j23 hjj23 h => ?_)
      refine gf_X0_2 o (q := 22) (kd_cur (ka_curs g0) hjj23) lk_X1_92 dX1_allLikes_19 rfl ?_
      refine g_ior o (q := 23) dX1_allLikes_22 rfl ?_
      refine g_istore_n o (q := 24) dX1_allLikes_23 rfl rfl (by decide) h (fun x24 => [(1, .int x24), (0, .ref (eA (xE X) b0)), (2, .int y2)]) (fun _ => rfl) (fun x24 h => ?_)
      refine g_iinc o (q := 27) (dn := 1) dX1_allLikes_24 rfl 2 rfl (by decide) (by decide) h (fun x25 => [(2, .int x25), (1, .int x24), (0, .ref (eA (xE X) b0))]) (fun _ => rfl) (fun x25 h => ?_)
      refine g_goto o (tgt := 4) dX1_allLikes_27 (by decide) ?_
      refine g_sub (lv' := [(0, .ref (eA (xE X) b0)), (1, .int x24), (2, .int x25)]) [2, 1, 0] rfl ?_
      exact ih b0 x24 x25 σ g0 h
set_option maxRecDepth 100000 in
set_option maxHeartbeats 4000000 in
theorem w_X1_allLikes {X : Cx} {l : Launch} {r : Int32} {σr : Mem} {res : Int32 × Mem} (hres : res = (r, σr)) (o : OK X cX1_allLikes RX1 sdC 3 rm_X1_allLikes l) (hr : RI X .int r σr) (a0 : Nat) (h0 : kd sdC a0 1) {σ : Mem} (h : f_X1_allLikes a0 σ = some res) : G X σ 0 [(0, .ref (eA (xE X) a0))] [] := by
  unfold f_X1_allLikes at h
  refine g_iconst o (v := 0) (q := 1) (by decide) dX1_allLikes_0 rfl ?_
  refine g_istore_n o (q := 2) dX1_allLikes_1 rfl rfl (by decide) h (fun x21 => [(1, .int x21), (0, .ref (eA (xE X) a0))]) (fun _ => rfl) (fun x21 h => ?_)
  refine g_iconst o (v := 0) (q := 3) (by decide) dX1_allLikes_2 rfl ?_
  refine g_istore_n o (q := 4) dX1_allLikes_3 rfl rfl (by decide) h (fun x22 => [(2, .int x22), (1, .int x21), (0, .ref (eA (xE X) a0))]) (fun _ => rfl) (fun x22 h => ?_)
  refine g_sub (lv' := [(0, .ref (eA (xE X) a0)), (1, .int x21), (2, .int x22)]) [2, 1, 0] rfl ?_
  exact w_X1_allLikes_L4 hres o hr  FU a0 x21 x22 σ h0 h
theorem c_X1_allLikes {l : Launch} {E : En} {mk : Mem → Mem} (hmk : MK mk sdC) (a0 : Nat) (h0 : kd sdC a0 1) {σ : Mem} {r : Int32} {τ : Mem} (h : f_X1_allLikes a0 σ = some (r, τ)) : Met l yX1_allLikes (Cond.code yX1_allLikes cX1_allLikes 3 (some .int) :: wt) rm_X1_allLikes (PW E mk [.ref (eA E a0)] σ) (QI E mk r τ) 0 0 (WA E) :=
  met_i (fun E => [.ref (eA E a0)]) (by decide) hmk (Nat.le_of_ble_eq_true rfl) (fun X o hr => w_X1_allLikes rfl o hr a0 h0 h)
set_option maxRecDepth 100000 in
set_option maxHeartbeats 4000000 in
theorem w_X1_isPleasedBy_J32 {X : Cx} {l : Launch} {r : Int32} {σr : Mem} {res : Int32 × Mem} (hres : res = (r, σr)) (o : OK X cX1_isPleasedBy RX1 sdC 4 rm_X1_isPleasedBy l) (hr : RI X .boolean r σr) {k2 : Nat → Int32 → Int32 → Mem → Option (Int32 × Mem)} (hk2 : ∀ (b0 : Nat) (y1 : Int32) (y2 : Int32) (σ : Mem), kd sdC b0 1 → k2 b0 y1 y2 σ = some res → G X σ 2 [(0, .ref (eA (xE X) b0)), (1, .int y1), (2, .int y2)] []) {b0 : Nat} {y1 : Int32} {y2 : Int32} (g0 : kd sdC b0 1) {σ : Mem} (h : f_X1_isPleasedBy_J32 k2 b0 y1 y2 σ = some res) : G X σ 32 [(0, .ref (eA (xE X) b0)), (1, .int y1), (2, .int y2)] [] := by
  unfold f_X1_isPleasedBy_J32 at h
  refine g_iinc o (q := 35) (dn := 1) dX1_isPleasedBy_32 rfl 2 rfl (by decide) (by decide) h (fun x24 => [(2, .int x24), (0, .ref (eA (xE X) b0)), (1, .int y1)]) (fun _ => rfl) (fun x24 h => ?_)
  refine g_goto o (tgt := 2) dX1_isPleasedBy_35 (by decide) ?_
  refine g_sub (lv' := [(0, .ref (eA (xE X) b0)), (1, .int y1), (2, .int x24)]) [1, 2, 0] rfl ?_
  exact hk2 b0 y1 x24 σ g0 h
set_option maxRecDepth 100000 in
set_option maxHeartbeats 4000000 in
theorem w_X1_isPleasedBy_L2 {X : Cx} {l : Launch} {r : Int32} {σr : Mem} {res : Int32 × Mem} (hres : res = (r, σr)) (o : OK X cX1_isPleasedBy RX1 sdC 4 rm_X1_isPleasedBy l) (hr : RI X .boolean r σr)   : ∀ (n : Nat) (b0 : Nat) (y1 : Int32) (y2 : Int32) (σ : Mem), kd sdC b0 1 → f_X1_isPleasedBy_L2  n b0 y1 y2 σ = some res → G X σ 2 [(0, .ref (eA (xE X) b0)), (1, .int y1), (2, .int y2)] [] := by
  intro n
  induction n with
  | zero => intro b0 y1 y2 σ g0 h; cases h
  | succ n ih =>
    intro b0 y1 y2 σ g0 h
    rw [f_X1_isPleasedBy_L2_s] at h
    refine g_iload_n o (q := 3) 2 rfl rfl dX1_isPleasedBy_2 rfl ?_
    refine g_aload_n o (q := 4) 0 rfl rfl dX1_isPleasedBy_3 rfl ?_
    refine gf_X1_5 o (q := 7) g0 lk_X1_41 dX1_isPleasedBy_4 rfl ?_
    refine g_icmp_ge o (tgt := 38) (q := 10) dX1_isPleasedBy_7 (by decide) rfl h (fun h => ?_) (fun h => ?_)
    · refine g_iconst o (v := 1) (q := 39) (by decide) dX1_isPleasedBy_38 rfl ?_
      exact g_iret o hr (h.trans (congrArg some hres)) (by decide) dX1_isPleasedBy_39
    · refine g_aload_n o (q := 11) 0 rfl rfl dX1_isPleasedBy_10 rfl ?_
      refine gf_X1_8 o (q := 14) g0 lk_X1_24 dX1_isPleasedBy_11 rfl ?_
      refine g_iload_n o (q := 15) 2 rfl rfl dX1_isPleasedBy_14 rfl ?_
      refine g_aald8 o (q := 16) (ka_curs g0) dX1_isPleasedBy_15 rfl h (fun j22 hjj22 h => ?_)
      refine gf_X0_2 o (q := 19) (kd_cur (ka_curs g0) hjj22) lk_X1_92 dX1_isPleasedBy_16 rfl ?_
      refine g_istore_n o (q := 20) dX1_isPleasedBy_19 rfl rfl (by decide) h (fun x23 => [(3, .int x23), (0, .ref (eA (xE X) b0)), (1, .int y1), (2, .int y2)]) (fun _ => rfl) (fun x23 h => ?_)
      refine g_iload_n o (q := 21) 0 rfl rfl dX1_isPleasedBy_20 rfl ?_
      refine g_if_eq o (tgt := 32) (q := 24) dX1_isPleasedBy_21 (by decide) rfl h (fun h => ?_) (fun h => ?_)
      · refine g_sub (lv' := [(0, .ref (eA (xE X) b0)), (1, .int y1), (2, .int y2)]) [1, 2, 3] rfl ?_
        exact w_X1_isPleasedBy_J32 hres o hr ih g0 h
      · refine g_iload_n o (q := 25) 0 rfl rfl dX1_isPleasedBy_24 rfl ?_
        refine g_iload_n o (q := 26) 2 rfl rfl dX1_isPleasedBy_25 rfl ?_
        refine g_iand o (q := 27) dX1_isPleasedBy_26 rfl ?_
        refine g_if_ne o (tgt := 32) (q := 30) dX1_isPleasedBy_27 (by decide) rfl h (fun h => ?_) (fun h => ?_)
        · refine g_sub (lv' := [(0, .ref (eA (xE X) b0)), (1, .int y1), (2, .int y2)]) [1, 2, 3] rfl ?_
          exact w_X1_isPleasedBy_J32 hres o hr ih g0 h
        · refine g_iconst o (v := 0) (q := 31) (by decide) dX1_isPleasedBy_30 rfl ?_
          exact g_iret o hr (h.trans (congrArg some hres)) (by decide) dX1_isPleasedBy_31
set_option maxRecDepth 100000 in
set_option maxHeartbeats 4000000 in
theorem w_X1_isPleasedBy {X : Cx} {l : Launch} {r : Int32} {σr : Mem} {res : Int32 × Mem} (hres : res = (r, σr)) (o : OK X cX1_isPleasedBy RX1 sdC 4 rm_X1_isPleasedBy l) (hr : RI X .boolean r σr) (a0 : Nat) (x1 : Int32) (h0 : kd sdC a0 1) {σ : Mem} (h : f_X1_isPleasedBy a0 x1 σ = some res) : G X σ 0 [(0, .ref (eA (xE X) a0)), (1, .int x1)] [] := by
  unfold f_X1_isPleasedBy at h
  refine g_iconst o (v := 0) (q := 1) (by decide) dX1_isPleasedBy_0 rfl ?_
  refine g_istore_n o (q := 2) dX1_isPleasedBy_1 rfl rfl (by decide) h (fun x21 => [(2, .int x21), (0, .ref (eA (xE X) a0)), (1, .int x1)]) (fun _ => rfl) (fun x21 h => ?_)
  refine g_sub (lv' := [(0, .ref (eA (xE X) a0)), (1, .int x1), (2, .int x21)]) [1, 2, 0] rfl ?_
  exact w_X1_isPleasedBy_L2 hres o hr  FU a0 x1 x21 σ h0 h
theorem c_X1_isPleasedBy {l : Launch} {E : En} {mk : Mem → Mem} (hmk : MK mk sdC) (a0 : Nat) (x1 : Int32) (h0 : kd sdC a0 1) {σ : Mem} {r : Int32} {τ : Mem} (h : f_X1_isPleasedBy a0 x1 σ = some (r, τ)) : Met l yX1_isPleasedBy (Cond.code yX1_isPleasedBy cX1_isPleasedBy 4 (some .boolean) :: wt) rm_X1_isPleasedBy (PW E mk [.ref (eA E a0), .int x1] σ) (QI E mk r τ) 0 0 (WA E) :=
  met_i (fun E => [.ref (eA E a0), .int x1]) (by decide) hmk (Nat.le_of_ble_eq_true rfl) (fun X o hr => w_X1_isPleasedBy rfl o hr a0 x1 h0 h)
set_option maxRecDepth 100000 in
set_option maxHeartbeats 4000000 in
theorem w_X1_heldSpots_J37 {X : Cx} {l : Launch} {r : Int32} {σr : Mem} {res : Int32 × Mem} (hres : res = (r, σr)) (o : OK X cX1_heldSpots RX1 sdC 6 rm_X1_heldSpots l) (hr : RI X .int r σr) {k13 : Int32 → Nat → Int32 → Int32 → Mem → Option (Int32 × Mem)} (hk13 : ∀ (y1 : Int32) (b2 : Nat) (y3 : Int32) (y4 : Int32) (σ : Mem), ka sdC b2 6 10 → k13 y1 b2 y3 y4 σ = some res → G X σ 13 [(1, .int y1), (2, .ref (eA (xE X) b2)), (3, .int y3), (4, .int y4)] []) {b2 : Nat} {y3 : Int32} {y4 : Int32} {s0 : Int32} {s1 : Int32} (g2 : ka sdC b2 6 10) {σ : Mem} (h : f_X1_heldSpots_J37 k13 b2 y3 y4 s0 s1 σ = some res) : G X σ 37 [(2, .ref (eA (xE X) b2)), (3, .int y3), (4, .int y4)] [.int s1, .int s0] := by
  unfold f_X1_heldSpots_J37 at h
  refine g_iadd o (q := 38) dX1_heldSpots_37 rfl ?_
  refine g_istore_n o (q := 39) dX1_heldSpots_38 rfl rfl (by decide) h (fun x26 => [(1, .int x26), (2, .ref (eA (xE X) b2)), (3, .int y3), (4, .int y4)]) (fun _ => rfl) (fun x26 h => ?_)
  refine g_iinc o (q := 42) (dn := 1) dX1_heldSpots_39 rfl 3 rfl (by decide) (by decide) h (fun x27 => [(4, .int x27), (1, .int x26), (2, .ref (eA (xE X) b2)), (3, .int y3)]) (fun _ => rfl) (fun x27 h => ?_)
  refine g_goto o (tgt := 13) dX1_heldSpots_42 (by decide) ?_
  refine g_sub (lv' := [(1, .int x26), (2, .ref (eA (xE X) b2)), (3, .int y3), (4, .int x27)]) [1, 2, 3, 0] rfl ?_
  exact hk13 x26 b2 y3 x27 σ g2 h
set_option maxRecDepth 100000 in
set_option maxHeartbeats 4000000 in
theorem w_X1_heldSpots_L13 {X : Cx} {l : Launch} {r : Int32} {σr : Mem} {res : Int32 × Mem} (hres : res = (r, σr)) (o : OK X cX1_heldSpots RX1 sdC 6 rm_X1_heldSpots l) (hr : RI X .int r σr)   : ∀ (n : Nat) (y1 : Int32) (b2 : Nat) (y3 : Int32) (y4 : Int32) (σ : Mem), ka sdC b2 6 10 → f_X1_heldSpots_L13  n y1 b2 y3 y4 σ = some res → G X σ 13 [(1, .int y1), (2, .ref (eA (xE X) b2)), (3, .int y3), (4, .int y4)] [] := by
  intro n
  induction n with
  | zero => intro y1 b2 y3 y4 σ g2 h; cases h
  | succ n ih =>
    intro y1 b2 y3 y4 σ g2 h
    rw [f_X1_heldSpots_L13_s] at h
    refine g_iload o (q := 15) 3 rfl dX1_heldSpots_13 rfl ?_
    refine g_iload_n o (q := 16) 2 rfl rfl dX1_heldSpots_15 rfl ?_
    refine g_icmp_ge o (tgt := 45) (q := 19) dX1_heldSpots_16 (by decide) rfl h (fun h => ?_) (fun h => ?_)
    · refine g_iload_n o (q := 46) 0 rfl rfl dX1_heldSpots_45 rfl ?_
      exact g_iret o hr (h.trans (congrArg some hres)) rfl dX1_heldSpots_46
    · refine g_aload_n o (q := 20) 1 rfl rfl dX1_heldSpots_19 rfl ?_
      refine g_iload o (q := 22) 3 rfl dX1_heldSpots_20 rfl ?_
      refine g_iald o (q := 23) g2 dX1_heldSpots_22 rfl h (fun j24 hjj24 h => ?_)
      refine g_istore o (q := 25) dX1_heldSpots_23 rfl (by decide) h (fun x25 => [(5, .int x25), (1, .int y1), (2, .ref (eA (xE X) b2)), (3, .int y3), (4, .int y4)]) (fun _ => rfl) (fun x25 h => ?_)
      refine g_iload_n o (q := 26) 1 rfl rfl dX1_heldSpots_25 rfl ?_
      refine g_iload o (q := 28) 0 rfl dX1_heldSpots_26 rfl ?_
      refine g_iconst o (v := (-1)) (q := 29) (by decide) dX1_heldSpots_28 rfl ?_
      refine g_icmp_eq o (tgt := 36) (q := 32) dX1_heldSpots_29 (by decide) rfl h (fun h => ?_) (fun h => ?_)
      · refine g_iconst o (v := 0) (q := 37) (by decide) dX1_heldSpots_36 rfl ?_
        refine g_sub (lv' := [(2, .ref (eA (xE X) b2)), (3, .int y3), (4, .int y4)]) [2, 3, 4] rfl ?_
        exact w_X1_heldSpots_J37 hres o hr ih g2 h
      · refine g_iconst o (v := 1) (q := 33) (by decide) dX1_heldSpots_32 rfl ?_
        refine g_goto o (tgt := 37) dX1_heldSpots_33 (by decide) ?_
        refine g_sub (lv' := [(2, .ref (eA (xE X) b2)), (3, .int y3), (4, .int y4)]) [2, 3, 4] rfl ?_
        exact w_X1_heldSpots_J37 hres o hr ih g2 h
set_option maxRecDepth 100000 in
set_option maxHeartbeats 4000000 in
theorem w_X1_heldSpots {X : Cx} {l : Launch} {r : Int32} {σr : Mem} {res : Int32 × Mem} (hres : res = (r, σr)) (o : OK X cX1_heldSpots RX1 sdC 6 rm_X1_heldSpots l) (hr : RI X .int r σr) (a0 : Nat) (h0 : kd sdC a0 1) {σ : Mem} (h : f_X1_heldSpots a0 σ = some res) : G X σ 0 [(0, .ref (eA (xE X) a0))] [] := by
  unfold f_X1_heldSpots at h
  refine g_iconst o (v := 0) (q := 1) (by decide) dX1_heldSpots_0 rfl ?_
  refine g_istore_n o (q := 2) dX1_heldSpots_1 rfl rfl (by decide) h (fun x21 => [(1, .int x21), (0, .ref (eA (xE X) a0))]) (fun _ => rfl) (fun x21 h => ?_)
  refine g_aload_n o (q := 3) 1 rfl rfl dX1_heldSpots_2 rfl ?_
  refine gf_X1_7 o (q := 6) h0 lk_X1_19 dX1_heldSpots_3 rfl ?_
  refine g_astore_n o (q := 7) dX1_heldSpots_6 rfl rfl (by decide) [(2, .ref (eA (xE X) (a0 + 2))), (1, .int x21), (0, .ref (eA (xE X) a0))] rfl ?_
  refine g_aload_n o (q := 8) 0 rfl rfl dX1_heldSpots_7 rfl ?_
  refine g_alen6 o (q := 9) (ka_spots h0) (v := 10) (by decide) dX1_heldSpots_8 rfl ?_
  refine g_istore_n o (q := 10) dX1_heldSpots_9 rfl rfl (by decide) h (fun x22 => [(3, .int x22), (2, .ref (eA (xE X) (a0 + 2))), (1, .int x21), (0, .ref (eA (xE X) a0))]) (fun _ => rfl) (fun x22 h => ?_)
  refine g_iconst o (v := 0) (q := 11) (by decide) dX1_heldSpots_10 rfl ?_
  refine g_istore o (q := 13) dX1_heldSpots_11 rfl (by decide) h (fun x23 => [(4, .int x23), (3, .int x22), (2, .ref (eA (xE X) (a0 + 2))), (1, .int x21), (0, .ref (eA (xE X) a0))]) (fun _ => rfl) (fun x23 h => ?_)
  refine g_sub (lv' := [(1, .int x21), (2, .ref (eA (xE X) (a0 + 2))), (3, .int x22), (4, .int x23)]) [3, 2, 1, 0] rfl ?_
  exact w_X1_heldSpots_L13 hres o hr  FU x21 (a0 + 2) x22 x23 σ (ka_spots h0) h
theorem c_X1_heldSpots {l : Launch} {E : En} {mk : Mem → Mem} (hmk : MK mk sdC) (a0 : Nat) (h0 : kd sdC a0 1) {σ : Mem} {r : Int32} {τ : Mem} (h : f_X1_heldSpots a0 σ = some (r, τ)) : Met l yX1_heldSpots (Cond.code yX1_heldSpots cX1_heldSpots 6 (some .int) :: wt) rm_X1_heldSpots (PW E mk [.ref (eA E a0)] σ) (QI E mk r τ) 0 0 (WA E) :=
  met_i (fun E => [.ref (eA E a0)]) (by decide) hmk (Nat.le_of_ble_eq_true rfl) (fun X o hr => w_X1_heldSpots rfl o hr a0 h0 h)
set_option maxRecDepth 100000 in
set_option maxHeartbeats 4000000 in
theorem w_X2_isMissing {X : Cx} {l : Launch} {r : Int32} {σr : Mem} {res : Int32 × Mem} (hres : res = (r, σr)) (o : OK X cX2_isMissing RX2 sdC 1 rm_X2_isMissing l) (hr : RI X .boolean r σr) (a0 : Nat) (h0 : kd sdC a0 2) {σ : Mem} (h : f_X2_isMissing a0 σ = some res) : G X σ 0 [(0, .ref (eA (xE X) a0))] [] := by
  unfold f_X2_isMissing at h
  refine g_aload_n o (q := 1) 0 rfl rfl dX2_isMissing_0 rfl ?_
  refine gf_X2_0 o (q := 4) h0 lk_X2_15 dX2_isMissing_1 rfl ?_
  refine g_if_ne o (tgt := 11) (q := 7) dX2_isMissing_4 (by decide) rfl h (fun h => ?_) (fun h => ?_)
  · refine g_iconst o (v := 0) (q := 12) (by decide) dX2_isMissing_11 rfl ?_
    exact g_iret o hr (h.trans (congrArg some hres)) (by decide) dX2_isMissing_12
  · refine g_iconst o (v := 1) (q := 8) (by decide) dX2_isMissing_7 rfl ?_
    refine g_goto o (tgt := 12) dX2_isMissing_8 (by decide) ?_
    exact g_iret o hr (h.trans (congrArg some hres)) (by decide) dX2_isMissing_12
theorem c_X2_isMissing {l : Launch} {E : En} {mk : Mem → Mem} (hmk : MK mk sdC) (a0 : Nat) (h0 : kd sdC a0 2) {σ : Mem} {r : Int32} {τ : Mem} (h : f_X2_isMissing a0 σ = some (r, τ)) : Met l yX2_isMissing (Cond.code yX2_isMissing cX2_isMissing 1 (some .boolean) :: wt) rm_X2_isMissing (PW E mk [.ref (eA E a0)] σ) (QI E mk r τ) 0 0 (WA E) :=
  met_i (fun E => [.ref (eA E a0)]) (by decide) hmk (Nat.le_of_ble_eq_true rfl) (fun X o hr => w_X2_isMissing rfl o hr a0 h0 h)
set_option maxRecDepth 100000 in
set_option maxHeartbeats 4000000 in
theorem w_X2_lay_L12 {X : Cx} {l : Launch} {u : Unit} {σr : Mem} {res : Unit × Mem} (hres : res = (u, σr)) (o : OK X cX2_lay RX2 sdC 4 rm_X2_lay l) (hr : RV X σr)   : ∀ (n : Nat) (b0 : Nat) (y2 : Int32) (y3 : Int32) (σ : Mem), kd sdC b0 2 → f_X2_lay_L12  n b0 y2 y3 σ = some res → G X σ 12 [(0, .ref (eA (xE X) b0)), (2, .int y2), (3, .int y3)] [] := by
  intro n
  induction n with
  | zero => intro b0 y2 y3 σ g0 h; cases h
  | succ n ih =>
    intro b0 y2 y3 σ g0 h
    rw [f_X2_lay_L12_s] at h
    refine g_iload_n o (q := 13) 2 rfl rfl dX2_lay_12 rfl ?_
    refine g_iload_n o (q := 14) 1 rfl rfl dX2_lay_13 rfl ?_
    refine g_icmp_ge o (tgt := 30) (q := 17) dX2_lay_14 (by decide) rfl h (fun h => ?_) (fun h => ?_)
    · exact g_vret o hr (h.trans (congrArg some hres)) dX2_lay_30
    · refine g_aload_n o (q := 18) 0 rfl rfl dX2_lay_17 rfl ?_
      refine gf_X2_2 o (q := 21) g0 lk_X2_9 dX2_lay_18 rfl ?_
      refine g_iload_n o (q := 22) 2 rfl rfl dX2_lay_21 rfl ?_
      refine g_iconst o (v := 0) (q := 23) (by decide) dX2_lay_22 rfl ?_
      refine g_iast o (q := 24) (ka_num g0) dX2_lay_23 rfl h (fun j24 σ25 h => ?_)
      refine g_iinc o (q := 27) (dn := 1) dX2_lay_24 rfl 2 rfl (by decide) (by decide) h (fun x26 => [(3, .int x26), (0, .ref (eA (xE X) b0)), (2, .int y2)]) (fun _ => rfl) (fun x26 h => ?_)
      refine g_goto o (tgt := 12) dX2_lay_27 (by decide) ?_
      refine g_sub (lv' := [(0, .ref (eA (xE X) b0)), (2, .int y2), (3, .int x26)]) [1, 2, 0] rfl ?_
      exact ih b0 y2 x26 σ25 g0 h
set_option maxRecDepth 100000 in
set_option maxHeartbeats 4000000 in
theorem w_X2_lay {X : Cx} {l : Launch} {u : Unit} {σr : Mem} {res : Unit × Mem} (hres : res = (u, σr)) (o : OK X cX2_lay RX2 sdC 4 rm_X2_lay l) (hr : RV X σr) (a0 : Nat) (x1 : Int32) (x2 : Int32) (h0 : kd sdC a0 2) {σ : Mem} (h : f_X2_lay a0 x1 x2 σ = some res) : G X σ 0 [(0, .ref (eA (xE X) a0)), (1, .int x1), (2, .int x2)] [] := by
  unfold f_X2_lay at h
  refine g_aload_n o (q := 1) 0 rfl rfl dX2_lay_0 rfl ?_
  refine g_iload_n o (q := 2) 1 rfl rfl dX2_lay_1 rfl ?_
  refine gp_X2_0 o (q := 5) h0 lk_X2_15 dX2_lay_2 rfl h (fun σ21 h => ?_)
  refine g_aload_n o (q := 6) 0 rfl rfl dX2_lay_5 rfl ?_
  refine g_iload_n o (q := 7) 2 rfl rfl dX2_lay_6 rfl ?_
  refine gp_X2_1 o (q := 10) h0 lk_X2_19 dX2_lay_7 rfl h (fun σ22 h => ?_)
  refine g_iconst o (v := 0) (q := 11) (by decide) dX2_lay_10 rfl ?_
  refine g_istore_n o (q := 12) dX2_lay_11 rfl rfl (by decide) h (fun x23 => [(3, .int x23), (0, .ref (eA (xE X) a0)), (1, .int x1), (2, .int x2)]) (fun _ => rfl) (fun x23 h => ?_)
  refine g_sub (lv' := [(0, .ref (eA (xE X) a0)), (2, .int x2), (3, .int x23)]) [1, 3, 0] rfl ?_
  exact w_X2_lay_L12 hres o hr  FU a0 x2 x23 σ22 h0 h
theorem c_X2_lay {l : Launch} {E : En} {mk : Mem → Mem} (hmk : MK mk sdC) (a0 : Nat) (x1 : Int32) (x2 : Int32) (h0 : kd sdC a0 2) {σ : Mem} {r : Unit} {τ : Mem} (h : f_X2_lay a0 x1 x2 σ = some (r, τ)) : Met l yX2_lay (Cond.code yX2_lay cX2_lay 4 none :: wt) rm_X2_lay (PW E mk [.ref (eA E a0), .int x1, .int x2] σ) (QV E mk τ) 0 0 (WA E) :=
  met_v (fun E => [.ref (eA E a0), .int x1, .int x2]) (by decide) hmk (Nat.le_of_ble_eq_true rfl) (fun X o hr => w_X2_lay rfl o hr a0 x1 x2 h0 h)
set_option maxRecDepth 100000 in
set_option maxHeartbeats 4000000 in
theorem w_X2_put {X : Cx} {l : Launch} {u : Unit} {σr : Mem} {res : Unit × Mem} (hres : res = (u, σr)) (o : OK X cX2_put RX2 sdC 3 rm_X2_put l) (hr : RV X σr) (a0 : Nat) (x1 : Int32) (x2 : Int32) (h0 : kd sdC a0 2) {σ : Mem} (h : f_X2_put a0 x1 x2 σ = some res) : G X σ 0 [(0, .ref (eA (xE X) a0)), (1, .int x1), (2, .int x2)] [] := by
  unfold f_X2_put at h
  refine g_aload_n o (q := 1) 0 rfl rfl dX2_put_0 rfl ?_
  refine gf_X2_0 o (q := 4) h0 lk_X2_15 dX2_put_1 rfl ?_
  refine g_bipush o (v := 8) (q := 6) (by decide) dX2_put_4 rfl ?_
  refine g_icmp_ne o (tgt := 20) (q := 9) dX2_put_6 (by decide) rfl h (fun h => ?_) (fun h => ?_)
  · refine g_aload_n o (q := 21) 0 rfl rfl dX2_put_20 rfl ?_
    refine gf_X2_0 o (q := 24) h0 lk_X2_15 dX2_put_21 rfl ?_
    refine g_bipush o (v := 16) (q := 26) (by decide) dX2_put_24 rfl ?_
    refine g_icmp_ne o (tgt := 40) (q := 29) dX2_put_26 (by decide) rfl h (fun h => ?_) (fun h => ?_)
    · refine g_aload_n o (q := 41) 0 rfl rfl dX2_put_40 rfl ?_
      refine gf_X2_2 o (q := 44) h0 lk_X2_9 dX2_put_41 rfl ?_
      refine g_iload_n o (q := 45) 1 rfl rfl dX2_put_44 rfl ?_
      refine g_iload_n o (q := 46) 2 rfl rfl dX2_put_45 rfl ?_
      refine g_iast o (q := 47) (ka_num h0) dX2_put_46 rfl h (fun j21 σ22 h => ?_)
      exact g_vret o hr (h.trans (congrArg some hres)) dX2_put_47
    · refine g_aload_n o (q := 30) 0 rfl rfl dX2_put_29 rfl ?_
      refine gf_X2_2 o (q := 33) h0 lk_X2_9 dX2_put_30 rfl ?_
      refine g_iload_n o (q := 34) 1 rfl rfl dX2_put_33 rfl ?_
      refine g_iload_n o (q := 35) 2 rfl rfl dX2_put_34 rfl ?_
      refine g_i2s o (q := 36) dX2_put_35 rfl ?_
      refine g_iast o (q := 37) (ka_num h0) dX2_put_36 rfl h (fun j23 σ24 h => ?_)
      refine g_goto o (tgt := 47) dX2_put_37 (by decide) ?_
      exact g_vret o hr (h.trans (congrArg some hres)) dX2_put_47
  · refine g_aload_n o (q := 10) 0 rfl rfl dX2_put_9 rfl ?_
    refine gf_X2_2 o (q := 13) h0 lk_X2_9 dX2_put_10 rfl ?_
    refine g_iload_n o (q := 14) 1 rfl rfl dX2_put_13 rfl ?_
    refine g_iload_n o (q := 15) 2 rfl rfl dX2_put_14 rfl ?_
    refine g_i2b o (q := 16) dX2_put_15 rfl ?_
    refine g_iast o (q := 17) (ka_num h0) dX2_put_16 rfl h (fun j25 σ26 h => ?_)
    refine g_goto o (tgt := 47) dX2_put_17 (by decide) ?_
    exact g_vret o hr (h.trans (congrArg some hres)) dX2_put_47
theorem c_X2_put {l : Launch} {E : En} {mk : Mem → Mem} (hmk : MK mk sdC) (a0 : Nat) (x1 : Int32) (x2 : Int32) (h0 : kd sdC a0 2) {σ : Mem} {r : Unit} {τ : Mem} (h : f_X2_put a0 x1 x2 σ = some (r, τ)) : Met l yX2_put (Cond.code yX2_put cX2_put 3 none :: wt) rm_X2_put (PW E mk [.ref (eA E a0), .int x1, .int x2] σ) (QV E mk τ) 0 0 (WA E) :=
  met_v (fun E => [.ref (eA E a0), .int x1, .int x2]) (by decide) hmk (Nat.le_of_ble_eq_true rfl) (fun X o hr => w_X2_put rfl o hr a0 x1 x2 h0 h)
set_option maxRecDepth 100000 in
set_option maxHeartbeats 4000000 in
theorem w_X2_has {X : Cx} {l : Launch} {r : Int32} {σr : Mem} {res : Int32 × Mem} (hres : res = (r, σr)) (o : OK X cX2_has RX2 sdC 3 rm_X2_has l) (hr : RI X .boolean r σr) (a0 : Nat) (x1 : Int32) (x2 : Int32) (h0 : kd sdC a0 2) {σ : Mem} (h : f_X2_has a0 x1 x2 σ = some res) : G X σ 0 [(0, .ref (eA (xE X) a0)), (1, .int x1), (2, .int x2)] [] := by
  unfold f_X2_has at h
  refine g_iload_n o (q := 1) 2 rfl rfl dX2_has_0 rfl ?_
  refine g_if_lt o (tgt := 22) (q := 4) dX2_has_1 (by decide) rfl h (fun h => ?_) (fun h => ?_)
  · refine g_iconst o (v := 0) (q := 23) (by decide) dX2_has_22 rfl ?_
    exact g_iret o hr (h.trans (congrArg some hres)) (by decide) dX2_has_23
  · refine g_iload_n o (q := 5) 1 rfl rfl dX2_has_4 rfl ?_
    refine g_if_lt o (tgt := 22) (q := 8) dX2_has_5 (by decide) rfl h (fun h => ?_) (fun h => ?_)
    · refine g_iconst o (v := 0) (q := 23) (by decide) dX2_has_22 rfl ?_
      exact g_iret o hr (h.trans (congrArg some hres)) (by decide) dX2_has_23
    · refine g_iload_n o (q := 9) 1 rfl rfl dX2_has_8 rfl ?_
      refine g_aload_n o (q := 10) 0 rfl rfl dX2_has_9 rfl ?_
      refine gf_X2_1 o (q := 13) h0 lk_X2_19 dX2_has_10 rfl ?_
      refine g_iload_n o (q := 14) 2 rfl rfl dX2_has_13 rfl ?_
      refine g_isub o (q := 15) dX2_has_14 rfl ?_
      refine g_icmp_gt o (tgt := 22) (q := 18) dX2_has_15 (by decide) rfl h (fun h => ?_) (fun h => ?_)
      · refine g_iconst o (v := 0) (q := 23) (by decide) dX2_has_22 rfl ?_
        exact g_iret o hr (h.trans (congrArg some hres)) (by decide) dX2_has_23
      · refine g_iconst o (v := 1) (q := 19) (by decide) dX2_has_18 rfl ?_
        refine g_goto o (tgt := 23) dX2_has_19 (by decide) ?_
        exact g_iret o hr (h.trans (congrArg some hres)) (by decide) dX2_has_23
theorem c_X2_has {l : Launch} {E : En} {mk : Mem → Mem} (hmk : MK mk sdC) (a0 : Nat) (x1 : Int32) (x2 : Int32) (h0 : kd sdC a0 2) {σ : Mem} {r : Int32} {τ : Mem} (h : f_X2_has a0 x1 x2 σ = some (r, τ)) : Met l yX2_has (Cond.code yX2_has cX2_has 3 (some .boolean) :: wt) rm_X2_has (PW E mk [.ref (eA E a0), .int x1, .int x2] σ) (QI E mk r τ) 0 0 (WA E) :=
  met_i (fun E => [.ref (eA E a0), .int x1, .int x2]) (by decide) hmk (Nat.le_of_ble_eq_true rfl) (fun X o hr => w_X2_has rfl o hr a0 x1 x2 h0 h)
set_option maxRecDepth 100000 in
set_option maxHeartbeats 4000000 in
theorem w_X3_add {X : Cx} {l : Launch} {u : Unit} {σr : Mem} {res : Unit × Mem} (hres : res = (u, σr)) (o : OK X cX3_add RX3 sdC 2 rm_X3_add l) (hr : RV X σr) (x1 : Int32)  {σ : Mem} (h : f_X3_add x1 σ = some res) : G X σ 0 [(0, .ref (eA (xE X) 38)), (1, .int x1)] [] := by
  unfold f_X3_add at h
  refine g_aload_n o (q := 1) 0 rfl rfl dX3_add_0 rfl ?_
  refine gf_X3_1 o (q := 4) kC_38 lk_X3_15 dX3_add_1 rfl ?_
  refine g_bipush o (v := 120) (q := 6) (by decide) dX3_add_4 rfl ?_
  refine g_icmp_ge o (tgt := 29) (q := 9) dX3_add_6 (by decide) rfl h (fun h => ?_) (fun h => ?_)
  · exact g_vret o hr (h.trans (congrArg some hres)) dX3_add_29
  · refine g_aload_n o (q := 10) 0 rfl rfl dX3_add_9 rfl ?_
    refine gf_X3_0 o (q := 13) kC_38 lk_X3_9 dX3_add_10 rfl ?_
    refine g_aload_n o (q := 14) 0 rfl rfl dX3_add_13 rfl ?_
    refine gf_X3_1 o (q := 17) kC_38 lk_X3_15 dX3_add_14 rfl ?_
    refine g_iload_n o (q := 18) 1 rfl rfl dX3_add_17 rfl ?_
    refine g_bast o (q := 19) kC_39 dX3_add_18 rfl h (fun j21 σ22 h => ?_)
    refine g_aload_n o (q := 20) 0 rfl rfl dX3_add_19 rfl ?_
    refine g_dup o (q := 21) rfl dX3_add_20 rfl ?_
    refine gf_X3_1 o (q := 24) kC_38 lk_X3_15 dX3_add_21 rfl ?_
    refine g_iconst o (v := 1) (q := 25) (by decide) dX3_add_24 rfl ?_
    refine g_iadd o (q := 26) dX3_add_25 rfl ?_
    refine gp_X3_1 o (q := 29) kC_38 lk_X3_15 dX3_add_26 rfl h (fun σ23 h => ?_)
    exact g_vret o hr (h.trans (congrArg some hres)) dX3_add_29
theorem c_X3_add {l : Launch} {E : En} {mk : Mem → Mem} (hmk : MK mk sdC) (x1 : Int32)  {σ : Mem} {r : Unit} {τ : Mem} (h : f_X3_add x1 σ = some (r, τ)) : Met l yX3_add (Cond.code yX3_add cX3_add 2 none :: wt) rm_X3_add (PW E mk [.ref (eA E 38), .int x1] σ) (QV E mk τ) 0 0 (WA E) :=
  met_v (fun E => [.ref (eA E 38), .int x1]) (by decide) hmk (Nat.le_of_ble_eq_true rfl) (fun X o hr => w_X3_add rfl o hr x1  h)
