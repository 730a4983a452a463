set_option maxRecDepth 100000 in
set_option maxHeartbeats 4000000 in
theorem w_X5_text_L111 {X : Cx} {l : Launch} {r : Int32} {σr : Mem} {res : Int32 × Mem} (hres : res = (r, σr)) (o : OK X cX5_text RX5 sdM 2 rm_X5_text l) (hr : RI X .int r σr)   : ∀ (n : Nat) (y1 : Int32) (σ : Mem), f_X5_text_L111  n y1 σ = some res → G X σ 111 [(0, .ref (eA (xE X) 50)), (1, .int y1)] [] := by
  intro n
  induction n with
  | zero => intro y1 σ  h; cases h
  | succ n ih =>
    intro y1 σ  h
    rw [f_X5_text_L111_s] at h
    refine g_iload_n o (q := 112) 1 rfl rfl dX5_text_111 rfl ?_
    refine g_aload_n o (q := 113) 0 rfl rfl dX5_text_112 rfl ?_
    refine gf_X5_14 o (q := 116) kM_50 lk_X5_264 dX5_text_113 rfl ?_
    refine g_icmp_ge o (tgt := 132) (q := 119) dX5_text_116 (by decide) rfl h (fun h => ?_) (fun h => ?_)
    · refine g_aload_n o (q := 133) 0 rfl rfl dX5_text_132 rfl ?_
      refine gf_X5_14 o (q := 136) kM_50 lk_X5_264 dX5_text_133 rfl ?_
      exact g_iret o hr (h.trans (congrArg some hres)) rfl dX5_text_136
    · refine g_aload_n o (q := 120) 0 rfl rfl dX5_text_119 rfl ?_
      refine g_iconst o (v := 5) (q := 121) (by decide) dX5_text_120 rfl ?_
      refine g_iload_n o (q := 122) 1 rfl rfl dX5_text_121 rfl ?_
      refine g_imul o (q := 123) dX5_text_122 rfl ?_
      refine g_cvv o (q := 126) (As := [.int (5 * y1)]) (rest := []) kv_X5_isToldSo lk_X5_304 kM_50 (by decide) rfl rfl rfl (fun _ _ hc => c_X5_isToldSo o.mk (5 * y1) hc) dX5_text_123 rfl ⟨rfl, rfl, Nat.le_of_ble_eq_true rfl, Nat.le_of_ble_eq_true rfl⟩ (Nat.le_of_ble_eq_true rfl) rfl h (fun _u31 σ31 h => ?_)
      refine g_iinc o (q := 129) (dn := 1) dX5_text_126 rfl 1 rfl (by decide) (by decide) h (fun x32 => [(1, .int x32), (0, .ref (eA (xE X) 50))]) (fun _ => rfl) (fun x32 h => ?_)
      refine g_goto o (tgt := 111) dX5_text_129 (by decide) ?_
      refine g_sub (lv' := [(0, .ref (eA (xE X) 50)), (1, .int x32)]) [1, 0] rfl ?_
      exact ih x32 σ31  h
set_option maxRecDepth 100000 in
set_option maxHeartbeats 4000000 in
theorem w_X5_text_J87 {X : Cx} {l : Launch} {r : Int32} {σr : Mem} {res : Int32 × Mem} (hres : res = (r, σr)) (o : OK X cX5_text RX5 sdM 2 rm_X5_text l) (hr : RI X .int r σr)   {s1 : Int32}  {σ : Mem} (h : f_X5_text_J87  s1 σ = some res) : G X σ 87 [(0, .ref (eA (xE X) 50))] [.int s1, .ref (eA (xE X) 50)] := by
  unfold f_X5_text_J87 at h
  refine g_cvv o (q := 90) (As := [.int s1]) (rest := []) kv_X5_must lk_X5_260 kM_50 (by decide) rfl rfl rfl (fun _ _ hc => c_X5_must o.mk s1 hc) dX5_text_87 rfl ⟨rfl, rfl, Nat.le_of_ble_eq_true rfl, Nat.le_of_ble_eq_true rfl⟩ (Nat.le_of_ble_eq_true rfl) rfl h (fun _u28 σ28 h => ?_)
  refine g_aload_n o (q := 91) 0 rfl rfl dX5_text_90 rfl ?_
  refine g_iconst o (v := 0) (q := 92) (by decide) dX5_text_91 rfl ?_
  refine gp_X5_6 o (q := 95) kM_50 lk_X5_227 dX5_text_92 rfl h (fun σ29 h => ?_)
  refine g_aload_n o (q := 96) 0 rfl rfl dX5_text_95 rfl ?_
  refine gf_X5_11 o (q := 99) kM_50 lk_X5_253 dX5_text_96 rfl ?_
  refine g_if_eq o (tgt := 109) (q := 102) dX5_text_99 (by decide) rfl h (fun h => ?_) (fun h => ?_)
  · refine g_iconst o (v := 0) (q := 110) (by decide) dX5_text_109 rfl ?_
    refine g_istore_n o (q := 111) dX5_text_110 rfl rfl (by decide) h (fun x30 => [(1, .int x30), (0, .ref (eA (xE X) 50))]) (fun _ => rfl) (fun x30 h => ?_)
    refine g_sub (lv' := [(0, .ref (eA (xE X) 50)), (1, .int x30)]) [1, 0] rfl ?_
    exact w_X5_text_L111 hres o hr  FU x30 σ29  h
  · refine g_iconst o (v := (-1)) (q := 103) (by decide) dX5_text_102 rfl ?_
    refine g_aload_n o (q := 104) 0 rfl rfl dX5_text_103 rfl ?_
    refine gf_X5_7 o (q := 107) kM_50 lk_X5_234 dX5_text_104 rfl ?_
    refine g_isub o (q := 108) dX5_text_107 rfl ?_
    exact g_iret o hr (h.trans (congrArg some hres)) rfl dX5_text_108
set_option maxRecDepth 100000 in
set_option maxHeartbeats 4000000 in
theorem w_X5_text_J74 {X : Cx} {l : Launch} {r : Int32} {σr : Mem} {res : Int32 × Mem} (hres : res = (r, σr)) (o : OK X cX5_text RX5 sdM 2 rm_X5_text l) (hr : RI X .int r σr)     {σ : Mem} (h : f_X5_text_J74   σ = some res) : G X σ 74 [(0, .ref (eA (xE X) 50))] [] := by
  unfold f_X5_text_J74 at h
  refine g_aload_n o (q := 75) 0 rfl rfl dX5_text_74 rfl ?_
  refine g_aload_n o (q := 76) 0 rfl rfl dX5_text_75 rfl ?_
  refine gf_X5_9 o (q := 79) kM_50 lk_X5_243 dX5_text_76 rfl ?_
  refine g_if_ne o (tgt := 86) (q := 82) dX5_text_79 (by decide) rfl h (fun h => ?_) (fun h => ?_)
  · refine g_iconst o (v := 0) (q := 87) (by decide) dX5_text_86 rfl ?_
    exact w_X5_text_J87 hres o hr   h
  · refine g_iconst o (v := 1) (q := 83) (by decide) dX5_text_82 rfl ?_
    refine g_goto o (tgt := 87) dX5_text_83 (by decide) ?_
    exact w_X5_text_J87 hres o hr   h
set_option maxRecDepth 100000 in
set_option maxHeartbeats 4000000 in
theorem w_X5_text_L33 {X : Cx} {l : Launch} {r : Int32} {σr : Mem} {res : Int32 × Mem} (hres : res = (r, σr)) (o : OK X cX5_text RX5 sdM 2 rm_X5_text l) (hr : RI X .int r σr)   : ∀ (n : Nat)  (σ : Mem), f_X5_text_L33  n  σ = some res → G X σ 33 [(0, .ref (eA (xE X) 50))] [] := by
  intro n
  induction n with
  | zero => intro  σ  h; cases h
  | succ n ih =>
    intro  σ  h
    rw [f_X5_text_L33_s] at h
    refine g_aload_n o (q := 34) 0 rfl rfl dX5_text_33 rfl ?_
    refine gf_X5_11 o (q := 37) kM_50 lk_X5_253 dX5_text_34 rfl ?_
    refine g_if_ne o (tgt := 74) (q := 40) dX5_text_37 (by decide) rfl h (fun h => ?_) (fun h => ?_)
    · exact w_X5_text_J74 hres o hr   h
    · refine g_aload_n o (q := 41) 0 rfl rfl dX5_text_40 rfl ?_
      refine gf_X5_9 o (q := 44) kM_50 lk_X5_243 dX5_text_41 rfl ?_
      refine g_iconst o (v := 3) (q := 45) (by decide) dX5_text_44 rfl ?_
      refine g_icmp_ne o (tgt := 74) (q := 48) dX5_text_45 (by decide) rfl h (fun h => ?_) (fun h => ?_)
      · exact w_X5_text_J74 hres o hr   h
      · refine g_aload_n o (q := 49) 0 rfl rfl dX5_text_48 rfl ?_
        refine gf_X5_5 o (q := 52) kM_50 lk_X5_22 dX5_text_49 rfl ?_
        refine g_aload_n o (q := 53) 0 rfl rfl dX5_text_52 rfl ?_
        refine gf_X5_7 o (q := 56) kM_50 lk_X5_234 dX5_text_53 rfl ?_
        refine g_iald o (q := 57) kM_55 dX5_text_56 rfl h (fun j33 hjj33 h => ?_)
        refine g_bipush o (v := 59) (q := 59) (by decide) dX5_text_57 rfl ?_
        refine g_icmp_ne o (tgt := 74) (q := 62) dX5_text_59 (by decide) rfl h (fun h => ?_) (fun h => ?_)
        · exact w_X5_text_J74 hres o hr   h
        · refine g_aload_n o (q := 63) 0 rfl rfl dX5_text_62 rfl ?_
          refine g_iconst o (v := 1) (q := 64) (by decide) dX5_text_63 rfl ?_
          refine g_cvv o (q := 67) (As := [.int 1]) (rest := []) kv_X5_must lk_X5_260 kM_50 (by decide) rfl rfl rfl (fun _ _ hc => c_X5_must o.mk 1 hc) dX5_text_64 rfl ⟨rfl, rfl, Nat.le_of_ble_eq_true rfl, Nat.le_of_ble_eq_true rfl⟩ (Nat.le_of_ble_eq_true rfl) rfl h (fun _u34 σ34 h => ?_)
          refine g_aload_n o (q := 68) 0 rfl rfl dX5_text_67 rfl ?_
          refine g_cvv o (q := 71) (As := []) (rest := []) kv_X5_readItem lk_X5_301 kM_50 (by decide) rfl rfl rfl (fun _ _ hc => c_X5_readItem o.mk  hc) dX5_text_68 rfl ⟨rfl, rfl, Nat.le_of_ble_eq_true rfl, Nat.le_of_ble_eq_true rfl⟩ (Nat.le_of_ble_eq_true rfl) rfl h (fun _u35 σ35 h => ?_)
          refine g_goto o (tgt := 33) dX5_text_71 (by decide) ?_
          exact ih  σ35  h
set_option maxRecDepth 100000 in
set_option maxHeartbeats 4000000 in
theorem w_X5_text {X : Cx} {l : Launch} {r : Int32} {σr : Mem} {res : Int32 × Mem} (hres : res = (r, σr)) (o : OK X cX5_text RX5 sdM 2 rm_X5_text l) (hr : RI X .int r σr)   {σ : Mem} (h : f_X5_text  σ = some res) : G X σ 0 [(0, .ref (eA (xE X) 50))] [] := by
  unfold f_X5_text at h
  refine g_aload_n o (q := 1) 0 rfl rfl dX5_text_0 rfl ?_
  refine g_iconst o (v := 0) (q := 2) (by decide) dX5_text_1 rfl ?_
  refine gp_X5_8 o (q := 5) kM_50 lk_X5_231 dX5_text_2 rfl h (fun σ21 h => ?_)
  refine g_aload_n o (q := 6) 0 rfl rfl dX5_text_5 rfl ?_
  refine g_iconst o (v := 0) (q := 7) (by decide) dX5_text_6 rfl ?_
  refine gp_X5_11 o (q := 10) kM_50 lk_X5_253 dX5_text_7 rfl (by decide) h (fun σ22 h => ?_)
  refine g_aload_n o (q := 11) 0 rfl rfl dX5_text_10 rfl ?_
  refine g_iconst o (v := 0) (q := 12) (by decide) dX5_text_11 rfl ?_
  refine gp_X5_14 o (q := 15) kM_50 lk_X5_264 dX5_text_12 rfl h (fun σ23 h => ?_)
  refine g_aload_n o (q := 16) 0 rfl rfl dX5_text_15 rfl ?_
  refine g_aload_n o (q := 17) 0 rfl rfl dX5_text_16 rfl ?_
  refine gf_X5_0 o (q := 20) kM_50 lk_X5_9 dX5_text_17 rfl ?_
  refine g_iconst o (v := 1) (q := 21) (by decide) dX5_text_20 rfl ?_
  refine g_iald o (q := 22) kM_51 dX5_text_21 rfl h (fun j24 hjj24 h => ?_)
  refine gp_X5_15 o (q := 25) kM_50 lk_X5_271 dX5_text_22 rfl h (fun σ25 h => ?_)
  refine g_aload_n o (q := 26) 0 rfl rfl dX5_text_25 rfl ?_
  refine g_cvv o (q := 29) (As := []) (rest := []) kv_X5_token lk_X5_257 kM_50 (by decide) rfl rfl rfl (fun _ _ hc => c_X5_token o.mk  hc) dX5_text_26 rfl ⟨rfl, rfl, Nat.le_of_ble_eq_true rfl, Nat.le_of_ble_eq_true rfl⟩ (Nat.le_of_ble_eq_true rfl) rfl h (fun _u26 σ26 h => ?_)
  refine g_aload_n o (q := 30) 0 rfl rfl dX5_text_29 rfl ?_
  refine g_cvv o (q := 33) (As := []) (rest := []) kv_X5_readItem lk_X5_301 kM_50 (by decide) rfl rfl rfl (fun _ _ hc => c_X5_readItem o.mk  hc) dX5_text_30 rfl ⟨rfl, rfl, Nat.le_of_ble_eq_true rfl, Nat.le_of_ble_eq_true rfl⟩ (Nat.le_of_ble_eq_true rfl) rfl h (fun _u27 σ27 h => ?_)
  exact w_X5_text_L33 hres o hr  FU  σ27  h
theorem c_X5_text {l : Launch} {E : En} {mk : Mem → Mem} (hmk : MK mk sdM)   {σ : Mem} {r : Int32} {τ : Mem} (h : f_X5_text  σ = some (r, τ)) : Met l yX5_text (Cond.code yX5_text cX5_text 2 (some .int) :: wt) rm_X5_text (PW E mk [.ref (eA E 50)] σ) (QI E mk r τ) 0 0 (WA E) :=
  met_i (fun E => [.ref (eA E 50)]) (by decide) hmk (Nat.le_of_ble_eq_true rfl) (fun X o hr => w_X5_text rfl o hr   h)
set_option maxRecDepth 100000 in
set_option maxHeartbeats 4000000 in
theorem w_X5_isSpot {X : Cx} {l : Launch} {r : Int32} {σr : Mem} {res : Int32 × Mem} (hres : res = (r, σr)) (o : OK X cX5_isSpot RX5 sdM 1 rm_X5_isSpot l) (hr : RI X .boolean r σr) (x0 : Int32)  {σ : Mem} (h : f_X5_isSpot x0 σ = some res) : G X σ 0 [(0, .int x0)] [] := by
  unfold f_X5_isSpot at h
  refine g_iload_n o (q := 1) 0 rfl rfl dX5_isSpot_0 rfl ?_
  refine g_iconst o (v := 0) (q := 2) (by decide) dX5_isSpot_1 rfl ?_
  refine g_bipush o (v := 9) (q := 4) (by decide) dX5_isSpot_2 rfl ?_
  refine g_csi o (q := 7) (As := [.int x0, .int 0, .int 9]) (rest := []) kv_X5_within lk_X5_70 rfl (fun _ _ hc => c_X5_within o.mk x0 0 9 hc) dX5_isSpot_4 rfl ⟨rfl, rfl, Nat.le_of_ble_eq_true rfl, Nat.le_of_ble_eq_true rfl⟩ (Nat.le_of_ble_eq_true rfl) rfl h (fun r22 σ21 h => ?_)
  obtain ⟨hb, h⟩ := vB_some h
  exact g_iret o hr (h.trans (congrArg some hres)) (by rcases hb with hb | hb <;> rw [hb] <;> rfl) dX5_isSpot_7
theorem c_X5_isSpot {l : Launch} {E : En} {mk : Mem → Mem} (hmk : MK mk sdM) (x0 : Int32)  {σ : Mem} {r : Int32} {τ : Mem} (h : f_X5_isSpot x0 σ = some (r, τ)) : Met l yX5_isSpot (Cond.code yX5_isSpot cX5_isSpot 1 (some .boolean) :: wt) rm_X5_isSpot (PW E mk [.int x0] σ) (QI E mk r τ) 0 0 (WA E) :=
  met_i (fun E => [.int x0]) (by decide) hmk (Nat.le_of_ble_eq_true rfl) (fun X o hr => w_X5_isSpot rfl o hr x0  h)
set_option maxRecDepth 100000 in
set_option maxHeartbeats 4000000 in
theorem w_X5_hold_J20 {X : Cx} {l : Launch} {r : Int32} {σr : Mem} {res : Int32 × Mem} (hres : res = (r, σr)) (o : OK X cX5_hold RX5 sdM 3 rm_X5_hold l) (hr : RI X .int r σr)     {σ : Mem} (h : f_X5_hold_J20   σ = some res) : G X σ 20 [(0, .ref (eA (xE X) 50))] [] := by
  unfold f_X5_hold_J20 at h
  refine g_aload_n o (q := 21) 0 rfl rfl dX5_hold_20 rfl ?_
  refine g_ldc o (q := 23) lk_X5_60 dX5_hold_21 rfl ?_
  refine g_cvi o (q := 26) (As := [.int (-1000001)]) (rest := []) kv_X5_finding lk_X5_66 kM_50 (by decide) rfl rfl rfl (fun _ _ hc => c_X5_finding o.mk (-1000001) hc) dX5_hold_23 rfl ⟨rfl, rfl, Nat.le_of_ble_eq_true rfl, Nat.le_of_ble_eq_true rfl⟩ (Nat.le_of_ble_eq_true rfl) rfl h (fun r24 σ23 h => ?_)
  exact g_iret o hr (h.trans (congrArg some hres)) rfl dX5_hold_26
set_option maxRecDepth 100000 in
set_option maxHeartbeats 4000000 in
theorem w_X5_hold_J27 {X : Cx} {l : Launch} {r : Int32} {σr : Mem} {res : Int32 × Mem} (hres : res = (r, σr)) (o : OK X cX5_hold RX5 sdM 3 rm_X5_hold l) (hr : RI X .int r σr)   {y1 : Int32} {y2 : Int32}  {σ : Mem} (h : f_X5_hold_J27  y1 y2 σ = some res) : G X σ 27 [(0, .ref (eA (xE X) 50)), (1, .int y1), (2, .int y2)] [] := by
  unfold f_X5_hold_J27 at h
  refine g_aload_n o (q := 28) 0 rfl rfl dX5_hold_27 rfl ?_
  refine gf_X5_0 o (q := 31) kM_50 lk_X5_9 dX5_hold_28 rfl ?_
  refine g_bipush o (v := 12) (q := 33) (by decide) dX5_hold_31 rfl ?_
  refine g_iload_n o (q := 34) 1 rfl rfl dX5_hold_33 rfl ?_
  refine g_iadd o (q := 35) dX5_hold_34 rfl ?_
  refine g_iload_n o (q := 36) 2 rfl rfl dX5_hold_35 rfl ?_
  refine g_iast o (q := 37) kM_51 dX5_hold_36 rfl h (fun j25 σ26 h => ?_)
  refine g_iconst o (v := 1) (q := 38) (by decide) dX5_hold_37 rfl ?_
  exact g_iret o hr (h.trans (congrArg some hres)) rfl dX5_hold_38
set_option maxRecDepth 100000 in
set_option maxHeartbeats 4000000 in
theorem w_X5_hold {X : Cx} {l : Launch} {r : Int32} {σr : Mem} {res : Int32 × Mem} (hres : res = (r, σr)) (o : OK X cX5_hold RX5 sdM 3 rm_X5_hold l) (hr : RI X .int r σr) (x1 : Int32) (x2 : Int32)  {σ : Mem} (h : f_X5_hold x1 x2 σ = some res) : G X σ 0 [(0, .ref (eA (xE X) 50)), (1, .int x1), (2, .int x2)] [] := by
  unfold f_X5_hold at h
  refine g_iload_n o (q := 1) 1 rfl rfl dX5_hold_0 rfl ?_
  refine g_csi o (q := 4) (As := [.int x1]) (rest := []) kv_X5_isSpot lk_X5_307 rfl (fun _ _ hc => c_X5_isSpot o.mk x1 hc) dX5_hold_1 rfl ⟨rfl, rfl, Nat.le_of_ble_eq_true rfl, Nat.le_of_ble_eq_true rfl⟩ (Nat.le_of_ble_eq_true rfl) rfl h (fun r22 σ21 h => ?_)
  refine g_if_eq o (tgt := 20) (q := 7) dX5_hold_4 (by decide) rfl h (fun h => ?_) (fun h => ?_)
  · refine g_sub (lv' := [(0, .ref (eA (xE X) 50))]) [0] rfl ?_
    exact w_X5_hold_J20 hres o hr   h
  · refine g_iload_n o (q := 8) 2 rfl rfl dX5_hold_7 rfl ?_
    refine g_iconst o (v := (-1)) (q := 9) (by decide) dX5_hold_8 rfl ?_
    refine g_icmp_eq o (tgt := 27) (q := 12) dX5_hold_9 (by decide) rfl h (fun h => ?_) (fun h => ?_)
    · exact w_X5_hold_J27 hres o hr   h
    · refine g_aload_n o (q := 13) 0 rfl rfl dX5_hold_12 rfl ?_
      refine g_iload_n o (q := 14) 2 rfl rfl dX5_hold_13 rfl ?_
      refine g_cvi o (q := 17) (As := [.int x2]) (rest := []) kv_X5_isCurtain lk_X5_123 kM_50 (by decide) rfl rfl rfl (fun _ _ hc => c_X5_isCurtain o.mk x2 hc) dX5_hold_14 rfl ⟨rfl, rfl, Nat.le_of_ble_eq_true rfl, Nat.le_of_ble_eq_true rfl⟩ (Nat.le_of_ble_eq_true rfl) rfl h (fun r28 σ27 h => ?_)
      refine g_if_ne o (tgt := 27) (q := 20) dX5_hold_17 (by decide) rfl h (fun h => ?_) (fun h => ?_)
      · exact w_X5_hold_J27 hres o hr   h
      · refine g_sub (lv' := [(0, .ref (eA (xE X) 50))]) [0] rfl ?_
        exact w_X5_hold_J20 hres o hr   h
theorem c_X5_hold {l : Launch} {E : En} {mk : Mem → Mem} (hmk : MK mk sdM) (x1 : Int32) (x2 : Int32)  {σ : Mem} {r : Int32} {τ : Mem} (h : f_X5_hold x1 x2 σ = some (r, τ)) : Met l yX5_hold (Cond.code yX5_hold cX5_hold 3 (some .int) :: wt) rm_X5_hold (PW E mk [.ref (eA E 50), .int x1, .int x2] σ) (QI E mk r τ) 0 0 (WA E) :=
  met_i (fun E => [.ref (eA E 50), .int x1, .int x2]) (by decide) hmk (Nat.le_of_ble_eq_true rfl) (fun X o hr => w_X5_hold rfl o hr x1 x2  h)
set_option maxRecDepth 100000 in
set_option maxHeartbeats 4000000 in
theorem w_X5_above {X : Cx} {l : Launch} {r : Int32} {σr : Mem} {res : Int32 × Mem} (hres : res = (r, σr)) (o : OK X cX5_above RX5 sdM 1 rm_X5_above l) (hr : RI X .int r σr) (x0 : Int32)  {σ : Mem} (h : f_X5_above x0 σ = some res) : G X σ 0 [(0, .int x0)] [] := by
  unfold f_X5_above at h
  refine g_iload_n o (q := 1) 0 rfl rfl dX5_above_0 rfl ?_
  refine g_if_ne o (tgt := 8) (q := 4) dX5_above_1 (by decide) rfl h (fun h => ?_) (fun h => ?_)
  · refine g_iload_n o (q := 9) 0 rfl rfl dX5_above_8 rfl ?_
    refine g_iconst o (v := 3) (q := 10) (by decide) dX5_above_9 rfl ?_
    refine g_icmp_ne o (tgt := 17) (q := 13) dX5_above_10 (by decide) rfl h (fun h => ?_) (fun h => ?_)
    · refine g_iload_n o (q := 18) 0 rfl rfl dX5_above_17 rfl ?_
      refine g_iconst o (v := 4) (q := 19) (by decide) dX5_above_18 rfl ?_
      refine g_icmp_ne o (tgt := 26) (q := 22) dX5_above_19 (by decide) rfl h (fun h => ?_) (fun h => ?_)
      · refine g_iload_n o (q := 27) 0 rfl rfl dX5_above_26 rfl ?_
        refine g_bipush o (v := 6) (q := 29) (by decide) dX5_above_27 rfl ?_
        refine g_icmp_ne o (tgt := 36) (q := 32) dX5_above_29 (by decide) rfl h (fun h => ?_) (fun h => ?_)
        · refine g_iconst o (v := 0) (q := 37) (by decide) dX5_above_36 rfl ?_
          exact g_iret o hr (h.trans (congrArg some hres)) rfl dX5_above_37
        · refine g_iconst o (v := 1) (q := 33) (by decide) dX5_above_32 rfl ?_
          refine g_goto o (tgt := 37) dX5_above_33 (by decide) ?_
          exact g_iret o hr (h.trans (congrArg some hres)) rfl dX5_above_37
      · refine g_iconst o (v := 3) (q := 23) (by decide) dX5_above_22 rfl ?_
        refine g_goto o (tgt := 37) dX5_above_23 (by decide) ?_
        exact g_iret o hr (h.trans (congrArg some hres)) rfl dX5_above_37
    · refine g_iconst o (v := 2) (q := 14) (by decide) dX5_above_13 rfl ?_
      refine g_goto o (tgt := 37) dX5_above_14 (by decide) ?_
      exact g_iret o hr (h.trans (congrArg some hres)) rfl dX5_above_37
  · refine g_iconst o (v := (-1)) (q := 5) (by decide) dX5_above_4 rfl ?_
    refine g_goto o (tgt := 37) dX5_above_5 (by decide) ?_
    exact g_iret o hr (h.trans (congrArg some hres)) rfl dX5_above_37
theorem c_X5_above {l : Launch} {E : En} {mk : Mem → Mem} (hmk : MK mk sdM) (x0 : Int32)  {σ : Mem} {r : Int32} {τ : Mem} (h : f_X5_above x0 σ = some (r, τ)) : Met l yX5_above (Cond.code yX5_above cX5_above 1 (some .int) :: wt) rm_X5_above (PW E mk [.int x0] σ) (QI E mk r τ) 0 0 (WA E) :=
  met_i (fun E => [.int x0]) (by decide) hmk (Nat.le_of_ble_eq_true rfl) (fun X o hr => w_X5_above rfl o hr x0  h)
set_option maxRecDepth 100000 in
set_option maxHeartbeats 4000000 in
theorem w_X5_isUnder_J19 {X : Cx} {l : Launch} {r : Int32} {σr : Mem} {res : Int32 × Mem} (hres : res = (r, σr)) (o : OK X cX5_isUnder RX5 sdM 3 rm_X5_isUnder l) (hr : RI X .boolean r σr)   {y2 : Int32}  {σ : Mem} (h : f_X5_isUnder_J19  y2 σ = some res) : G X σ 19 [(2, .int y2)] [] := by
  unfold f_X5_isUnder_J19 at h
  refine g_iload_n o (q := 20) 0 rfl rfl dX5_isUnder_19 rfl ?_
  refine g_if_lt o (tgt := 27) (q := 23) dX5_isUnder_20 (by decide) rfl h (fun h => ?_) (fun h => ?_)
  · refine g_iconst o (v := 0) (q := 28) (by decide) dX5_isUnder_27 rfl ?_
    exact g_iret o hr (h.trans (congrArg some hres)) (by decide) dX5_isUnder_28
  · refine g_iconst o (v := 1) (q := 24) (by decide) dX5_isUnder_23 rfl ?_
    refine g_goto o (tgt := 28) dX5_isUnder_24 (by decide) ?_
    exact g_iret o hr (h.trans (congrArg some hres)) (by decide) dX5_isUnder_28
set_option maxRecDepth 100000 in
set_option maxHeartbeats 4000000 in
theorem w_X5_isUnder_L2 {X : Cx} {l : Launch} {r : Int32} {σr : Mem} {res : Int32 × Mem} (hres : res = (r, σr)) (o : OK X cX5_isUnder RX5 sdM 3 rm_X5_isUnder l) (hr : RI X .boolean r σr)   : ∀ (n : Nat) (y1 : Int32) (y2 : Int32) (σ : Mem), f_X5_isUnder_L2  n y1 y2 σ = some res → G X σ 2 [(1, .int y1), (2, .int y2)] [] := by
  intro n
  induction n with
  | zero => intro y1 y2 σ  h; cases h
  | succ n ih =>
    intro y1 y2 σ  h
    rw [f_X5_isUnder_L2_s] at h
    refine g_iload_n o (q := 3) 1 rfl rfl dX5_isUnder_2 rfl ?_
    refine g_if_lt o (tgt := 19) (q := 6) dX5_isUnder_3 (by decide) rfl h (fun h => ?_) (fun h => ?_)
    · refine g_sub (lv' := [(2, .int y2)]) [1] rfl ?_
      exact w_X5_isUnder_J19 hres o hr   h
    · refine g_iload_n o (q := 7) 1 rfl rfl dX5_isUnder_6 rfl ?_
      refine g_iload_n o (q := 8) 0 rfl rfl dX5_isUnder_7 rfl ?_
      refine g_icmp_eq o (tgt := 19) (q := 11) dX5_isUnder_8 (by decide) rfl h (fun h => ?_) (fun h => ?_)
      · refine g_sub (lv' := [(2, .int y2)]) [1] rfl ?_
        exact w_X5_isUnder_J19 hres o hr   h
      · refine g_iload_n o (q := 12) 1 rfl rfl dX5_isUnder_11 rfl ?_
        refine g_csi o (q := 15) (As := [.int y2]) (rest := []) kv_X5_above lk_X5_318 rfl (fun _ _ hc => c_X5_above o.mk y2 hc) dX5_isUnder_12 rfl ⟨rfl, rfl, Nat.le_of_ble_eq_true rfl, Nat.le_of_ble_eq_true rfl⟩ (Nat.le_of_ble_eq_true rfl) rfl h (fun r23 σ22 h => ?_)
        refine g_istore_n o (q := 16) dX5_isUnder_15 rfl rfl (by decide) h (fun x24 => [(2, .int x24), (1, .int y1)]) (fun _ => rfl) (fun x24 h => ?_)
        refine g_goto o (tgt := 2) dX5_isUnder_16 (by decide) ?_
        refine g_sub (lv' := [(1, .int y1), (2, .int x24)]) [1, 0] rfl ?_
        exact ih y1 x24 σ22  h
set_option maxRecDepth 100000 in
set_option maxHeartbeats 4000000 in
theorem w_X5_isUnder {X : Cx} {l : Launch} {r : Int32} {σr : Mem} {res : Int32 × Mem} (hres : res = (r, σr)) (o : OK X cX5_isUnder RX5 sdM 3 rm_X5_isUnder l) (hr : RI X .boolean r σr) (x0 : Int32) (x1 : Int32)  {σ : Mem} (h : f_X5_isUnder x0 x1 σ = some res) : G X σ 0 [(0, .int x0), (1, .int x1)] [] := by
  unfold f_X5_isUnder at h
  refine g_iload_n o (q := 1) 0 rfl rfl dX5_isUnder_0 rfl ?_
  refine g_istore_n o (q := 2) dX5_isUnder_1 rfl rfl (by decide) h (fun x21 => [(2, .int x21), (0, .int x0), (1, .int x1)]) (fun _ => rfl) (fun x21 h => ?_)
  refine g_sub (lv' := [(1, .int x1), (2, .int x21)]) [2, 0] rfl ?_
  exact w_X5_isUnder_L2 hres o hr  FU x1 x21 σ  h
theorem c_X5_isUnder {l : Launch} {E : En} {mk : Mem → Mem} (hmk : MK mk sdM) (x0 : Int32) (x1 : Int32)  {σ : Mem} {r : Int32} {τ : Mem} (h : f_X5_isUnder x0 x1 σ = some (r, τ)) : Met l yX5_isUnder (Cond.code yX5_isUnder cX5_isUnder 3 (some .boolean) :: wt) rm_X5_isUnder (PW E mk [.int x0, .int x1] σ) (QI E mk r τ) 0 0 (WA E) :=
  met_i (fun E => [.int x0, .int x1]) (by decide) hmk (Nat.le_of_ble_eq_true rfl) (fun X o hr => w_X5_isUnder rfl o hr x0 x1  h)
set_option maxRecDepth 100000 in
set_option maxHeartbeats 4000000 in
theorem w_X5_as_J14 {X : Cx} {l : Launch} {r : Int32} {σr : Mem} {res : Int32 × Mem} (hres : res = (r, σr)) (o : OK X cX5_as RX5 sdM 4 rm_X5_as l) (hr : RI X .int r σr)     {σ : Mem} (h : f_X5_as_J14   σ = some res) : G X σ 14 [(0, .ref (eA (xE X) 50))] [] := by
  unfold f_X5_as_J14 at h
  refine g_aload_n o (q := 15) 0 rfl rfl dX5_as_14 rfl ?_
  refine g_ldc o (q := 17) lk_X5_60 dX5_as_15 rfl ?_
  refine g_cvi o (q := 20) (As := [.int (-1000001)]) (rest := []) kv_X5_finding lk_X5_66 kM_50 (by decide) rfl rfl rfl (fun _ _ hc => c_X5_finding o.mk (-1000001) hc) dX5_as_17 rfl ⟨rfl, rfl, Nat.le_of_ble_eq_true rfl, Nat.le_of_ble_eq_true rfl⟩ (Nat.le_of_ble_eq_true rfl) rfl h (fun r24 σ23 h => ?_)
  exact g_iret o hr (h.trans (congrArg some hres)) rfl dX5_as_20
set_option maxRecDepth 100000 in
set_option maxHeartbeats 4000000 in
theorem w_X5_as {X : Cx} {l : Launch} {r : Int32} {σr : Mem} {res : Int32 × Mem} (hres : res = (r, σr)) (o : OK X cX5_as RX5 sdM 4 rm_X5_as l) (hr : RI X .int r σr) (x1 : Int32) (x2 : Int32)  {σ : Mem} (h : f_X5_as x1 x2 σ = some res) : G X σ 0 [(0, .ref (eA (xE X) 50)), (1, .int x1), (2, .int x2)] [] := by
  unfold f_X5_as at h
  refine g_iload_n o (q := 1) 1 rfl rfl dX5_as_0 rfl ?_
  refine g_csi o (q := 4) (As := [.int x1]) (rest := []) kv_X5_isSpot lk_X5_307 rfl (fun _ _ hc => c_X5_isSpot o.mk x1 hc) dX5_as_1 rfl ⟨rfl, rfl, Nat.le_of_ble_eq_true rfl, Nat.le_of_ble_eq_true rfl⟩ (Nat.le_of_ble_eq_true rfl) rfl h (fun r22 σ21 h => ?_)
  refine g_if_eq o (tgt := 14) (q := 7) dX5_as_4 (by decide) rfl h (fun h => ?_) (fun h => ?_)
  · refine g_sub (lv' := [(0, .ref (eA (xE X) 50))]) [0] rfl ?_
    exact w_X5_as_J14 hres o hr   h
  · refine g_iload_n o (q := 8) 2 rfl rfl dX5_as_7 rfl ?_
    refine g_csi o (q := 11) (As := [.int x2]) (rest := []) kv_X5_isKind lk_X5_88 rfl (fun _ _ hc => c_X5_isKind o.mk x2 hc) dX5_as_8 rfl ⟨rfl, rfl, Nat.le_of_ble_eq_true rfl, Nat.le_of_ble_eq_true rfl⟩ (Nat.le_of_ble_eq_true rfl) rfl h (fun r26 σ25 h => ?_)
    refine g_if_ne o (tgt := 21) (q := 14) dX5_as_11 (by decide) rfl h (fun h => ?_) (fun h => ?_)
    · refine g_aload_n o (q := 22) 0 rfl rfl dX5_as_21 rfl ?_
      refine gf_X5_0 o (q := 25) kM_50 lk_X5_9 dX5_as_22 rfl ?_
      refine g_bipush o (v := 12) (q := 27) (by decide) dX5_as_25 rfl ?_
      refine g_iload_n o (q := 28) 1 rfl rfl dX5_as_27 rfl ?_
      refine g_iadd o (q := 29) dX5_as_28 rfl ?_
      refine g_iald o (q := 30) kM_51 dX5_as_29 rfl h (fun j27 hjj27 h => ?_)
      refine g_istore_n o (q := 31) dX5_as_30 rfl rfl (by decide) h (fun x28 => [(3, .int x28), (0, .ref (eA (xE X) 50)), (1, .int x1), (2, .int x2)]) (fun _ => rfl) (fun x28 h => ?_)
      refine g_iload_n o (q := 32) 0 rfl rfl dX5_as_31 rfl ?_
      refine g_if_ge o (tgt := 42) (q := 35) dX5_as_32 (by decide) rfl h (fun h => ?_) (fun h => ?_)
      · refine g_aload_n o (q := 43) 1 rfl rfl dX5_as_42 rfl ?_
        refine g_iload_n o (q := 44) 0 rfl rfl dX5_as_43 rfl ?_
        refine g_iconst o (v := 0) (q := 45) (by decide) dX5_as_44 rfl ?_
        refine g_cvi o (q := 48) (As := [.int x28, .int 0]) (rest := []) kv_X5_curtainIs lk_X5_98 kM_50 (by decide) rfl rfl rfl (fun _ _ hc => c_X5_curtainIs o.mk x28 0 hc) dX5_as_45 rfl ⟨rfl, rfl, Nat.le_of_ble_eq_true rfl, Nat.le_of_ble_eq_true rfl⟩ (Nat.le_of_ble_eq_true rfl) rfl h (fun r30 σ29 h => ?_)
        refine g_iload_n o (q := 49) 3 rfl rfl dX5_as_48 rfl ?_
        refine g_csi o (q := 52) (As := [.int r30, .int x2]) (rest := []) kv_X5_isUnder lk_X5_310 rfl (fun _ _ hc => c_X5_isUnder o.mk r30 x2 hc) dX5_as_49 rfl ⟨rfl, rfl, Nat.le_of_ble_eq_true rfl, Nat.le_of_ble_eq_true rfl⟩ (Nat.le_of_ble_eq_true rfl) rfl h (fun r32 σ31 h => ?_)
        refine g_if_eq o (tgt := 59) (q := 55) dX5_as_52 (by decide) rfl h (fun h => ?_) (fun h => ?_)
        · refine g_aload_n o (q := 60) 1 rfl rfl dX5_as_59 rfl ?_
          refine g_ldcw o (q := 63) lk_X5_313 dX5_as_60 rfl ?_
          refine g_cvi o (q := 66) (As := [.int (-1000003)]) (rest := []) kv_X5_finding lk_X5_66 kM_50 (by decide) rfl rfl rfl (fun _ _ hc => c_X5_finding o.mk (-1000003) hc) dX5_as_63 rfl ⟨rfl, rfl, Nat.le_of_ble_eq_true rfl, Nat.le_of_ble_eq_true rfl⟩ (Nat.le_of_ble_eq_true rfl) rfl h (fun r34 σ33 h => ?_)
          exact g_iret o hr (h.trans (congrArg some hres)) rfl dX5_as_66
        · refine g_iload_n o (q := 56) 0 rfl rfl dX5_as_55 rfl ?_
          refine g_goto o (tgt := 66) dX5_as_56 (by decide) ?_
          exact g_iret o hr (h.trans (congrArg some hres)) rfl dX5_as_66
      · refine g_aload_n o (q := 36) 1 rfl rfl dX5_as_35 rfl ?_
        refine g_ldc o (q := 38) lk_X5_211 dX5_as_36 rfl ?_
        refine g_cvi o (q := 41) (As := [.int (-1000006)]) (rest := []) kv_X5_finding lk_X5_66 kM_50 (by decide) rfl rfl rfl (fun _ _ hc => c_X5_finding o.mk (-1000006) hc) dX5_as_38 rfl ⟨rfl, rfl, Nat.le_of_ble_eq_true rfl, Nat.le_of_ble_eq_true rfl⟩ (Nat.le_of_ble_eq_true rfl) rfl h (fun r36 σ35 h => ?_)
        exact g_iret o hr (h.trans (congrArg some hres)) rfl dX5_as_41
    · refine g_sub (lv' := [(0, .ref (eA (xE X) 50))]) [0] rfl ?_
      exact w_X5_as_J14 hres o hr   h
theorem c_X5_as {l : Launch} {E : En} {mk : Mem → Mem} (hmk : MK mk sdM) (x1 : Int32) (x2 : Int32)  {σ : Mem} {r : Int32} {τ : Mem} (h : f_X5_as x1 x2 σ = some (r, τ)) : Met l yX5_as (Cond.code yX5_as cX5_as 4 (some .int) :: wt) rm_X5_as (PW E mk [.ref (eA E 50), .int x1, .int x2] σ) (QI E mk r τ) 0 0 (WA E) :=
  met_i (fun E => [.ref (eA E 50), .int x1, .int x2]) (by decide) hmk (Nat.le_of_ble_eq_true rfl) (fun X o hr => w_X5_as rfl o hr x1 x2  h)
set_option maxRecDepth 100000 in
set_option maxHeartbeats 4000000 in
theorem w_X5_cutTo {X : Cx} {l : Launch} {r : Int32} {σr : Mem} {res : Int32 × Mem} (hres : res = (r, σr)) (o : OK X cX5_cutTo RX5 sdM 2 rm_X5_cutTo l) (hr : RI X .int r σr) (x0 : Int32) (x1 : Int32)  {σ : Mem} (h : f_X5_cutTo x0 x1 σ = some res) : G X σ 0 [(0, .int x0), (1, .int x1)] [] := by
  unfold f_X5_cutTo at h
  refine g_iload_n o (q := 1) 1 rfl rfl dX5_cutTo_0 rfl ?_
  refine g_bipush o (v := 8) (q := 3) (by decide) dX5_cutTo_1 rfl ?_
  refine g_icmp_ne o (tgt := 11) (q := 6) dX5_cutTo_3 (by decide) rfl h (fun h => ?_) (fun h => ?_)
  · refine g_iload_n o (q := 12) 1 rfl rfl dX5_cutTo_11 rfl ?_
    refine g_bipush o (v := 16) (q := 14) (by decide) dX5_cutTo_12 rfl ?_
    refine g_icmp_ne o (tgt := 22) (q := 17) dX5_cutTo_14 (by decide) rfl h (fun h => ?_) (fun h => ?_)
    · refine g_iload_n o (q := 23) 0 rfl rfl dX5_cutTo_22 rfl ?_
      exact g_iret o hr (h.trans (congrArg some hres)) rfl dX5_cutTo_23
    · refine g_iload_n o (q := 18) 0 rfl rfl dX5_cutTo_17 rfl ?_
      refine g_i2s o (q := 19) dX5_cutTo_18 rfl ?_
      refine g_goto o (tgt := 23) dX5_cutTo_19 (by decide) ?_
      exact g_iret o hr (h.trans (congrArg some hres)) rfl dX5_cutTo_23
  · refine g_iload_n o (q := 7) 0 rfl rfl dX5_cutTo_6 rfl ?_
    refine g_i2b o (q := 8) dX5_cutTo_7 rfl ?_
    refine g_goto o (tgt := 23) dX5_cutTo_8 (by decide) ?_
    exact g_iret o hr (h.trans (congrArg some hres)) rfl dX5_cutTo_23
theorem c_X5_cutTo {l : Launch} {E : En} {mk : Mem → Mem} (hmk : MK mk sdM) (x0 : Int32) (x1 : Int32)  {σ : Mem} {r : Int32} {τ : Mem} (h : f_X5_cutTo x0 x1 σ = some (r, τ)) : Met l yX5_cutTo (Cond.code yX5_cutTo cX5_cutTo 2 (some .int) :: wt) rm_X5_cutTo (PW E mk [.int x0, .int x1] σ) (QI E mk r τ) 0 0 (WA E) :=
  met_i (fun E => [.int x0, .int x1]) (by decide) hmk (Nat.le_of_ble_eq_true rfl) (fun X o hr => w_X5_cutTo rfl o hr x0 x1  h)
set_option maxRecDepth 100000 in
set_option maxHeartbeats 4000000 in
theorem w_X5_sheet_J29 {X : Cx} {l : Launch} {r : Int32} {σr : Mem} {res : Int32 × Mem} (hres : res = (r, σr)) (o : OK X cX5_sheet RX5 sdM 5 rm_X5_sheet l) (hr : RI X .int r σr)     {σ : Mem} (h : f_X5_sheet_J29   σ = some res) : G X σ 29 [(0, .ref (eA (xE X) 50))] [] := by
  unfold f_X5_sheet_J29 at h
  refine g_aload_n o (q := 30) 0 rfl rfl dX5_sheet_29 rfl ?_
  refine g_ldc o (q := 32) lk_X5_60 dX5_sheet_30 rfl ?_
  refine g_cvi o (q := 35) (As := [.int (-1000001)]) (rest := []) kv_X5_finding lk_X5_66 kM_50 (by decide) rfl rfl rfl (fun _ _ hc => c_X5_finding o.mk (-1000001) hc) dX5_sheet_32 rfl ⟨rfl, rfl, Nat.le_of_ble_eq_true rfl, Nat.le_of_ble_eq_true rfl⟩ (Nat.le_of_ble_eq_true rfl) rfl h (fun r24 σ23 h => ?_)
  exact g_iret o hr (h.trans (congrArg some hres)) rfl dX5_sheet_35
set_option maxRecDepth 100000 in
set_option maxHeartbeats 4000000 in
theorem w_X5_sheet_L86 {X : Cx} {l : Launch} {r : Int32} {σr : Mem} {res : Int32 × Mem} (hres : res = (r, σr)) (o : OK X cX5_sheet RX5 sdM 5 rm_X5_sheet l) (hr : RI X .int r σr)   : ∀ (n : Nat) (y1 : Int32) (y4 : Int32) (σ : Mem), f_X5_sheet_L86  n y1 y4 σ = some res → G X σ 86 [(0, .ref (eA (xE X) 50)), (1, .int y1), (4, .int y4)] [] := by
  intro n
  induction n with
  | zero => intro y1 y4 σ  h; cases h
  | succ n ih =>
    intro y1 y4 σ  h
    rw [f_X5_sheet_L86_s] at h
    refine g_iload o (q := 88) 2 rfl dX5_sheet_86 rfl ?_
    refine g_bipush o (v := 40) (q := 90) (by decide) dX5_sheet_88 rfl ?_
    refine g_icmp_ge o (tgt := 112) (q := 93) dX5_sheet_90 (by decide) rfl h (fun h => ?_) (fun h => ?_)
    · refine g_aload_n o (q := 113) 0 rfl rfl dX5_sheet_112 rfl ?_
      refine gf_X5_17 o (q := 116) kM_50 lk_X5_51 dX5_sheet_113 rfl ?_
      refine g_iload_n o (q := 117) 1 rfl rfl dX5_sheet_116 rfl ?_
      refine g_iald o (q := 118) kM_59 dX5_sheet_117 rfl h (fun j30 hjj30 h => ?_)
      exact g_iret o hr (h.trans (congrArg some hres)) rfl dX5_sheet_118
    · refine g_aload_n o (q := 94) 0 rfl rfl dX5_sheet_93 rfl ?_
      refine gf_X5_18 o (q := 97) kM_50 lk_X5_54 dX5_sheet_94 rfl ?_
      refine g_bipush o (v := 40) (q := 99) (by decide) dX5_sheet_97 rfl ?_
      refine g_iload_n o (q := 100) 1 rfl rfl dX5_sheet_99 rfl ?_
      refine g_imul o (q := 101) dX5_sheet_100 rfl ?_
      refine g_iload o (q := 103) 2 rfl dX5_sheet_101 rfl ?_
      refine g_iadd o (q := 104) dX5_sheet_103 rfl ?_
      refine g_iconst o (v := 0) (q := 105) (by decide) dX5_sheet_104 rfl ?_
      refine g_iast o (q := 106) kM_60 dX5_sheet_105 rfl h (fun j31 σ32 h => ?_)
      refine g_iinc o (q := 109) (dn := 1) dX5_sheet_106 rfl 2 rfl (by decide) (by decide) h (fun x33 => [(4, .int x33), (0, .ref (eA (xE X) 50)), (1, .int y1)]) (fun _ => rfl) (fun x33 h => ?_)
      refine g_goto o (tgt := 86) dX5_sheet_109 (by decide) ?_
      refine g_sub (lv' := [(0, .ref (eA (xE X) 50)), (1, .int y1), (4, .int x33)]) [1, 2, 0] rfl ?_
      exact ih y1 x33 σ32  h
set_option maxRecDepth 100000 in
set_option maxHeartbeats 4000000 in
theorem w_X5_sheet_J82 {X : Cx} {l : Launch} {r : Int32} {σr : Mem} {res : Int32 × Mem} (hres : res = (r, σr)) (o : OK X cX5_sheet RX5 sdM 5 rm_X5_sheet l) (hr : RI X .int r σr)   {y1 : Int32} {s1 : Int32} {s2 : Int32}  {σ : Mem} (h : f_X5_sheet_J82  y1 s1 s2 σ = some res) : G X σ 82 [(0, .ref (eA (xE X) 50)), (1, .int y1)] [.int s2, .int s1, .ref (eA (xE X) 59)] := by
  unfold f_X5_sheet_J82 at h
  refine g_iast o (q := 83) kM_59 dX5_sheet_82 rfl h (fun j27 σ28 h => ?_)
  refine g_iconst o (v := 0) (q := 84) (by decide) dX5_sheet_83 rfl ?_
  refine g_istore o (q := 86) dX5_sheet_84 rfl (by decide) h (fun x29 => [(4, .int x29), (0, .ref (eA (xE X) 50)), (1, .int y1)]) (fun _ => rfl) (fun x29 h => ?_)
  refine g_sub (lv' := [(0, .ref (eA (xE X) 50)), (1, .int y1), (4, .int x29)]) [1, 2, 0] rfl ?_
  exact w_X5_sheet_L86 hres o hr  FU y1 x29 σ28  h
set_option maxRecDepth 100000 in
set_option maxHeartbeats 4000000 in
theorem w_X5_sheet_J36 {X : Cx} {l : Launch} {r : Int32} {σr : Mem} {res : Int32 × Mem} (hres : res = (r, σr)) (o : OK X cX5_sheet RX5 sdM 5 rm_X5_sheet l) (hr : RI X .int r σr)   {y1 : Int32} {y2 : Int32} {y3 : Int32}  {σ : Mem} (h : f_X5_sheet_J36  y1 y2 y3 σ = some res) : G X σ 36 [(0, .ref (eA (xE X) 50)), (1, .int y1), (2, .int y2), (3, .int y3)] [] := by
  unfold f_X5_sheet_J36 at h
  refine g_iload_n o (q := 37) 3 rfl rfl dX5_sheet_36 rfl ?_
  refine g_if_ge o (tgt := 48) (q := 40) dX5_sheet_37 (by decide) rfl h (fun h => ?_) (fun h => ?_)
  · refine g_iload_n o (q := 49) 3 rfl rfl dX5_sheet_48 rfl ?_
    refine g_bipush o (v := 40) (q := 51) (by decide) dX5_sheet_49 rfl ?_
    refine g_icmp_le o (tgt := 61) (q := 54) dX5_sheet_51 (by decide) rfl h (fun h => ?_) (fun h => ?_)
    · refine g_aload_n o (q := 62) 0 rfl rfl dX5_sheet_61 rfl ?_
      refine gf_X5_16 o (q := 65) kM_50 lk_X5_48 dX5_sheet_62 rfl ?_
      refine g_iload_n o (q := 66) 1 rfl rfl dX5_sheet_65 rfl ?_
      refine g_iload_n o (q := 67) 2 rfl rfl dX5_sheet_66 rfl ?_
      refine g_iast o (q := 68) kM_58 dX5_sheet_67 rfl h (fun j25 σ26 h => ?_)
      refine g_aload_n o (q := 69) 0 rfl rfl dX5_sheet_68 rfl ?_
      refine gf_X5_17 o (q := 72) kM_50 lk_X5_51 dX5_sheet_69 rfl ?_
      refine g_iload_n o (q := 73) 1 rfl rfl dX5_sheet_72 rfl ?_
      refine g_iload_n o (q := 74) 2 rfl rfl dX5_sheet_73 rfl ?_
      refine g_if_ne o (tgt := 81) (q := 77) dX5_sheet_74 (by decide) rfl h (fun h => ?_) (fun h => ?_)
      · refine g_iload_n o (q := 82) 3 rfl rfl dX5_sheet_81 rfl ?_
        refine g_sub (lv' := [(0, .ref (eA (xE X) 50)), (1, .int y1)]) [0, 1] rfl ?_
        exact w_X5_sheet_J82 hres o hr   h
      · refine g_iconst o (v := 0) (q := 78) (by decide) dX5_sheet_77 rfl ?_
        refine g_goto o (tgt := 82) dX5_sheet_78 (by decide) ?_
        refine g_sub (lv' := [(0, .ref (eA (xE X) 50)), (1, .int y1)]) [0, 1] rfl ?_
        exact w_X5_sheet_J82 hres o hr   h
    · refine g_aload_n o (q := 55) 0 rfl rfl dX5_sheet_54 rfl ?_
      refine g_ldc o (q := 57) lk_X5_60 dX5_sheet_55 rfl ?_
      refine g_cvi o (q := 60) (As := [.int (-1000001)]) (rest := []) kv_X5_finding lk_X5_66 kM_50 (by decide) rfl rfl rfl (fun _ _ hc => c_X5_finding o.mk (-1000001) hc) dX5_sheet_57 rfl ⟨rfl, rfl, Nat.le_of_ble_eq_true rfl, Nat.le_of_ble_eq_true rfl⟩ (Nat.le_of_ble_eq_true rfl) rfl h (fun r35 σ34 h => ?_)
      exact g_iret o hr (h.trans (congrArg some hres)) rfl dX5_sheet_60
  · refine g_aload_n o (q := 41) 0 rfl rfl dX5_sheet_40 rfl ?_
    refine g_ldcw o (q := 44) lk_X5_314 dX5_sheet_41 rfl ?_
    refine g_cvi o (q := 47) (As := [.int (-1000007)]) (rest := []) kv_X5_finding lk_X5_66 kM_50 (by decide) rfl rfl rfl (fun _ _ hc => c_X5_finding o.mk (-1000007) hc) dX5_sheet_44 rfl ⟨rfl, rfl, Nat.le_of_ble_eq_true rfl, Nat.le_of_ble_eq_true rfl⟩ (Nat.le_of_ble_eq_true rfl) rfl h (fun r37 σ36 h => ?_)
    exact g_iret o hr (h.trans (congrArg some hres)) rfl dX5_sheet_47
set_option maxRecDepth 100000 in
set_option maxHeartbeats 4000000 in
theorem w_X5_sheet {X : Cx} {l : Launch} {r : Int32} {σr : Mem} {res : Int32 × Mem} (hres : res = (r, σr)) (o : OK X cX5_sheet RX5 sdM 5 rm_X5_sheet l) (hr : RI X .int r σr) (x1 : Int32) (x2 : Int32) (x3 : Int32)  {σ : Mem} (h : f_X5_sheet x1 x2 x3 σ = some res) : G X σ 0 [(0, .ref (eA (xE X) 50)), (1, .int x1), (2, .int x2), (3, .int x3)] [] := by
  unfold f_X5_sheet at h
  refine g_iload_n o (q := 1) 1 rfl rfl dX5_sheet_0 rfl ?_
  refine g_csi o (q := 4) (As := [.int x1]) (rest := []) kv_X5_isSheet lk_X5_208 rfl (fun _ _ hc => c_X5_isSheet o.mk x1 hc) dX5_sheet_1 rfl ⟨rfl, rfl, Nat.le_of_ble_eq_true rfl, Nat.le_of_ble_eq_true rfl⟩ (Nat.le_of_ble_eq_true rfl) rfl h (fun r22 σ21 h => ?_)
  refine g_if_eq o (tgt := 29) (q := 7) dX5_sheet_4 (by decide) rfl h (fun h => ?_) (fun h => ?_)
  · refine g_sub (lv' := [(0, .ref (eA (xE X) 50))]) [0] rfl ?_
    exact w_X5_sheet_J29 hres o hr   h
  · refine g_iload_n o (q := 8) 2 rfl rfl dX5_sheet_7 rfl ?_
    refine g_if_eq o (tgt := 36) (q := 11) dX5_sheet_8 (by decide) rfl h (fun h => ?_) (fun h => ?_)
    · exact w_X5_sheet_J36 hres o hr   h
    · refine g_iload_n o (q := 12) 2 rfl rfl dX5_sheet_11 rfl ?_
      refine g_bipush o (v := 8) (q := 14) (by decide) dX5_sheet_12 rfl ?_
      refine g_icmp_eq o (tgt := 36) (q := 17) dX5_sheet_14 (by decide) rfl h (fun h => ?_) (fun h => ?_)
      · exact w_X5_sheet_J36 hres o hr   h
      · refine g_iload_n o (q := 18) 2 rfl rfl dX5_sheet_17 rfl ?_
        refine g_bipush o (v := 16) (q := 20) (by decide) dX5_sheet_18 rfl ?_
        refine g_icmp_eq o (tgt := 36) (q := 23) dX5_sheet_20 (by decide) rfl h (fun h => ?_) (fun h => ?_)
        · exact w_X5_sheet_J36 hres o hr   h
        · refine g_iload_n o (q := 24) 2 rfl rfl dX5_sheet_23 rfl ?_
          refine g_bipush o (v := 32) (q := 26) (by decide) dX5_sheet_24 rfl ?_
          refine g_icmp_eq o (tgt := 36) (q := 29) dX5_sheet_26 (by decide) rfl h (fun h => ?_) (fun h => ?_)
          · exact w_X5_sheet_J36 hres o hr   h
          · refine g_sub (lv' := [(0, .ref (eA (xE X) 50))]) [0] rfl ?_
            exact w_X5_sheet_J29 hres o hr   h
theorem c_X5_sheet {l : Launch} {E : En} {mk : Mem → Mem} (hmk : MK mk sdM) (x1 : Int32) (x2 : Int32) (x3 : Int32)  {σ : Mem} {r : Int32} {τ : Mem} (h : f_X5_sheet x1 x2 x3 σ = some (r, τ)) : Met l yX5_sheet (Cond.code yX5_sheet cX5_sheet 5 (some .int) :: wt) rm_X5_sheet (PW E mk [.ref (eA E 50), .int x1, .int x2, .int x3] σ) (QI E mk r τ) 0 0 (WA E) :=
  met_i (fun E => [.ref (eA E 50), .int x1, .int x2, .int x3]) (by decide) hmk (Nat.le_of_ble_eq_true rfl) (fun X o hr => w_X5_sheet rfl o hr x1 x2 x3  h)
set_option maxRecDepth 100000 in
set_option maxHeartbeats 4000000 in
theorem w_X5_write {X : Cx} {l : Launch} {r : Int32} {σr : Mem} {res : Int32 × Mem} (hres : res = (r, σr)) (o : OK X cX5_write RX5 sdM 4 rm_X5_write l) (hr : RI X .int r σr) (x1 : Int32) (x2 : Int32) (x3 : Int32)  {σ : Mem} (h : f_X5_write x1 x2 x3 σ = some res) : G X σ 0 [(0, .ref (eA (xE X) 50)), (1, .int x1), (2, .int x2), (3, .int x3)] [] := by
  unfold f_X5_write at h
  refine g_iload_n o (q := 1) 1 rfl rfl dX5_write_0 rfl ?_
  refine g_csi o (q := 4) (As := [.int x1]) (rest := []) kv_X5_isSheet lk_X5_208 rfl (fun _ _ hc => c_X5_isSheet o.mk x1 hc) dX5_write_1 rfl ⟨rfl, rfl, Nat.le_of_ble_eq_true rfl, Nat.le_of_ble_eq_true rfl⟩ (Nat.le_of_ble_eq_true rfl) rfl h (fun r22 σ21 h => ?_)
  refine g_if_ne o (tgt := 14) (q := 7) dX5_write_4 (by decide) rfl h (fun h => ?_) (fun h => ?_)
  · refine g_aload_n o (q := 15) 0 rfl rfl dX5_write_14 rfl ?_
    refine gf_X5_16 o (q := 18) kM_50 lk_X5_48 dX5_write_15 rfl ?_
    refine g_iload_n o (q := 19) 1 rfl rfl dX5_write_18 rfl ?_
    refine g_iald o (q := 20) kM_58 dX5_write_19 rfl h (fun j23 hjj23 h => ?_)
    refine g_if_ne o (tgt := 30) (q := 23) dX5_write_20 (by decide) rfl h (fun h => ?_) (fun h => ?_)
    · refine g_iload_n o (q := 31) 2 rfl rfl dX5_write_30 rfl ?_
      refine g_iconst o (v := 0) (q := 32) (by decide) dX5_write_31 rfl ?_
      refine g_aload_n o (q := 33) 0 rfl rfl dX5_write_32 rfl ?_
      refine gf_X5_17 o (q := 36) kM_50 lk_X5_51 dX5_write_33 rfl ?_
      refine g_iload_n o (q := 37) 1 rfl rfl dX5_write_36 rfl ?_
      refine g_iald o (q := 38) kM_59 dX5_write_37 rfl h (fun j24 hjj24 h => ?_)
      refine g_iconst o (v := 1) (q := 39) (by decide) dX5_write_38 rfl ?_
      refine g_isub o (q := 40) dX5_write_39 rfl ?_
      refine g_csi o (q := 43) (As := [.int x2, .int 0, .int ((σ21 59 j24) - 1)]) (rest := []) kv_X5_within lk_X5_70 rfl (fun _ _ hc => c_X5_within o.mk x2 0 ((σ21 59 j24) - 1) hc) dX5_write_40 rfl ⟨rfl, rfl, Nat.le_of_ble_eq_true rfl, Nat.le_of_ble_eq_true rfl⟩ (Nat.le_of_ble_eq_true rfl) rfl h (fun r26 σ25 h => ?_)
      refine g_if_ne o (tgt := 53) (q := 46) dX5_write_43 (by decide) rfl h (fun h => ?_) (fun h => ?_)
      · refine g_aload_n o (q := 54) 0 rfl rfl dX5_write_53 rfl ?_
        refine gf_X5_18 o (q := 57) kM_50 lk_X5_54 dX5_write_54 rfl ?_
        refine g_bipush o (v := 40) (q := 59) (by decide) dX5_write_57 rfl ?_
        refine g_iload_n o (q := 60) 1 rfl rfl dX5_write_59 rfl ?_
        refine g_imul o (q := 61) dX5_write_60 rfl ?_
        refine g_iload_n o (q := 62) 2 rfl rfl dX5_write_61 rfl ?_
        refine g_iadd o (q := 63) dX5_write_62 rfl ?_
        refine g_iload_n o (q := 64) 3 rfl rfl dX5_write_63 rfl ?_
        refine g_aload_n o (q := 65) 0 rfl rfl dX5_write_64 rfl ?_
        refine gf_X5_16 o (q := 68) kM_50 lk_X5_48 dX5_write_65 rfl ?_
        refine g_iload_n o (q := 69) 1 rfl rfl dX5_write_68 rfl ?_
        refine g_iald o (q := 70) kM_58 dX5_write_69 rfl h (fun j27 hjj27 h => ?_)
        refine g_csi o (q := 73) (As := [.int x3, .int (σ25 58 j27)]) (rest := [.int ((40 * x1) + x2), .ref (eA (xE X) 60)]) kv_X5_cutTo lk_X5_315 rfl (fun _ _ hc => c_X5_cutTo o.mk x3 (σ25 58 j27) hc) dX5_write_70 rfl ⟨rfl, rfl, Nat.le_of_ble_eq_true rfl, Nat.le_of_ble_eq_true rfl⟩ (Nat.le_of_ble_eq_true rfl) rfl h (fun r29 σ28 h => ?_)
        refine g_iast o (q := 74) kM_60 dX5_write_73 rfl h (fun j30 σ31 h => ?_)
        refine g_iconst o (v := 1) (q := 75) (by decide) dX5_write_74 rfl ?_
        exact g_iret o hr (h.trans (congrArg some hres)) rfl dX5_write_75
      · refine g_aload_n o (q := 47) 0 rfl rfl dX5_write_46 rfl ?_
        refine g_ldc o (q := 49) lk_X5_60 dX5_write_47 rfl ?_
        refine g_cvi o (q := 52) (As := [.int (-1000001)]) (rest := []) kv_X5_finding lk_X5_66 kM_50 (by decide) rfl rfl rfl (fun _ _ hc => c_X5_finding o.mk (-1000001) hc) dX5_write_49 rfl ⟨rfl, rfl, Nat.le_of_ble_eq_true rfl, Nat.le_of_ble_eq_true rfl⟩ (Nat.le_of_ble_eq_true rfl) rfl h (fun r33 σ32 h => ?_)
        exact g_iret o hr (h.trans (congrArg some hres)) rfl dX5_write_52
    · refine g_aload_n o (q := 24) 0 rfl rfl dX5_write_23 rfl ?_
      refine g_ldc o (q := 26) lk_X5_211 dX5_write_24 rfl ?_
      refine g_cvi o (q := 29) (As := [.int (-1000006)]) (rest := []) kv_X5_finding lk_X5_66 kM_50 (by decide) rfl rfl rfl (fun _ _ hc => c_X5_finding o.mk (-1000006) hc) dX5_write_26 rfl ⟨rfl, rfl, Nat.le_of_ble_eq_true rfl, Nat.le_of_ble_eq_true rfl⟩ (Nat.le_of_ble_eq_true rfl) rfl h (fun r35 σ34 h => ?_)
      exact g_iret o hr (h.trans (congrArg some hres)) rfl dX5_write_29
  · refine g_aload_n o (q := 8) 0 rfl rfl dX5_write_7 rfl ?_
    refine g_ldc o (q := 10) lk_X5_60 dX5_write_8 rfl ?_
    refine g_cvi o (q := 13) (As := [.int (-1000001)]) (rest := []) kv_X5_finding lk_X5_66 kM_50 (by decide) rfl rfl rfl (fun _ _ hc => c_X5_finding o.mk (-1000001) hc) dX5_write_10 rfl ⟨rfl, rfl, Nat.le_of_ble_eq_true rfl, Nat.le_of_ble_eq_true rfl⟩ (Nat.le_of_ble_eq_true rfl) rfl h (fun r37 σ36 h => ?_)
    exact g_iret o hr (h.trans (congrArg some hres)) rfl dX5_write_13
theorem c_X5_write {l : Launch} {E : En} {mk : Mem → Mem} (hmk : MK mk sdM) (x1 : Int32) (x2 : Int32) (x3 : Int32)  {σ : Mem} {r : Int32} {τ : Mem} (h : f_X5_write x1 x2 x3 σ = some (r, τ)) : Met l yX5_write (Cond.code yX5_write cX5_write 4 (some .int) :: wt) rm_X5_write (PW E mk [.ref (eA E 50), .int x1, .int x2, .int x3] σ) (QI E mk r τ) 0 0 (WA E) :=
  met_i (fun E => [.ref (eA E 50), .int x1, .int x2, .int x3]) (by decide) hmk (Nat.le_of_ble_eq_true rfl) (fun X o hr => w_X5_write rfl o hr x1 x2 x3  h)
set_option maxRecDepth 100000 in
set_option maxHeartbeats 4000000 in
theorem w_X5_copy_J14 {X : Cx} {l : Launch} {r : Int32} {σr : Mem} {res : Int32 × Mem} (hres : res = (r, σr)) (o : OK X cX5_copy RX5 sdM 7 rm_X5_copy l) (hr : RI X .int r σr)     {σ : Mem} (h : f_X5_copy_J14   σ = some res) : G X σ 14 [(0, .ref (eA (xE X) 50))] [] := by
  unfold f_X5_copy_J14 at h
  refine g_aload_n o (q := 15) 0 rfl rfl dX5_copy_14 rfl ?_
  refine g_ldc o (q := 17) lk_X5_60 dX5_copy_15 rfl ?_
  refine g_cvi o (q := 20) (As := [.int (-1000001)]) (rest := []) kv_X5_finding lk_X5_66 kM_50 (by decide) rfl rfl rfl (fun _ _ hc => c_X5_finding o.mk (-1000001) hc) dX5_copy_17 rfl ⟨rfl, rfl, Nat.le_of_ble_eq_true rfl, Nat.le_of_ble_eq_true rfl⟩ (Nat.le_of_ble_eq_true rfl) rfl h (fun r24 σ23 h => ?_)
  exact g_iret o hr (h.trans (congrArg some hres)) rfl dX5_copy_20
set_option maxRecDepth 100000 in
set_option maxHeartbeats 4000000 in
theorem w_X5_copy_J39 {X : Cx} {l : Launch} {r : Int32} {σr : Mem} {res : Int32 × Mem} (hres : res = (r, σr)) (o : OK X cX5_copy RX5 sdM 7 rm_X5_copy l) (hr : RI X .int r σr)     {σ : Mem} (h : f_X5_copy_J39   σ = some res) : G X σ 39 [(0, .ref (eA (xE X) 50))] [] := by
  unfold f_X5_copy_J39 at h
  refine g_aload_n o (q := 40) 0 rfl rfl dX5_copy_39 rfl ?_
  refine g_ldc o (q := 42) lk_X5_211 dX5_copy_40 rfl ?_
  refine g_cvi o (q := 45) (As := [.int (-1000006)]) (rest := []) kv_X5_finding lk_X5_66 kM_50 (by decide) rfl rfl rfl (fun _ _ hc => c_X5_finding o.mk (-1000006) hc) dX5_copy_42 rfl ⟨rfl, rfl, Nat.le_of_ble_eq_true rfl, Nat.le_of_ble_eq_true rfl⟩ (Nat.le_of_ble_eq_true rfl) rfl h (fun r29 σ28 h => ?_)
  exact g_iret o hr (h.trans (congrArg some hres)) rfl dX5_copy_45
set_option maxRecDepth 100000 in
set_option maxHeartbeats 4000000 in
theorem w_X5_copy_J118 {X : Cx} {l : Launch} {r : Int32} {σr : Mem} {res : Int32 × Mem} (hres : res = (r, σr)) (o : OK X cX5_copy RX5 sdM 7 rm_X5_copy l) (hr : RI X .int r σr)     {σ : Mem} (h : f_X5_copy_J118   σ = some res) : G X σ 118 [(0, .ref (eA (xE X) 50))] [] := by
  unfold f_X5_copy_J118 at h
  refine g_aload_n o (q := 119) 0 rfl rfl dX5_copy_118 rfl ?_
  refine g_ldc o (q := 121) lk_X5_60 dX5_copy_119 rfl ?_
  refine g_cvi o (q := 124) (As := [.int (-1000001)]) (rest := []) kv_X5_finding lk_X5_66 kM_50 (by decide) rfl rfl rfl (fun _ _ hc => c_X5_finding o.mk (-1000001) hc) dX5_copy_121 rfl ⟨rfl, rfl, Nat.le_of_ble_eq_true rfl, Nat.le_of_ble_eq_true rfl⟩ (Nat.le_of_ble_eq_true rfl) rfl h (fun r34 σ33 h => ?_)
  exact g_iret o hr (h.trans (congrArg some hres)) rfl dX5_copy_124
set_option maxRecDepth 100000 in
set_option maxHeartbeats 4000000 in
theorem w_X5_copy_L165 {X : Cx} {l : Launch} {r : Int32} {σr : Mem} {res : Int32 × Mem} (hres : res = (r, σr)) (o : OK X cX5_copy RX5 sdM 7 rm_X5_copy l) (hr : RI X .int r σr)   : ∀ (n : Nat) (y3 : Int32) (y4 : Int32) (y5 : Int32) (y6 : Int32) (σ : Mem), f_X5_copy_L165  n y3 y4 y5 y6 σ = some res → G X σ 165 [(0, .ref (eA (xE X) 50)), (3, .int y3), (4, .int y4), (5, .int y5), (6, .int y6)] [] := by
  intro n
  induction n with
  | zero => intro y3 y4 y5 y6 σ  h; cases h
  | succ n ih =>
    intro y3 y4 y5 y6 σ  h
    rw [f_X5_copy_L165_s] at h
    refine g_iload o (q := 167) 4 rfl dX5_copy_165 rfl ?_
    refine g_iload o (q := 169) 3 rfl dX5_copy_167 rfl ?_
    refine g_icmp_ge o (tgt := 200) (q := 172) dX5_copy_169 (by decide) rfl h (fun h => ?_) (fun h => ?_)
    · refine g_iload o (q := 202) 3 rfl dX5_copy_200 rfl ?_
      exact g_iret o hr (h.trans (congrArg some hres)) rfl dX5_copy_202
    · refine g_aload_n o (q := 173) 0 rfl rfl dX5_copy_172 rfl ?_
      refine gf_X5_18 o (q := 176) kM_50 lk_X5_54 dX5_copy_173 rfl ?_
      refine g_bipush o (v := 40) (q := 178) (by decide) dX5_copy_176 rfl ?_
      refine g_iload_n o (q := 179) 1 rfl rfl dX5_copy_178 rfl ?_
      refine g_imul o (q := 180) dX5_copy_179 rfl ?_
      refine g_iload o (q := 182) 2 rfl dX5_copy_180 rfl ?_
      refine g_iadd o (q := 183) dX5_copy_182 rfl ?_
      refine g_iload o (q := 185) 4 rfl dX5_copy_183 rfl ?_
      refine g_iadd o (q := 186) dX5_copy_185 rfl ?_
      refine g_aload_n o (q := 187) 0 rfl rfl dX5_copy_186 rfl ?_
      refine gf_X5_19 o (q := 190) kM_50 lk_X5_57 dX5_copy_187 rfl ?_
      refine g_iload o (q := 192) 4 rfl dX5_copy_190 rfl ?_
      refine g_iald o (q := 193) kM_61 dX5_copy_192 rfl h (fun j39 hjj39 h => ?_)
      refine g_iast o (q := 194) kM_60 dX5_copy_193 rfl h (fun j40 σ41 h => ?_)
      refine g_iinc o (q := 197) (dn := 1) dX5_copy_194 rfl 4 rfl (by decide) (by decide) h (fun x42 => [(6, .int x42), (0, .ref (eA (xE X) 50)), (3, .int y3), (4, .int y4), (5, .int y5)]) (fun _ => rfl) (fun x42 h => ?_)
      refine g_goto o (tgt := 165) dX5_copy_197 (by decide) ?_
      refine g_sub (lv' := [(0, .ref (eA (xE X) 50)), (3, .int y3), (4, .int y4), (5, .int y5), (6, .int x42)]) [1, 2, 3, 4, 0] rfl ?_
      exact ih y3 y4 y5 x42 σ41  h
set_option maxRecDepth 100000 in
set_option maxHeartbeats 4000000 in
theorem w_X5_copy_L128 {X : Cx} {l : Launch} {r : Int32} {σr : Mem} {res : Int32 × Mem} (hres : res = (r, σr)) (o : OK X cX5_copy RX5 sdM 7 rm_X5_copy l) (hr : RI X .int r σr)   : ∀ (n : Nat) (y1 : Int32) (y2 : Int32) (y3 : Int32) (y4 : Int32) (y5 : Int32) (y6 : Int32) (σ : Mem), f_X5_copy_L128  n y1 y2 y3 y4 y5 y6 σ = some res → G X σ 128 [(0, .ref (eA (xE X) 50)), (1, .int y1), (2, .int y2), (3, .int y3), (4, .int y4), (5, .int y5), (6, .int y6)] [] := by
  intro n
  induction n with
  | zero => intro y1 y2 y3 y4 y5 y6 σ  h; cases h
  | succ n ih =>
    intro y1 y2 y3 y4 y5 y6 σ  h
    rw [f_X5_copy_L128_s] at h
    refine g_iload o (q := 130) 6 rfl dX5_copy_128 rfl ?_
    refine g_iload o (q := 132) 5 rfl dX5_copy_130 rfl ?_
    refine g_icmp_ge o (tgt := 162) (q := 135) dX5_copy_132 (by decide) rfl h (fun h => ?_) (fun h => ?_)
    · refine g_iconst o (v := 0) (q := 163) (by decide) dX5_copy_162 rfl ?_
      refine g_istore o (q := 165) dX5_copy_163 rfl (by decide) h (fun x38 => [(6, .int x38), (0, .ref (eA (xE X) 50)), (1, .int y1), (2, .int y2), (3, .int y3), (4, .int y4), (5, .int y5)]) (fun _ => rfl) (fun x38 h => ?_)
      refine g_sub (lv' := [(0, .ref (eA (xE X) 50)), (3, .int y3), (4, .int y4), (5, .int y5), (6, .int x38)]) [1, 4, 5, 6, 0] rfl ?_
      exact w_X5_copy_L165 hres o hr  FU y3 y4 y5 x38 σ  h
    · refine g_aload_n o (q := 136) 0 rfl rfl dX5_copy_135 rfl ?_
      refine gf_X5_19 o (q := 139) kM_50 lk_X5_57 dX5_copy_136 rfl ?_
      refine g_iload o (q := 141) 6 rfl dX5_copy_139 rfl ?_
      refine g_aload_n o (q := 142) 0 rfl rfl dX5_copy_141 rfl ?_
      refine gf_X5_18 o (q := 145) kM_50 lk_X5_54 dX5_copy_142 rfl ?_
      refine g_bipush o (v := 40) (q := 147) (by decide) dX5_copy_145 rfl ?_
      refine g_iload_n o (q := 148) 1 rfl rfl dX5_copy_147 rfl ?_
      refine g_imul o (q := 149) dX5_copy_148 rfl ?_
      refine g_iload_n o (q := 150) 2 rfl rfl dX5_copy_149 rfl ?_
      refine g_iadd o (q := 151) dX5_copy_150 rfl ?_
      refine g_iload o (q := 153) 6 rfl dX5_copy_151 rfl ?_
      refine g_iadd o (q := 154) dX5_copy_153 rfl ?_
      refine g_iald o (q := 155) kM_60 dX5_copy_154 rfl h (fun j43 hjj43 h => ?_)
      refine g_iast o (q := 156) kM_61 dX5_copy_155 rfl h (fun j44 σ45 h => ?_)
      refine g_iinc o (q := 159) (dn := 1) dX5_copy_156 rfl 6 rfl (by decide) (by decide) h (fun x46 => [(6, .int x46), (0, .ref (eA (xE X) 50)), (1, .int y1), (2, .int y2), (3, .int y3), (4, .int y4), (5, .int y5)]) (fun _ => rfl) (fun x46 h => ?_)
      refine g_goto o (tgt := 128) dX5_copy_159 (by decide) ?_
      refine g_sub (lv' := [(0, .ref (eA (xE X) 50)), (1, .int y1), (2, .int y2), (3, .int y3), (4, .int y4), (5, .int y5), (6, .int x46)]) [1, 2, 3, 4, 5, 6, 0] rfl ?_
      exact ih y1 y2 y3 y4 y5 x46 σ45  h
set_option maxRecDepth 100000 in
set_option maxHeartbeats 4000000 in
theorem w_X5_copy {X : Cx} {l : Launch} {r : Int32} {σr : Mem} {res : Int32 × Mem} (hres : res = (r, σr)) (o : OK X cX5_copy RX5 sdM 7 rm_X5_copy l) (hr : RI X .int r σr) (x1 : Int32) (x2 : Int32) (x3 : Int32) (x4 : Int32) (x5 : Int32)  {σ : Mem} (h : f_X5_copy x1 x2 x3 x4 x5 σ = some res) : G X σ 0 [(0, .ref (eA (xE X) 50)), (1, .int x1), (2, .int x2), (3, .int x3), (4, .int x4), (5, .int x5)] [] := by
  unfold f_X5_copy at h
  refine g_iload_n o (q := 1) 1 rfl rfl dX5_copy_0 rfl ?_
  refine g_csi o (q := 4) (As := [.int x1]) (rest := []) kv_X5_isSheet lk_X5_208 rfl (fun _ _ hc => c_X5_isSheet o.mk x1 hc) dX5_copy_1 rfl ⟨rfl, rfl, Nat.le_of_ble_eq_true rfl, Nat.le_of_ble_eq_true rfl⟩ (Nat.le_of_ble_eq_true rfl) rfl h (fun r22 σ21 h => ?_)
  refine g_if_eq o (tgt := 14) (q := 7) dX5_copy_4 (by decide) rfl h (fun h => ?_) (fun h => ?_)
  · refine g_sub (lv' := [(0, .ref (eA (xE X) 50))]) [0] rfl ?_
    exact w_X5_copy_J14 hres o hr   h
  · refine g_iload_n o (q := 8) 3 rfl rfl dX5_copy_7 rfl ?_
    refine g_csi o (q := 11) (As := [.int x3]) (rest := []) kv_X5_isSheet lk_X5_208 rfl (fun _ _ hc => c_X5_isSheet o.mk x3 hc) dX5_copy_8 rfl ⟨rfl, rfl, Nat.le_of_ble_eq_true rfl, Nat.le_of_ble_eq_true rfl⟩ (Nat.le_of_ble_eq_true rfl) rfl h (fun r26 σ25 h => ?_)
    refine g_if_ne o (tgt := 21) (q := 14) dX5_copy_11 (by decide) rfl h (fun h => ?_) (fun h => ?_)
    · refine g_aload_n o (q := 22) 0 rfl rfl dX5_copy_21 rfl ?_
      refine gf_X5_16 o (q := 25) kM_50 lk_X5_48 dX5_copy_22 rfl ?_
      refine g_iload_n o (q := 26) 1 rfl rfl dX5_copy_25 rfl ?_
      refine g_iald o (q := 27) kM_58 dX5_copy_26 rfl h (fun j27 hjj27 h => ?_)
      refine g_if_eq o (tgt := 39) (q := 30) dX5_copy_27 (by decide) rfl h (fun h => ?_) (fun h => ?_)
      · refine g_sub (lv' := [(0, .ref (eA (xE X) 50))]) [0] rfl ?_
        exact w_X5_copy_J39 hres o hr   h
      · refine g_aload_n o (q := 31) 0 rfl rfl dX5_copy_30 rfl ?_
        refine gf_X5_16 o (q := 34) kM_50 lk_X5_48 dX5_copy_31 rfl ?_
        refine g_iload_n o (q := 35) 3 rfl rfl dX5_copy_34 rfl ?_
        refine g_iald o (q := 36) kM_58 dX5_copy_35 rfl h (fun j30 hjj30 h => ?_)
        refine g_if_ne o (tgt := 46) (q := 39) dX5_copy_36 (by decide) rfl h (fun h => ?_) (fun h => ?_)
        · refine g_aload_n o (q := 47) 0 rfl rfl dX5_copy_46 rfl ?_
          refine gf_X5_16 o (q := 50) kM_50 lk_X5_48 dX5_copy_47 rfl ?_
          refine g_iload_n o (q := 51) 1 rfl rfl dX5_copy_50 rfl ?_
          refine g_iald o (q := 52) kM_58 dX5_copy_51 rfl h (fun j31 hjj31 h => ?_)
          refine g_aload_n o (q := 53) 0 rfl rfl dX5_copy_52 rfl ?_
          refine gf_X5_16 o (q := 56) kM_50 lk_X5_48 dX5_copy_53 rfl ?_
          refine g_iload_n o (q := 57) 3 rfl rfl dX5_copy_56 rfl ?_
          refine g_iald o (q := 58) kM_58 dX5_copy_57 rfl h (fun j32 hjj32 h => ?_)
          refine g_icmp_eq o (tgt := 69) (q := 61) dX5_copy_58 (by decide) rfl h (fun h => ?_) (fun h => ?_)
          · refine g_iload_n o (q := 70) 2 rfl rfl dX5_copy_69 rfl ?_
            refine g_if_lt o (tgt := 118) (q := 73) dX5_copy_70 (by decide) rfl h (fun h => ?_) (fun h => ?_)
            · refine g_sub (lv' := [(0, .ref (eA (xE X) 50))]) [0] rfl ?_
              exact w_X5_copy_J118 hres o hr   h
            · refine g_iload o (q := 75) 4 rfl dX5_copy_73 rfl ?_
              refine g_if_lt o (tgt := 118) (q := 78) dX5_copy_75 (by decide) rfl h (fun h => ?_) (fun h => ?_)
              · refine g_sub (lv' := [(0, .ref (eA (xE X) 50))]) [0] rfl ?_
                exact w_X5_copy_J118 hres o hr   h
              · refine g_iload o (q := 80) 5 rfl dX5_copy_78 rfl ?_
                refine g_if_lt o (tgt := 118) (q := 83) dX5_copy_80 (by decide) rfl h (fun h => ?_) (fun h => ?_)
                · refine g_sub (lv' := [(0, .ref (eA (xE X) 50))]) [0] rfl ?_
                  exact w_X5_copy_J118 hres o hr   h
                · refine g_iload_n o (q := 84) 2 rfl rfl dX5_copy_83 rfl ?_
                  refine g_i2l o (q := 85) dX5_copy_84 rfl ?_
                  refine g_iload o (q := 87) 5 rfl dX5_copy_85 rfl ?_
                  refine g_i2l o (q := 88) dX5_copy_87 rfl ?_
                  refine g_ladd o (q := 89) dX5_copy_88 rfl ?_
                  refine g_aload_n o (q := 90) 0 rfl rfl dX5_copy_89 rfl ?_
                  refine gf_X5_17 o (q := 93) kM_50 lk_X5_51 dX5_copy_90 rfl ?_
                  refine g_iload_n o (q := 94) 1 rfl rfl dX5_copy_93 rfl ?_
                  refine g_iald o (q := 95) kM_59 dX5_copy_94 rfl h (fun j35 hjj35 h => ?_)
                  refine g_i2l o (q := 96) dX5_copy_95 rfl ?_
                  refine g_lcmp o (q := 97) dX5_copy_96 rfl ?_
                  refine g_if_gt o (tgt := 118) (q := 100) dX5_copy_97 (by decide) rfl h (fun h => ?_) (fun h => ?_)
                  · refine g_sub (lv' := [(0, .ref (eA (xE X) 50))]) [0] rfl ?_
                    exact w_X5_copy_J118 hres o hr   h
                  · refine g_iload o (q := 102) 4 rfl dX5_copy_100 rfl ?_
                    refine g_i2l o (q := 103) dX5_copy_102 rfl ?_
                    refine g_iload o (q := 105) 5 rfl dX5_copy_103 rfl ?_
                    refine g_i2l o (q := 106) dX5_copy_105 rfl ?_
                    refine g_ladd o (q := 107) dX5_copy_106 rfl ?_
                    refine g_aload_n o (q := 108) 0 rfl rfl dX5_copy_107 rfl ?_
                    refine gf_X5_17 o (q := 111) kM_50 lk_X5_51 dX5_copy_108 rfl ?_
                    refine g_iload_n o (q := 112) 3 rfl rfl dX5_copy_111 rfl ?_
                    refine g_iald o (q := 113) kM_59 dX5_copy_112 rfl h (fun j36 hjj36 h => ?_)
                    refine g_i2l o (q := 114) dX5_copy_113 rfl ?_
                    refine g_lcmp o (q := 115) dX5_copy_114 rfl ?_
                    refine g_if_le o (tgt := 125) (q := 118) dX5_copy_115 (by decide) rfl h (fun h => ?_) (fun h => ?_)
                    · refine g_iconst o (v := 0) (q := 126) (by decide) dX5_copy_125 rfl ?_
                      refine g_istore o (q := 128) dX5_copy_126 rfl (by decide) h (fun x37 => [(6, .int x37), (0, .ref (eA (xE X) 50)), (1, .int x1), (2, .int x2), (3, .int x3), (4, .int x4), (5, .int x5)]) (fun _ => rfl) (fun x37 h => ?_)
                      refine g_sub (lv' := [(0, .ref (eA (xE X) 50)), (1, .int x1), (2, .int x2), (3, .int x3), (4, .int x4), (5, .int x5), (6, .int x37)]) [1, 2, 3, 4, 5, 6, 0] rfl ?_
                      exact w_X5_copy_L128 hres o hr  FU x1 x2 x3 x4 x5 x37 σ25  h
                    · refine g_sub (lv' := [(0, .ref (eA (xE X) 50))]) [0] rfl ?_
                      exact w_X5_copy_J118 hres o hr   h
          · refine g_aload_n o (q := 62) 0 rfl rfl dX5_copy_61 rfl ?_
            refine g_ldcw o (q := 65) lk_X5_313 dX5_copy_62 rfl ?_
            refine g_cvi o (q := 68) (As := [.int (-1000003)]) (rest := []) kv_X5_finding lk_X5_66 kM_50 (by decide) rfl rfl rfl (fun _ _ hc => c_X5_finding o.mk (-1000003) hc) dX5_copy_65 rfl ⟨rfl, rfl, Nat.le_of_ble_eq_true rfl, Nat.le_of_ble_eq_true rfl⟩ (Nat.le_of_ble_eq_true rfl) rfl h (fun r48 σ47 h => ?_)
            exact g_iret o hr (h.trans (congrArg some hres)) rfl dX5_copy_68
        · refine g_sub (lv' := [(0, .ref (eA (xE X) 50))]) [0] rfl ?_
          exact w_X5_copy_J39 hres o hr   h
    · refine g_sub (lv' := [(0, .ref (eA (xE X) 50))]) [0] rfl ?_
      exact w_X5_copy_J14 hres o hr   h
theorem c_X5_copy {l : Launch} {E : En} {mk : Mem → Mem} (hmk : MK mk sdM) (x1 : Int32) (x2 : Int32) (x3 : Int32) (x4 : Int32) (x5 : Int32)  {σ : Mem} {r : Int32} {τ : Mem} (h : f_X5_copy x1 x2 x3 x4 x5 σ = some (r, τ)) : Met l yX5_copy (Cond.code yX5_copy cX5_copy 7 (some .int) :: wt) rm_X5_copy (PW E mk [.ref (eA E 50), .int x1, .int x2, .int x3, .int x4, .int x5] σ) (QI E mk r τ) 0 0 (WA E) :=
  met_i (fun E => [.ref (eA E 50), .int x1, .int x2, .int x3, .int x4, .int x5]) (by decide) hmk (Nat.le_of_ble_eq_true rfl) (fun X o hr => w_X5_copy rfl o hr x1 x2 x3 x4 x5  h)
set_option maxRecDepth 100000 in
set_option maxHeartbeats 4000000 in
theorem w_X5_load_L22 {X : Cx} {l : Launch} {r : Int32} {σr : Mem} {res : Int32 × Mem} (hres : res = (r, σr)) (o : OK X cX5_load RX5 sdM 3 rm_X5_load l) (hr : RI X .int r σr)   : ∀ (n : Nat) (y1 : Int32) (y2 : Int32) (σ : Mem), f_X5_load_L22  n y1 y2 σ = some res → G X σ 22 [(0, .ref (eA (xE X) 50)), (1, .int y1), (2, .int y2)] [] := by
  intro n
  induction n with
  | zero => intro y1 y2 σ  h; cases h
  | succ n ih =>
    intro y1 y2 σ  h
    rw [f_X5_load_L22_s] at h
    refine g_iload_n o (q := 23) 2 rfl rfl dX5_load_22 rfl ?_
    refine g_aload_n o (q := 24) 0 rfl rfl dX5_load_23 rfl ?_
    refine gf_X5_17 o (q := 27) kM_50 lk_X5_51 dX5_load_24 rfl ?_
    refine g_iload_n o (q := 28) 1 rfl rfl dX5_load_27 rfl ?_
    refine g_iald o (q := 29) kM_59 dX5_load_28 rfl h (fun j24 hjj24 h => ?_)
    refine g_icmp_ge o (tgt := 84) (q := 32) dX5_load_29 (by decide) rfl h (fun h => ?_) (fun h => ?_)
    · refine g_iload_n o (q := 85) 2 rfl rfl dX5_load_84 rfl ?_
      exact g_iret o hr (h.trans (congrArg some hres)) rfl dX5_load_85
    · refine g_aload_n o (q := 33) 0 rfl rfl dX5_load_32 rfl ?_
      refine g_iload_n o (q := 34) 2 rfl rfl dX5_load_33 rfl ?_
      refine g_cvi o (q := 37) (As := [.int y2]) (rest := []) kv_X5_isCurtain lk_X5_123 kM_50 (by decide) rfl rfl rfl (fun _ _ hc => c_X5_isCurtain o.mk y2 hc) dX5_load_34 rfl ⟨rfl, rfl, Nat.le_of_ble_eq_true rfl, Nat.le_of_ble_eq_true rfl⟩ (Nat.le_of_ble_eq_true rfl) rfl h (fun r26 σ25 h => ?_)
      refine g_if_eq o (tgt := 84) (q := 40) dX5_load_37 (by decide) rfl h (fun h => ?_) (fun h => ?_)
      · refine g_iload_n o (q := 85) 2 rfl rfl dX5_load_84 rfl ?_
        exact g_iret o hr (h.trans (congrArg some hres)) rfl dX5_load_85
      · refine g_aload_n o (q := 41) 0 rfl rfl dX5_load_40 rfl ?_
        refine gf_X5_18 o (q := 44) kM_50 lk_X5_54 dX5_load_41 rfl ?_
        refine g_bipush o (v := 40) (q := 46) (by decide) dX5_load_44 rfl ?_
        refine g_iload_n o (q := 47) 1 rfl rfl dX5_load_46 rfl ?_
        refine g_imul o (q := 48) dX5_load_47 rfl ?_
        refine g_iload_n o (q := 49) 2 rfl rfl dX5_load_48 rfl ?_
        refine g_iadd o (q := 50) dX5_load_49 rfl ?_
        refine g_iald o (q := 51) kM_60 dX5_load_50 rfl h (fun j27 hjj27 h => ?_)
        refine g_csi o (q := 54) (As := [.int (σ25 60 j27)]) (rest := []) kv_X5_isSet lk_X5_91 rfl (fun _ _ hc => c_X5_isSet o.mk (σ25 60 j27) hc) dX5_load_51 rfl ⟨rfl, rfl, Nat.le_of_ble_eq_true rfl, Nat.le_of_ble_eq_true rfl⟩ (Nat.le_of_ble_eq_true rfl) rfl h (fun r29 σ28 h => ?_)
        refine g_if_eq o (tgt := 84) (q := 57) dX5_load_54 (by decide) rfl h (fun h => ?_) (fun h => ?_)
        · refine g_iload_n o (q := 85) 2 rfl rfl dX5_load_84 rfl ?_
          exact g_iret o hr (h.trans (congrArg some hres)) rfl dX5_load_85
        · refine g_aload_n o (q := 58) 0 rfl rfl dX5_load_57 rfl ?_
          refine gf_X5_0 o (q := 61) kM_50 lk_X5_9 dX5_load_58 rfl ?_
          refine g_iload_n o (q := 62) 2 rfl rfl dX5_load_61 rfl ?_
          refine g_iconst o (v := 2) (q := 63) (by decide) dX5_load_62 rfl ?_
          refine g_csi o (q := 66) (As := [.int y2, .int 2]) (rest := [.ref (eA (xE X) 51)]) kv_X5_curtainAt lk_X5_85 rfl (fun _ _ hc => c_X5_curtainAt o.mk y2 2 hc) dX5_load_63 rfl ⟨rfl, rfl, Nat.le_of_ble_eq_true rfl, Nat.le_of_ble_eq_true rfl⟩ (Nat.le_of_ble_eq_true rfl) rfl h (fun r31 σ30 h => ?_)
          refine g_aload_n o (q := 67) 0 rfl rfl dX5_load_66 rfl ?_
          refine gf_X5_18 o (q := 70) kM_50 lk_X5_54 dX5_load_67 rfl ?_
          refine g_bipush o (v := 40) (q := 72) (by decide) dX5_load_70 rfl ?_
          refine g_iload_n o (q := 73) 1 rfl rfl dX5_load_72 rfl ?_
          refine g_imul o (q := 74) dX5_load_73 rfl ?_
          refine g_iload_n o (q := 75) 2 rfl rfl dX5_load_74 rfl ?_
          refine g_iadd o (q := 76) dX5_load_75 rfl ?_
          refine g_iald o (q := 77) kM_60 dX5_load_76 rfl h (fun j32 hjj32 h => ?_)
          refine g_iast o (q := 78) kM_51 dX5_load_77 rfl h (fun j33 σ34 h => ?_)
          refine g_iinc o (q := 81) (dn := 1) dX5_load_78 rfl 2 rfl (by decide) (by decide) h (fun x35 => [(2, .int x35), (0, .ref (eA (xE X) 50)), (1, .int y1)]) (fun _ => rfl) (fun x35 h => ?_)
          refine g_goto o (tgt := 22) dX5_load_81 (by decide) ?_
          refine g_sub (lv' := [(0, .ref (eA (xE X) 50)), (1, .int y1), (2, .int x35)]) [1, 2, 0] rfl ?_
          exact ih y1 x35 σ34  h
set_option maxRecDepth 100000 in
set_option maxHeartbeats 4000000 in
theorem w_X5_load {X : Cx} {l : Launch} {r : Int32} {σr : Mem} {res : Int32 × Mem} (hres : res = (r, σr)) (o : OK X cX5_load RX5 sdM 3 rm_X5_load l) (hr : RI X .int r σr) (x1 : Int32)  {σ : Mem} (h : f_X5_load x1 σ = some res) : G X σ 0 [(0, .ref (eA (xE X) 50)), (1, .int x1)] [] := by
  unfold f_X5_load at h
  refine g_aload_n o (q := 1) 0 rfl rfl dX5_load_0 rfl ?_
  refine g_iload_n o (q := 2) 1 rfl rfl dX5_load_1 rfl ?_
  refine g_iconst o (v := 1) (q := 3) (by decide) dX5_load_2 rfl ?_
  refine g_cvi o (q := 6) (As := [.int x1, .int 1]) (rest := []) kv_X5_lacks lk_X5_215 kM_50 (by decide) rfl rfl rfl (fun _ _ hc => c_X5_lacks o.mk x1 1 hc) dX5_load_3 rfl ⟨rfl, rfl, Nat.le_of_ble_eq_true rfl, Nat.le_of_ble_eq_true rfl⟩ (Nat.le_of_ble_eq_true rfl) rfl h (fun r22 σ21 h => ?_)
  refine g_if_eq o (tgt := 20) (q := 9) dX5_load_6 (by decide) rfl h (fun h => ?_) (fun h => ?_)
  · refine g_iconst o (v := 0) (q := 21) (by decide) dX5_load_20 rfl ?_
    refine g_istore_n o (q := 22) dX5_load_21 rfl rfl (by decide) h (fun x23 => [(2, .int x23), (0, .ref (eA (xE X) 50)), (1, .int x1)]) (fun _ => rfl) (fun x23 h => ?_)
    refine g_sub (lv' := [(0, .ref (eA (xE X) 50)), (1, .int x1), (2, .int x23)]) [1, 2, 0] rfl ?_
    exact w_X5_load_L22 hres o hr  FU x1 x23 σ21  h
  · refine g_aload_n o (q := 10) 0 rfl rfl dX5_load_9 rfl ?_
    refine g_aload_n o (q := 11) 0 rfl rfl dX5_load_10 rfl ?_
    refine g_iload_n o (q := 12) 1 rfl rfl dX5_load_11 rfl ?_
    refine g_iconst o (v := 1) (q := 13) (by decide) dX5_load_12 rfl ?_
    refine g_cvi o (q := 16) (As := [.int x1, .int 1]) (rest := [.ref (eA (xE X) 50)]) kv_X5_lacks lk_X5_215 kM_50 (by decide) rfl rfl rfl (fun _ _ hc => c_X5_lacks o.mk x1 1 hc) dX5_load_13 rfl ⟨rfl, rfl, Nat.le_of_ble_eq_true rfl, Nat.le_of_ble_eq_true rfl⟩ (Nat.le_of_ble_eq_true rfl) rfl h (fun r37 σ36 h => ?_)
    refine g_cvi o (q := 19) (As := [.int r37]) (rest := []) kv_X5_finding lk_X5_66 kM_50 (by decide) rfl rfl rfl (fun _ _ hc => c_X5_finding o.mk r37 hc) dX5_load_16 rfl ⟨rfl, rfl, Nat.le_of_ble_eq_true rfl, Nat.le_of_ble_eq_true rfl⟩ (Nat.le_of_ble_eq_true rfl) rfl h (fun r39 σ38 h => ?_)
    exact g_iret o hr (h.trans (congrArg some hres)) rfl dX5_load_19
theorem c_X5_load {l : Launch} {E : En} {mk : Mem → Mem} (hmk : MK mk sdM) (x1 : Int32)  {σ : Mem} {r : Int32} {τ : Mem} (h : f_X5_load x1 σ = some (r, τ)) : Met l yX5_load (Cond.code yX5_load cX5_load 3 (some .int) :: wt) rm_X5_load (PW E mk [.ref (eA E 50), .int x1] σ) (QI E mk r τ) 0 0 (WA E) :=
  met_i (fun E => [.ref (eA E 50), .int x1]) (by decide) hmk (Nat.le_of_ble_eq_true rfl) (fun X o hr => w_X5_load rfl o hr x1  h)
