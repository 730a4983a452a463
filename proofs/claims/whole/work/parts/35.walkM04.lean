set_option maxRecDepth 100000 in
set_option maxHeartbeats 4000000 in
theorem w_X5_lacks {X : Cx} {l : Launch} {r : Int32} {σr : Mem} {res : Int32 × Mem} (hres : res = (r, σr)) (o : OK X cX5_lacks RX5 sdM 3 rm_X5_lacks l) (hr : RI X .int r σr) (x1 : Int32) (x2 : Int32)  {σ : Mem} (h : f_X5_lacks x1 x2 σ = some res) : G X σ 0 [(0, .ref (eA (xE X) 50)), (1, .int x1), (2, .int x2)] [] := by
  unfold f_X5_lacks at h
  refine g_iload_n o (q := 1) 1 rfl rfl dX5_lacks_0 rfl ?_
  refine g_csi o (q := 4) (As := [.int x1]) (rest := []) kv_X5_isSheet lk_X5_208 rfl (fun _ _ hc => c_X5_isSheet o.mk x1 hc) dX5_lacks_1 rfl ⟨rfl, rfl, Nat.le_of_ble_eq_true rfl, Nat.le_of_ble_eq_true rfl⟩ (Nat.le_of_ble_eq_true rfl) rfl h (fun r22 σ21 h => ?_)
  refine g_if_ne o (tgt := 12) (q := 7) dX5_lacks_4 (by decide) rfl h (fun h => ?_) (fun h => ?_)
  · refine g_aload_n o (q := 13) 0 rfl rfl dX5_lacks_12 rfl ?_
    refine gf_X5_16 o (q := 16) kM_50 lk_X5_48 dX5_lacks_13 rfl ?_
    refine g_iload_n o (q := 17) 1 rfl rfl dX5_lacks_16 rfl ?_
    refine g_iald o (q := 18) kM_58 dX5_lacks_17 rfl h (fun j23 hjj23 h => ?_)
    refine g_if_ne o (tgt := 26) (q := 21) dX5_lacks_18 (by decide) rfl h (fun h => ?_) (fun h => ?_)
    · refine g_iload_n o (q := 27) 2 rfl rfl dX5_lacks_26 rfl ?_
      refine g_if_eq o (tgt := 34) (q := 30) dX5_lacks_27 (by decide) rfl h (fun h => ?_) (fun h => ?_)
      · refine g_ldc o (q := 36) lk_X5_60 dX5_lacks_34 rfl ?_
        exact g_iret o hr (h.trans (congrArg some hres)) rfl dX5_lacks_36
      · refine g_iconst o (v := 0) (q := 31) (by decide) dX5_lacks_30 rfl ?_
        refine g_goto o (tgt := 36) dX5_lacks_31 (by decide) ?_
        exact g_iret o hr (h.trans (congrArg some hres)) rfl dX5_lacks_36
    · refine g_ldc o (q := 23) lk_X5_211 dX5_lacks_21 rfl ?_
      refine g_goto o (tgt := 36) dX5_lacks_23 (by decide) ?_
      exact g_iret o hr (h.trans (congrArg some hres)) rfl dX5_lacks_36
  · refine g_ldc o (q := 9) lk_X5_60 dX5_lacks_7 rfl ?_
    refine g_goto o (tgt := 36) dX5_lacks_9 (by decide) ?_
    exact g_iret o hr (h.trans (congrArg some hres)) rfl dX5_lacks_36
theorem c_X5_lacks {l : Launch} {E : En} {mk : Mem → Mem} (hmk : MK mk sdM) (x1 : Int32) (x2 : Int32)  {σ : Mem} {r : Int32} {τ : Mem} (h : f_X5_lacks x1 x2 σ = some (r, τ)) : Met l yX5_lacks (Cond.code yX5_lacks cX5_lacks 3 (some .int) :: wt) rm_X5_lacks (PW E mk [.ref (eA E 50), .int x1, .int x2] σ) (QI E mk r τ) 0 0 (WA E) :=
  met_i (fun E => [.ref (eA E 50), .int x1, .int x2]) (by decide) hmk (Nat.le_of_ble_eq_true rfl) (fun X o hr => w_X5_lacks rfl o hr x1 x2  h)
set_option maxRecDepth 100000 in
set_option maxHeartbeats 4000000 in
theorem w_X5_isSo_J78 {X : Cx} {l : Launch} {r : Int32} {σr : Mem} {res : Int32 × Mem} (hres : res = (r, σr)) (o : OK X cX5_isSo RX5 sdM 6 rm_X5_isSo l) (hr : RI X .boolean r σr)   {y3 : Int32}  {σ : Mem} (h : f_X5_isSo_J78  y3 σ = some res) : G X σ 78 [(0, .ref (eA (xE X) 50)), (3, .int y3)] [] := by
  unfold f_X5_isSo_J78 at h
  refine g_aload_n o (q := 79) 0 rfl rfl dX5_isSo_78 rfl ?_
  refine gf_X5_2 o (q := 82) kM_50 lk_X5_16 dX5_isSo_79 rfl ?_
  refine g_aload_n o (q := 83) 0 rfl rfl dX5_isSo_82 rfl ?_
  refine gf_X5_0 o (q := 86) kM_50 lk_X5_9 dX5_isSo_83 rfl ?_
  refine g_csv o (q := 89) (As := [.ref (eA (xE X) 53), .ref (eA (xE X) 51)]) (rest := []) kv_X5_copyRow lk_X5_61 rfl (fun _ _ hc => c_X5_copyRow o.mk 53 51 kM_53 kM_51 hc) dX5_isSo_86 rfl ⟨rfl, rfl, Nat.le_of_ble_eq_true rfl, Nat.le_of_ble_eq_true rfl⟩ (Nat.le_of_ble_eq_true rfl) rfl h (fun _u25 σ25 h => ?_)
  refine g_iload_n o (q := 90) 1 rfl rfl dX5_isSo_89 rfl ?_
  obtain ⟨hb, h⟩ := vB_some h
  exact g_iret o hr (h.trans (congrArg some hres)) (by rcases hb with hb | hb <;> rw [hb] <;> rfl) dX5_isSo_90
set_option maxRecDepth 100000 in
set_option maxHeartbeats 4000000 in
theorem w_X5_isSo_J67 {X : Cx} {l : Launch} {r : Int32} {σr : Mem} {res : Int32 × Mem} (hres : res = (r, σr)) (o : OK X cX5_isSo RX5 sdM 6 rm_X5_isSo l) (hr : RI X .boolean r σr) {k16 : Int32 → Int32 → Int32 → Int32 → Mem → Option (Int32 × Mem)} (hk16 : ∀ (y1 : Int32) (y2 : Int32) (y3 : Int32) (y4 : Int32) (σ : Mem), k16 y1 y2 y3 y4 σ = some res → G X σ 16 [(0, .ref (eA (xE X) 50)), (1, .int y1), (2, .int y2), (3, .int y3), (4, .int y4)] []) {y1 : Int32} {y2 : Int32} {y4 : Int32} {s0 : Int32}  {σ : Mem} (h : f_X5_isSo_J67 k16 y1 y2 y4 s0 σ = some res) : G X σ 67 [(0, .ref (eA (xE X) 50)), (1, .int y1), (2, .int y2), (4, .int y4)] [.int s0] := by
  unfold f_X5_isSo_J67 at h
  refine g_istore_n o (q := 68) dX5_isSo_67 rfl rfl (by decide) h (fun x28 => [(3, .int x28), (0, .ref (eA (xE X) 50)), (1, .int y1), (2, .int y2), (4, .int y4)]) (fun _ => rfl) (fun x28 h => ?_)
  refine g_aload_n o (q := 69) 1 rfl rfl dX5_isSo_68 rfl ?_
  refine g_cvv o (q := 72) (As := []) (rest := []) kv_X5_beat lk_X5_164 kM_50 (by decide) rfl rfl rfl (fun _ _ hc => c_X5_beat o.mk  hc) dX5_isSo_69 rfl ⟨rfl, rfl, Nat.le_of_ble_eq_true rfl, Nat.le_of_ble_eq_true rfl⟩ (Nat.le_of_ble_eq_true rfl) rfl h (fun _u29 σ29 h => ?_)
  refine g_iinc o (q := 75) (dn := 1) dX5_isSo_72 rfl 4 rfl (by decide) (by decide) h (fun x30 => [(4, .int x30), (3, .int x28), (0, .ref (eA (xE X) 50)), (1, .int y1), (2, .int y2)]) (fun _ => rfl) (fun x30 h => ?_)
  refine g_goto o (tgt := 16) dX5_isSo_75 (by decide) ?_
  refine g_sub (lv' := [(0, .ref (eA (xE X) 50)), (1, .int y1), (2, .int y2), (3, .int x28), (4, .int x30)]) [2, 3, 4, 1, 0] rfl ?_
  exact hk16 y1 y2 x28 x30 σ29  h
set_option maxRecDepth 100000 in
set_option maxHeartbeats 4000000 in
theorem w_X5_isSo_J62 {X : Cx} {l : Launch} {r : Int32} {σr : Mem} {res : Int32 × Mem} (hres : res = (r, σr)) (o : OK X cX5_isSo RX5 sdM 6 rm_X5_isSo l) (hr : RI X .boolean r σr) {k16 : Int32 → Int32 → Int32 → Int32 → Mem → Option (Int32 × Mem)} (hk16 : ∀ (y1 : Int32) (y2 : Int32) (y3 : Int32) (y4 : Int32) (σ : Mem), k16 y1 y2 y3 y4 σ = some res → G X σ 16 [(0, .ref (eA (xE X) 50)), (1, .int y1), (2, .int y2), (3, .int y3), (4, .int y4)] []) {y1 : Int32} {y2 : Int32} {y4 : Int32}  {σ : Mem} (h : f_X5_isSo_J62 k16 y1 y2 y4 σ = some res) : G X σ 62 [(0, .ref (eA (xE X) 50)), (1, .int y1), (2, .int y2), (4, .int y4)] [] := by
  unfold f_X5_isSo_J62 at h
  refine g_iconst o (v := 1) (q := 63) (by decide) dX5_isSo_62 rfl ?_
  refine g_goto o (tgt := 67) dX5_isSo_63 (by decide) ?_
  exact w_X5_isSo_J67 hres o hr hk16  h
set_option maxRecDepth 100000 in
set_option maxHeartbeats 4000000 in
theorem w_X5_isSo_L16 {X : Cx} {l : Launch} {r : Int32} {σr : Mem} {res : Int32 × Mem} (hres : res = (r, σr)) (o : OK X cX5_isSo RX5 sdM 6 rm_X5_isSo l) (hr : RI X .boolean r σr)   : ∀ (n : Nat) (y1 : Int32) (y2 : Int32) (y3 : Int32) (y4 : Int32) (σ : Mem), f_X5_isSo_L16  n y1 y2 y3 y4 σ = some res → G X σ 16 [(0, .ref (eA (xE X) 50)), (1, .int y1), (2, .int y2), (3, .int y3), (4, .int y4)] [] := by
  intro n
  induction n with
  | zero => intro y1 y2 y3 y4 σ  h; cases h
  | succ n ih =>
    intro y1 y2 y3 y4 σ  h
    rw [f_X5_isSo_L16_s] at h
    refine g_iload o (q := 18) 4 rfl dX5_isSo_16 rfl ?_
    refine g_aload_n o (q := 19) 0 rfl rfl dX5_isSo_18 rfl ?_
    refine gf_X5_17 o (q := 22) kM_50 lk_X5_51 dX5_isSo_19 rfl ?_
    refine g_iload_n o (q := 23) 1 rfl rfl dX5_isSo_22 rfl ?_
    refine g_iald o (q := 24) kM_59 dX5_isSo_23 rfl h (fun j24 hjj24 h => ?_)
    refine g_icmp_ge o (tgt := 78) (q := 27) dX5_isSo_24 (by decide) rfl h (fun h => ?_) (fun h => ?_)
    · refine g_sub (lv' := [(0, .ref (eA (xE X) 50)), (3, .int y3)]) [0, 3] rfl ?_
      exact w_X5_isSo_J78 hres o hr   h
    · refine g_iload_n o (q := 28) 3 rfl rfl dX5_isSo_27 rfl ?_
      refine g_if_eq o (tgt := 78) (q := 31) dX5_isSo_28 (by decide) rfl h (fun h => ?_) (fun h => ?_)
      · refine g_sub (lv' := [(0, .ref (eA (xE X) 50)), (3, .int y3)]) [0, 3] rfl ?_
        exact w_X5_isSo_J78 hres o hr   h
      · refine g_aload_n o (q := 32) 0 rfl rfl dX5_isSo_31 rfl ?_
        refine gf_X5_18 o (q := 35) kM_50 lk_X5_54 dX5_isSo_32 rfl ?_
        refine g_bipush o (v := 40) (q := 37) (by decide) dX5_isSo_35 rfl ?_
        refine g_iload_n o (q := 38) 1 rfl rfl dX5_isSo_37 rfl ?_
        refine g_imul o (q := 39) dX5_isSo_38 rfl ?_
        refine g_iload o (q := 41) 4 rfl dX5_isSo_39 rfl ?_
        refine g_iadd o (q := 42) dX5_isSo_41 rfl ?_
        refine g_iald o (q := 43) kM_60 dX5_isSo_42 rfl h (fun j26 hjj26 h => ?_)
        refine g_istore o (q := 45) dX5_isSo_43 rfl (by decide) h (fun x27 => [(5, .int x27), (0, .ref (eA (xE X) 50)), (1, .int y1), (2, .int y2), (3, .int y3), (4, .int y4)]) (fun _ => rfl) (fun x27 h => ?_)
        refine g_iload o (q := 47) 0 rfl dX5_isSo_45 rfl ?_
        refine g_iconst o (v := (-1)) (q := 48) (by decide) dX5_isSo_47 rfl ?_
        refine g_icmp_eq o (tgt := 62) (q := 51) dX5_isSo_48 (by decide) rfl h (fun h => ?_) (fun h => ?_)
        · refine g_sub (lv' := [(0, .ref (eA (xE X) 50)), (1, .int y1), (2, .int y2), (4, .int y4)]) [1, 2, 3, 5] rfl ?_
          exact w_X5_isSo_J62 hres o hr ih  h
        · refine g_iload o (q := 53) 0 rfl dX5_isSo_51 rfl ?_
          refine g_aload_n o (q := 54) 1 rfl rfl dX5_isSo_53 rfl ?_
          refine g_iload_n o (q := 55) 3 rfl rfl dX5_isSo_54 rfl ?_
          refine g_iconst o (v := 3) (q := 56) (by decide) dX5_isSo_55 rfl ?_
          refine g_cvi o (q := 59) (As := [.int y2, .int 3]) (rest := [.int x27]) kv_X5_curtainIs lk_X5_98 kM_50 (by decide) rfl rfl rfl (fun _ _ hc => c_X5_curtainIs o.mk y2 3 hc) dX5_isSo_56 rfl ⟨rfl, rfl, Nat.le_of_ble_eq_true rfl, Nat.le_of_ble_eq_true rfl⟩ (Nat.le_of_ble_eq_true rfl) rfl h (fun r32 σ31 h => ?_)
          refine g_icmp_ne o (tgt := 66) (q := 62) dX5_isSo_59 (by decide) rfl h (fun h => ?_) (fun h => ?_)
          · refine g_iconst o (v := 0) (q := 67) (by decide) dX5_isSo_66 rfl ?_
            refine g_sub (lv' := [(0, .ref (eA (xE X) 50)), (1, .int y1), (2, .int y2), (4, .int y4)]) [1, 2, 3, 5] rfl ?_
            exact w_X5_isSo_J67 hres o hr ih  h
          · refine g_sub (lv' := [(0, .ref (eA (xE X) 50)), (1, .int y1), (2, .int y2), (4, .int y4)]) [1, 2, 3, 5] rfl ?_
            exact w_X5_isSo_J62 hres o hr ih  h
set_option maxRecDepth 100000 in
set_option maxHeartbeats 4000000 in
theorem w_X5_isSo {X : Cx} {l : Launch} {r : Int32} {σr : Mem} {res : Int32 × Mem} (hres : res = (r, σr)) (o : OK X cX5_isSo RX5 sdM 6 rm_X5_isSo l) (hr : RI X .boolean r σr) (x1 : Int32) (x2 : Int32)  {σ : Mem} (h : f_X5_isSo x1 x2 σ = some res) : G X σ 0 [(0, .ref (eA (xE X) 50)), (1, .int x1), (2, .int x2)] [] := by
  unfold f_X5_isSo at h
  refine g_aload_n o (q := 1) 0 rfl rfl dX5_isSo_0 rfl ?_
  refine gf_X5_0 o (q := 4) kM_50 lk_X5_9 dX5_isSo_1 rfl ?_
  refine g_aload_n o (q := 5) 0 rfl rfl dX5_isSo_4 rfl ?_
  refine gf_X5_2 o (q := 8) kM_50 lk_X5_16 dX5_isSo_5 rfl ?_
  refine g_csv o (q := 11) (As := [.ref (eA (xE X) 51), .ref (eA (xE X) 53)]) (rest := []) kv_X5_copyRow lk_X5_61 rfl (fun _ _ hc => c_X5_copyRow o.mk 51 53 kM_51 kM_53 hc) dX5_isSo_8 rfl ⟨rfl, rfl, Nat.le_of_ble_eq_true rfl, Nat.le_of_ble_eq_true rfl⟩ (Nat.le_of_ble_eq_true rfl) rfl h (fun _u21 σ21 h => ?_)
  refine g_iconst o (v := 1) (q := 12) (by decide) dX5_isSo_11 rfl ?_
  refine g_istore_n o (q := 13) dX5_isSo_12 rfl rfl (by decide) h (fun x22 => [(3, .int x22), (0, .ref (eA (xE X) 50)), (1, .int x1), (2, .int x2)]) (fun _ => rfl) (fun x22 h => ?_)
  refine g_iconst o (v := 0) (q := 14) (by decide) dX5_isSo_13 rfl ?_
  refine g_istore o (q := 16) dX5_isSo_14 rfl (by decide) h (fun x23 => [(4, .int x23), (3, .int x22), (0, .ref (eA (xE X) 50)), (1, .int x1), (2, .int x2)]) (fun _ => rfl) (fun x23 h => ?_)
  refine g_sub (lv' := [(0, .ref (eA (xE X) 50)), (1, .int x1), (2, .int x2), (3, .int x22), (4, .int x23)]) [2, 3, 4, 1, 0] rfl ?_
  exact w_X5_isSo_L16 hres o hr  FU x1 x2 x22 x23 σ21  h
theorem c_X5_isSo {l : Launch} {E : En} {mk : Mem → Mem} (hmk : MK mk sdM) (x1 : Int32) (x2 : Int32)  {σ : Mem} {r : Int32} {τ : Mem} (h : f_X5_isSo x1 x2 σ = some (r, τ)) : Met l yX5_isSo (Cond.code yX5_isSo cX5_isSo 6 (some .boolean) :: wt) rm_X5_isSo (PW E mk [.ref (eA E 50), .int x1, .int x2] σ) (QI E mk r τ) 0 0 (WA E) :=
  met_i (fun E => [.ref (eA E 50), .int x1, .int x2]) (by decide) hmk (Nat.le_of_ble_eq_true rfl) (fun X o hr => w_X5_isSo rfl o hr x1 x2  h)
set_option maxRecDepth 100000 in
set_option maxHeartbeats 4000000 in
theorem w_X5_fitting_J48 {X : Cx} {l : Launch} {r : Int32} {σr : Mem} {res : Int32 × Mem} (hres : res = (r, σr)) (o : OK X cX5_fitting RX5 sdM 8 rm_X5_fitting l) (hr : RI X .int r σr) {k14 : Int32 → Int32 → Int32 → Int32 → Int32 → Int32 → Int32 → Mem → Option (Int32 × Mem)} (hk14 : ∀ (y1 : Int32) (y2 : Int32) (y3 : Int32) (y4 : Int32) (y5 : Int32) (y6 : Int32) (y7 : Int32) (σ : Mem), k14 y1 y2 y3 y4 y5 y6 y7 σ = some res → G X σ 14 [(0, .ref (eA (xE X) 50)), (1, .int y1), (2, .int y2), (3, .int y3), (4, .int y4), (5, .int y5), (6, .int y6), (7, .int y7)] []) {y1 : Int32} {y2 : Int32} {y3 : Int32} {y4 : Int32} {y5 : Int32} {y7 : Int32} {s0 : Int32} {s1 : Int32}  {σ : Mem} (h : f_X5_fitting_J48 k14 y1 y2 y3 y4 y5 y7 s0 s1 σ = some res) : G X σ 48 [(0, .ref (eA (xE X) 50)), (1, .int y1), (2, .int y2), (3, .int y3), (4, .int y4), (5, .int y5), (7, .int y7)] [.int s1, .int s0] := by
  unfold f_X5_fitting_J48 at h
  refine g_ior o (q := 49) dX5_fitting_48 rfl ?_
  refine g_istore o (q := 51) dX5_fitting_49 rfl (by decide) h (fun x31 => [(6, .int x31), (0, .ref (eA (xE X) 50)), (1, .int y1), (2, .int y2), (3, .int y3), (4, .int y4), (5, .int y5), (7, .int y7)]) (fun _ => rfl) (fun x31 h => ?_)
  refine g_iinc o (q := 54) (dn := 1) dX5_fitting_51 rfl 7 rfl (by decide) (by decide) h (fun x32 => [(7, .int x32), (6, .int x31), (0, .ref (eA (xE X) 50)), (1, .int y1), (2, .int y2), (3, .int y3), (4, .int y4), (5, .int y5)]) (fun _ => rfl) (fun x32 h => ?_)
  refine g_goto o (tgt := 14) dX5_fitting_54 (by decide) ?_
  refine g_sub (lv' := [(0, .ref (eA (xE X) 50)), (1, .int y1), (2, .int y2), (3, .int y3), (4, .int y4), (5, .int y5), (6, .int x31), (7, .int x32)]) [2, 3, 4, 5, 6, 7, 1, 0] rfl ?_
  exact hk14 y1 y2 y3 y4 y5 x31 x32 σ  h
set_option maxRecDepth 100000 in
set_option maxHeartbeats 4000000 in
theorem w_X5_fitting_L14 {X : Cx} {l : Launch} {r : Int32} {σr : Mem} {res : Int32 × Mem} (hres : res = (r, σr)) (o : OK X cX5_fitting RX5 sdM 8 rm_X5_fitting l) (hr : RI X .int r σr)   : ∀ (n : Nat) (y1 : Int32) (y2 : Int32) (y3 : Int32) (y4 : Int32) (y5 : Int32) (y6 : Int32) (y7 : Int32) (σ : Mem), f_X5_fitting_L14  n y1 y2 y3 y4 y5 y6 y7 σ = some res → G X σ 14 [(0, .ref (eA (xE X) 50)), (1, .int y1), (2, .int y2), (3, .int y3), (4, .int y4), (5, .int y5), (6, .int y6), (7, .int y7)] [] := by
  intro n
  induction n with
  | zero => intro y1 y2 y3 y4 y5 y6 y7 σ  h; cases h
  | succ n ih =>
    intro y1 y2 y3 y4 y5 y6 y7 σ  h
    rw [f_X5_fitting_L14_s] at h
    refine g_iload o (q := 16) 7 rfl dX5_fitting_14 rfl ?_
    refine g_iload o (q := 18) 4 rfl dX5_fitting_16 rfl ?_
    refine g_icmp_ge o (tgt := 57) (q := 21) dX5_fitting_18 (by decide) rfl h (fun h => ?_) (fun h => ?_)
    · refine g_aload_n o (q := 58) 0 rfl rfl dX5_fitting_57 rfl ?_
      refine gf_X5_0 o (q := 61) kM_50 lk_X5_9 dX5_fitting_58 rfl ?_
      refine g_iload_n o (q := 62) 3 rfl rfl dX5_fitting_61 rfl ?_
      refine g_iload o (q := 64) 5 rfl dX5_fitting_62 rfl ?_
      refine g_iast o (q := 65) kM_51 dX5_fitting_64 rfl h (fun j25 σ26 h => ?_)
      refine g_iload o (q := 67) 6 rfl dX5_fitting_65 rfl ?_
      exact g_iret o hr (h.trans (congrArg some hres)) rfl dX5_fitting_67
    · refine g_aload_n o (q := 22) 0 rfl rfl dX5_fitting_21 rfl ?_
      refine gf_X5_0 o (q := 25) kM_50 lk_X5_9 dX5_fitting_22 rfl ?_
      refine g_iload_n o (q := 26) 3 rfl rfl dX5_fitting_25 rfl ?_
      refine g_iload o (q := 28) 7 rfl dX5_fitting_26 rfl ?_
      refine g_iast o (q := 29) kM_51 dX5_fitting_28 rfl h (fun j27 σ28 h => ?_)
      refine g_iload o (q := 31) 6 rfl dX5_fitting_29 rfl ?_
      refine g_aload_n o (q := 32) 0 rfl rfl dX5_fitting_31 rfl ?_
      refine g_iload_n o (q := 33) 1 rfl rfl dX5_fitting_32 rfl ?_
      refine g_iload_n o (q := 34) 2 rfl rfl dX5_fitting_33 rfl ?_
      refine g_cvi o (q := 37) (As := [.int y1, .int y2]) (rest := [.int y6]) kv_X5_isSo lk_X5_212 kM_50 (by decide) rfl rfl rfl (fun _ _ hc => c_X5_isSo o.mk y1 y2 hc) dX5_fitting_34 rfl ⟨rfl, rfl, Nat.le_of_ble_eq_true rfl, Nat.le_of_ble_eq_true rfl⟩ (Nat.le_of_ble_eq_true rfl) rfl h (fun r30 σ29 h => ?_)
      refine g_if_eq o (tgt := 47) (q := 40) dX5_fitting_37 (by decide) rfl h (fun h => ?_) (fun h => ?_)
      · refine g_iconst o (v := 0) (q := 48) (by decide) dX5_fitting_47 rfl ?_
        refine g_sub (lv' := [(0, .ref (eA (xE X) 50)), (1, .int y1), (2, .int y2), (3, .int y3), (4, .int y4), (5, .int y5), (7, .int y7)]) [0, 1, 2, 3, 4, 5, 7] rfl ?_
        exact w_X5_fitting_J48 hres o hr ih  h
      · refine g_iconst o (v := 1) (q := 41) (by decide) dX5_fitting_40 rfl ?_
        refine g_iload o (q := 43) 7 rfl dX5_fitting_41 rfl ?_
        refine g_ishl o (q := 44) dX5_fitting_43 rfl ?_
        refine g_goto o (tgt := 48) dX5_fitting_44 (by decide) ?_
        refine g_sub (lv' := [(0, .ref (eA (xE X) 50)), (1, .int y1), (2, .int y2), (3, .int y3), (4, .int y4), (5, .int y5), (7, .int y7)]) [0, 1, 2, 3, 4, 5, 7] rfl ?_
        exact w_X5_fitting_J48 hres o hr ih  h
set_option maxRecDepth 100000 in
set_option maxHeartbeats 4000000 in
theorem w_X5_fitting {X : Cx} {l : Launch} {r : Int32} {σr : Mem} {res : Int32 × Mem} (hres : res = (r, σr)) (o : OK X cX5_fitting RX5 sdM 8 rm_X5_fitting l) (hr : RI X .int r σr) (x1 : Int32) (x2 : Int32) (x3 : Int32) (x4 : Int32)  {σ : Mem} (h : f_X5_fitting x1 x2 x3 x4 σ = some res) : G X σ 0 [(0, .ref (eA (xE X) 50)), (1, .int x1), (2, .int x2), (3, .int x3), (4, .int x4)] [] := by
  unfold f_X5_fitting at h
  refine g_aload_n o (q := 1) 0 rfl rfl dX5_fitting_0 rfl ?_
  refine gf_X5_0 o (q := 4) kM_50 lk_X5_9 dX5_fitting_1 rfl ?_
  refine g_iload_n o (q := 5) 3 rfl rfl dX5_fitting_4 rfl ?_
  refine g_iald o (q := 6) kM_51 dX5_fitting_5 rfl h (fun j21 hjj21 h => ?_)
  refine g_istore o (q := 8) dX5_fitting_6 rfl (by decide) h (fun x22 => [(5, .int x22), (0, .ref (eA (xE X) 50)), (1, .int x1), (2, .int x2), (3, .int x3), (4, .int x4)]) (fun _ => rfl) (fun x22 h => ?_)
  refine g_iconst o (v := 0) (q := 9) (by decide) dX5_fitting_8 rfl ?_
  refine g_istore o (q := 11) dX5_fitting_9 rfl (by decide) h (fun x23 => [(6, .int x23), (5, .int x22), (0, .ref (eA (xE X) 50)), (1, .int x1), (2, .int x2), (3, .int x3), (4, .int x4)]) (fun _ => rfl) (fun x23 h => ?_)
  refine g_iconst o (v := 0) (q := 12) (by decide) dX5_fitting_11 rfl ?_
  refine g_istore o (q := 14) dX5_fitting_12 rfl (by decide) h (fun x24 => [(7, .int x24), (6, .int x23), (5, .int x22), (0, .ref (eA (xE X) 50)), (1, .int x1), (2, .int x2), (3, .int x3), (4, .int x4)]) (fun _ => rfl) (fun x24 h => ?_)
  refine g_sub (lv' := [(0, .ref (eA (xE X) 50)), (1, .int x1), (2, .int x2), (3, .int x3), (4, .int x4), (5, .int x22), (6, .int x23), (7, .int x24)]) [3, 4, 5, 6, 7, 2, 1, 0] rfl ?_
  exact w_X5_fitting_L14 hres o hr  FU x1 x2 x3 x4 x22 x23 x24 σ  h
theorem c_X5_fitting {l : Launch} {E : En} {mk : Mem → Mem} (hmk : MK mk sdM) (x1 : Int32) (x2 : Int32) (x3 : Int32) (x4 : Int32)  {σ : Mem} {r : Int32} {τ : Mem} (h : f_X5_fitting x1 x2 x3 x4 σ = some (r, τ)) : Met l yX5_fitting (Cond.code yX5_fitting cX5_fitting 8 (some .int) :: wt) rm_X5_fitting (PW E mk [.ref (eA E 50), .int x1, .int x2, .int x3, .int x4] σ) (QI E mk r τ) 0 0 (WA E) :=
  met_i (fun E => [.ref (eA E 50), .int x1, .int x2, .int x3, .int x4]) (by decide) hmk (Nat.le_of_ble_eq_true rfl) (fun X o hr => w_X5_fitting rfl o hr x1 x2 x3 x4  h)
set_option maxRecDepth 100000 in
set_option maxHeartbeats 4000000 in
theorem w_X5_fits {X : Cx} {l : Launch} {r : Int32} {σr : Mem} {res : Int32 × Mem} (hres : res = (r, σr)) (o : OK X cX5_fits RX5 sdM 4 rm_X5_fits l) (hr : RI X .int r σr) (x1 : Int32) (x2 : Int32)  {σ : Mem} (h : f_X5_fits x1 x2 σ = some res) : G X σ 0 [(0, .ref (eA (xE X) 50)), (1, .int x1), (2, .int x2)] [] := by
  unfold f_X5_fits at h
  refine g_aload_n o (q := 1) 0 rfl rfl dX5_fits_0 rfl ?_
  refine g_iload_n o (q := 2) 1 rfl rfl dX5_fits_1 rfl ?_
  refine g_aload_n o (q := 3) 0 rfl rfl dX5_fits_2 rfl ?_
  refine g_iload_n o (q := 4) 2 rfl rfl dX5_fits_3 rfl ?_
  refine g_cvi o (q := 7) (As := [.int x2]) (rest := [.int x1, .ref (eA (xE X) 50)]) kv_X5_isCurtain lk_X5_123 kM_50 (by decide) rfl rfl rfl (fun _ _ hc => c_X5_isCurtain o.mk x2 hc) dX5_fits_4 rfl ⟨rfl, rfl, Nat.le_of_ble_eq_true rfl, Nat.le_of_ble_eq_true rfl⟩ (Nat.le_of_ble_eq_true rfl) rfl h (fun r22 σ21 h => ?_)
  refine g_cvi o (q := 10) (As := [.int x1, .int r22]) (rest := []) kv_X5_lacks lk_X5_215 kM_50 (by decide) rfl rfl rfl (fun _ _ hc => c_X5_lacks o.mk x1 r22 hc) dX5_fits_7 rfl ⟨rfl, rfl, Nat.le_of_ble_eq_true rfl, Nat.le_of_ble_eq_true rfl⟩ (Nat.le_of_ble_eq_true rfl) rfl h (fun r24 σ23 h => ?_)
  refine g_istore_n o (q := 11) dX5_fits_10 rfl rfl (by decide) h (fun x25 => [(3, .int x25), (0, .ref (eA (xE X) 50)), (1, .int x1), (2, .int x2)]) (fun _ => rfl) (fun x25 h => ?_)
  refine g_iload_n o (q := 12) 0 rfl rfl dX5_fits_11 rfl ?_
  refine g_if_eq o (tgt := 23) (q := 15) dX5_fits_12 (by decide) rfl h (fun h => ?_) (fun h => ?_)
  · refine g_aload_n o (q := 24) 1 rfl rfl dX5_fits_23 rfl ?_
    refine g_iload_n o (q := 25) 2 rfl rfl dX5_fits_24 rfl ?_
    refine g_iload_n o (q := 26) 3 rfl rfl dX5_fits_25 rfl ?_
    refine g_aload_n o (q := 27) 1 rfl rfl dX5_fits_26 rfl ?_
    refine g_cvi o (q := 30) (As := []) (rest := [.int x2, .int x1, .ref (eA (xE X) 50)]) kv_X5_placeNow lk_X5_107 kM_50 (by decide) rfl rfl rfl (fun _ _ hc => c_X5_placeNow o.mk  hc) dX5_fits_27 rfl ⟨rfl, rfl, Nat.le_of_ble_eq_true rfl, Nat.le_of_ble_eq_true rfl⟩ (Nat.le_of_ble_eq_true rfl) rfl h (fun r27 σ26 h => ?_)
    refine g_bipush o (v := 12) (q := 32) (by decide) dX5_fits_30 rfl ?_
    refine g_cvi o (q := 35) (As := [.int x1, .int x2, .int r27, .int 12]) (rest := []) kv_X5_fitting lk_X5_219 kM_50 (by decide) rfl rfl rfl (fun _ _ hc => c_X5_fitting o.mk x1 x2 r27 12 hc) dX5_fits_32 rfl ⟨rfl, rfl, Nat.le_of_ble_eq_true rfl, Nat.le_of_ble_eq_true rfl⟩ (Nat.le_of_ble_eq_true rfl) rfl h (fun r29 σ28 h => ?_)
    exact g_iret o hr (h.trans (congrArg some hres)) rfl dX5_fits_35
  · refine g_aload_n o (q := 16) 1 rfl rfl dX5_fits_15 rfl ?_
    refine g_iload_n o (q := 17) 0 rfl rfl dX5_fits_16 rfl ?_
    refine g_cvi o (q := 20) (As := [.int x25]) (rest := []) kv_X5_finding lk_X5_66 kM_50 (by decide) rfl rfl rfl (fun _ _ hc => c_X5_finding o.mk x25 hc) dX5_fits_17 rfl ⟨rfl, rfl, Nat.le_of_ble_eq_true rfl, Nat.le_of_ble_eq_true rfl⟩ (Nat.le_of_ble_eq_true rfl) rfl h (fun r31 σ30 h => ?_)
    refine g_goto o (tgt := 35) dX5_fits_20 (by decide) ?_
    exact g_iret o hr (h.trans (congrArg some hres)) rfl dX5_fits_35
theorem c_X5_fits {l : Launch} {E : En} {mk : Mem → Mem} (hmk : MK mk sdM) (x1 : Int32) (x2 : Int32)  {σ : Mem} {r : Int32} {τ : Mem} (h : f_X5_fits x1 x2 σ = some (r, τ)) : Met l yX5_fits (Cond.code yX5_fits cX5_fits 4 (some .int) :: wt) rm_X5_fits (PW E mk [.ref (eA E 50), .int x1, .int x2] σ) (QI E mk r τ) 0 0 (WA E) :=
  met_i (fun E => [.ref (eA E 50), .int x1, .int x2]) (by decide) hmk (Nat.le_of_ble_eq_true rfl) (fun X o hr => w_X5_fits rfl o hr x1 x2  h)
set_option maxRecDepth 100000 in
set_option maxHeartbeats 4000000 in
theorem w_X5_kinds {X : Cx} {l : Launch} {r : Int32} {σr : Mem} {res : Int32 × Mem} (hres : res = (r, σr)) (o : OK X cX5_kinds RX5 sdM 4 rm_X5_kinds l) (hr : RI X .int r σr) (x1 : Int32) (x2 : Int32)  {σ : Mem} (h : f_X5_kinds x1 x2 σ = some res) : G X σ 0 [(0, .ref (eA (xE X) 50)), (1, .int x1), (2, .int x2)] [] := by
  unfold f_X5_kinds at h
  refine g_aload_n o (q := 1) 0 rfl rfl dX5_kinds_0 rfl ?_
  refine g_iload_n o (q := 2) 1 rfl rfl dX5_kinds_1 rfl ?_
  refine g_aload_n o (q := 3) 0 rfl rfl dX5_kinds_2 rfl ?_
  refine g_iload_n o (q := 4) 2 rfl rfl dX5_kinds_3 rfl ?_
  refine g_cvi o (q := 7) (As := [.int x2]) (rest := [.int x1, .ref (eA (xE X) 50)]) kv_X5_isCurtain lk_X5_123 kM_50 (by decide) rfl rfl rfl (fun _ _ hc => c_X5_isCurtain o.mk x2 hc) dX5_kinds_4 rfl ⟨rfl, rfl, Nat.le_of_ble_eq_true rfl, Nat.le_of_ble_eq_true rfl⟩ (Nat.le_of_ble_eq_true rfl) rfl h (fun r22 σ21 h => ?_)
  refine g_cvi o (q := 10) (As := [.int x1, .int r22]) (rest := []) kv_X5_lacks lk_X5_215 kM_50 (by decide) rfl rfl rfl (fun _ _ hc => c_X5_lacks o.mk x1 r22 hc) dX5_kinds_7 rfl ⟨rfl, rfl, Nat.le_of_ble_eq_true rfl, Nat.le_of_ble_eq_true rfl⟩ (Nat.le_of_ble_eq_true rfl) rfl h (fun r24 σ23 h => ?_)
  refine g_istore_n o (q := 11) dX5_kinds_10 rfl rfl (by decide) h (fun x25 => [(3, .int x25), (0, .ref (eA (xE X) 50)), (1, .int x1), (2, .int x2)]) (fun _ => rfl) (fun x25 h => ?_)
  refine g_iload_n o (q := 12) 0 rfl rfl dX5_kinds_11 rfl ?_
  refine g_if_eq o (tgt := 23) (q := 15) dX5_kinds_12 (by decide) rfl h (fun h => ?_) (fun h => ?_)
  · refine g_aload_n o (q := 24) 1 rfl rfl dX5_kinds_23 rfl ?_
    refine g_iload_n o (q := 25) 2 rfl rfl dX5_kinds_24 rfl ?_
    refine g_iload_n o (q := 26) 3 rfl rfl dX5_kinds_25 rfl ?_
    refine g_iload_n o (q := 27) 3 rfl rfl dX5_kinds_26 rfl ?_
    refine g_iconst o (v := 0) (q := 28) (by decide) dX5_kinds_27 rfl ?_
    refine g_csi o (q := 31) (As := [.int x2, .int 0]) (rest := [.int x2, .int x1, .ref (eA (xE X) 50)]) kv_X5_curtainAt lk_X5_85 rfl (fun _ _ hc => c_X5_curtainAt o.mk x2 0 hc) dX5_kinds_28 rfl ⟨rfl, rfl, Nat.le_of_ble_eq_true rfl, Nat.le_of_ble_eq_true rfl⟩ (Nat.le_of_ble_eq_true rfl) rfl h (fun r27 σ26 h => ?_)
    refine g_bipush o (v := 7) (q := 33) (by decide) dX5_kinds_31 rfl ?_
    refine g_cvi o (q := 36) (As := [.int x1, .int x2, .int r27, .int 7]) (rest := []) kv_X5_fitting lk_X5_219 kM_50 (by decide) rfl rfl rfl (fun _ _ hc => c_X5_fitting o.mk x1 x2 r27 7 hc) dX5_kinds_33 rfl ⟨rfl, rfl, Nat.le_of_ble_eq_true rfl, Nat.le_of_ble_eq_true rfl⟩ (Nat.le_of_ble_eq_true rfl) rfl h (fun r29 σ28 h => ?_)
    exact g_iret o hr (h.trans (congrArg some hres)) rfl dX5_kinds_36
  · refine g_aload_n o (q := 16) 1 rfl rfl dX5_kinds_15 rfl ?_
    refine g_iload_n o (q := 17) 0 rfl rfl dX5_kinds_16 rfl ?_
    refine g_cvi o (q := 20) (As := [.int x25]) (rest := []) kv_X5_finding lk_X5_66 kM_50 (by decide) rfl rfl rfl (fun _ _ hc => c_X5_finding o.mk x25 hc) dX5_kinds_17 rfl ⟨rfl, rfl, Nat.le_of_ble_eq_true rfl, Nat.le_of_ble_eq_true rfl⟩ (Nat.le_of_ble_eq_true rfl) rfl h (fun r31 σ30 h => ?_)
    refine g_goto o (tgt := 36) dX5_kinds_20 (by decide) ?_
    exact g_iret o hr (h.trans (congrArg some hres)) rfl dX5_kinds_36
theorem c_X5_kinds {l : Launch} {E : En} {mk : Mem → Mem} (hmk : MK mk sdM) (x1 : Int32) (x2 : Int32)  {σ : Mem} {r : Int32} {τ : Mem} (h : f_X5_kinds x1 x2 σ = some (r, τ)) : Met l yX5_kinds (Cond.code yX5_kinds cX5_kinds 4 (some .int) :: wt) rm_X5_kinds (PW E mk [.ref (eA E 50), .int x1, .int x2] σ) (QI E mk r τ) 0 0 (WA E) :=
  met_i (fun E => [.ref (eA E 50), .int x1, .int x2]) (by decide) hmk (Nat.le_of_ble_eq_true rfl) (fun X o hr => w_X5_kinds rfl o hr x1 x2  h)
set_option maxRecDepth 100000 in
set_option maxHeartbeats 4000000 in
theorem w_X5_drawn {X : Cx} {l : Launch} {r : Int32} {σr : Mem} {res : Int32 × Mem} (hres : res = (r, σr)) (o : OK X cX5_drawn RX5 sdM 1 rm_X5_drawn l) (hr : RI X .int r σr)   {σ : Mem} (h : f_X5_drawn  σ = some res) : G X σ 0 [(0, .ref (eA (xE X) 50))] [] := by
  unfold f_X5_drawn at h
  refine g_aload_n o (q := 1) 0 rfl rfl dX5_drawn_0 rfl ?_
  refine gf_X5_0 o (q := 4) kM_50 lk_X5_9 dX5_drawn_1 rfl ?_
  refine g_iconst o (v := 2) (q := 5) (by decide) dX5_drawn_4 rfl ?_
  refine g_aload_n o (q := 6) 0 rfl rfl dX5_drawn_5 rfl ?_
  refine gf_X5_0 o (q := 9) kM_50 lk_X5_9 dX5_drawn_6 rfl ?_
  refine g_iconst o (v := 2) (q := 10) (by decide) dX5_drawn_9 rfl ?_
  refine g_iald o (q := 11) kM_51 dX5_drawn_10 rfl h (fun j21 hjj21 h => ?_)
  refine g_ldc o (q := 13) lk_X5_223 dX5_drawn_11 rfl ?_
  refine g_imul o (q := 14) dX5_drawn_13 rfl ?_
  refine g_sipush o (v := 12345) (q := 17) (by decide) dX5_drawn_14 rfl ?_
  refine g_iadd o (q := 18) dX5_drawn_17 rfl ?_
  refine g_iast o (q := 19) kM_51 dX5_drawn_18 rfl h (fun j22 σ23 h => ?_)
  refine g_aload_n o (q := 20) 0 rfl rfl dX5_drawn_19 rfl ?_
  refine gf_X5_0 o (q := 23) kM_50 lk_X5_9 dX5_drawn_20 rfl ?_
  refine g_iconst o (v := 2) (q := 24) (by decide) dX5_drawn_23 rfl ?_
  refine g_iald o (q := 25) kM_51 dX5_drawn_24 rfl h (fun j24 hjj24 h => ?_)
  refine g_bipush o (v := 8) (q := 27) (by decide) dX5_drawn_25 rfl ?_
  refine g_iushr o (q := 28) dX5_drawn_27 rfl ?_
  exact g_iret o hr (h.trans (congrArg some hres)) rfl dX5_drawn_28
theorem c_X5_drawn {l : Launch} {E : En} {mk : Mem → Mem} (hmk : MK mk sdM)   {σ : Mem} {r : Int32} {τ : Mem} (h : f_X5_drawn  σ = some (r, τ)) : Met l yX5_drawn (Cond.code yX5_drawn cX5_drawn 1 (some .int) :: wt) rm_X5_drawn (PW E mk [.ref (eA E 50)] σ) (QI E mk r τ) 0 0 (WA E) :=
  met_i (fun E => [.ref (eA E 50)]) (by decide) hmk (Nat.le_of_ble_eq_true rfl) (fun X o hr => w_X5_drawn rfl o hr   h)
set_option maxRecDepth 100000 in
set_option maxHeartbeats 4000000 in
theorem w_X5_evening_J97 {X : Cx} {l : Launch} {r : Int32} {σr : Mem} {res : Int32 × Mem} (hres : res = (r, σr)) (o : OK X cX5_evening RX5 sdM 5 rm_X5_evening l) (hr : RI X .int r σr) {k39 : Int32 → Int32 → Mem → Option (Int32 × Mem)} (hk39 : ∀ (y1 : Int32) (y2 : Int32) (σ : Mem), k39 y1 y2 σ = some res → G X σ 39 [(0, .ref (eA (xE X) 50)), (1, .int y1), (2, .int y2)] []) {y1 : Int32} {y2 : Int32}  {σ : Mem} (h : f_X5_evening_J97 k39 y1 y2 σ = some res) : G X σ 97 [(0, .ref (eA (xE X) 50)), (1, .int y1), (2, .int y2)] [] := by
  unfold f_X5_evening_J97 at h
  refine g_aload_n o (q := 98) 0 rfl rfl dX5_evening_97 rfl ?_
  refine g_cvv o (q := 101) (As := []) (rest := []) kv_X5_beat lk_X5_164 kM_50 (by decide) rfl rfl rfl (fun _ _ hc => c_X5_beat o.mk  hc) dX5_evening_98 rfl ⟨rfl, rfl, Nat.le_of_ble_eq_true rfl, Nat.le_of_ble_eq_true rfl⟩ (Nat.le_of_ble_eq_true rfl) rfl h (fun _u38 σ38 h => ?_)
  refine g_iinc o (q := 104) (dn := 1) dX5_evening_101 rfl 2 rfl (by decide) (by decide) h (fun x39 => [(2, .int x39), (0, .ref (eA (xE X) 50)), (1, .int y1)]) (fun _ => rfl) (fun x39 h => ?_)
  refine g_goto o (tgt := 39) dX5_evening_104 (by decide) ?_
  refine g_sub (lv' := [(0, .ref (eA (xE X) 50)), (1, .int y1), (2, .int x39)]) [1, 2, 0] rfl ?_
  exact hk39 y1 x39 σ38  h
set_option maxRecDepth 100000 in
set_option maxHeartbeats 4000000 in
theorem w_X5_evening_L39 {X : Cx} {l : Launch} {r : Int32} {σr : Mem} {res : Int32 × Mem} (hres : res = (r, σr)) (o : OK X cX5_evening RX5 sdM 5 rm_X5_evening l) (hr : RI X .int r σr)   : ∀ (n : Nat) (y1 : Int32) (y2 : Int32) (σ : Mem), f_X5_evening_L39  n y1 y2 σ = some res → G X σ 39 [(0, .ref (eA (xE X) 50)), (1, .int y1), (2, .int y2)] [] := by
  intro n
  induction n with
  | zero => intro y1 y2 σ  h; cases h
  | succ n ih =>
    intro y1 y2 σ  h
    rw [f_X5_evening_L39_s] at h
    refine g_iload_n o (q := 40) 2 rfl rfl dX5_evening_39 rfl ?_
    refine g_iload_n o (q := 41) 1 rfl rfl dX5_evening_40 rfl ?_
    refine g_icmp_ge o (tgt := 107) (q := 44) dX5_evening_41 (by decide) rfl h (fun h => ?_) (fun h => ?_)
    · refine g_aload_n o (q := 108) 0 rfl rfl dX5_evening_107 rfl ?_
      refine gf_X5_0 o (q := 111) kM_50 lk_X5_9 dX5_evening_108 rfl ?_
      refine g_iconst o (v := 4) (q := 112) (by decide) dX5_evening_111 rfl ?_
      refine g_iald o (q := 113) kM_51 dX5_evening_112 rfl h (fun j25 hjj25 h => ?_)
      exact g_iret o hr (h.trans (congrArg some hres)) rfl dX5_evening_113
    · refine g_aload_n o (q := 45) 0 rfl rfl dX5_evening_44 rfl ?_
      refine g_cvi o (q := 48) (As := []) (rest := []) kv_X5_drawn lk_X5_224 kM_50 (by decide) rfl rfl rfl (fun _ _ hc => c_X5_drawn o.mk  hc) dX5_evening_45 rfl ⟨rfl, rfl, Nat.le_of_ble_eq_true rfl, Nat.le_of_ble_eq_true rfl⟩ (Nat.le_of_ble_eq_true rfl) rfl h (fun r27 σ26 h => ?_)
      refine g_bipush o (v := 12) (q := 50) (by decide) dX5_evening_48 rfl ?_
      refine g_irem o (q := 51) (by decide) dX5_evening_50 rfl ?_
      refine g_istore_n o (q := 52) dX5_evening_51 rfl rfl (by decide) h (fun x28 => [(3, .int x28), (0, .ref (eA (xE X) 50)), (1, .int y1), (2, .int y2)]) (fun _ => rfl) (fun x28 h => ?_)
      refine g_aload_n o (q := 53) 1 rfl rfl dX5_evening_52 rfl ?_
      refine gf_X5_0 o (q := 56) kM_50 lk_X5_9 dX5_evening_53 rfl ?_
      refine g_aload_n o (q := 57) 1 rfl rfl dX5_evening_56 rfl ?_
      refine g_cvi o (q := 60) (As := []) (rest := [.ref (eA (xE X) 51)]) kv_X5_placeNow lk_X5_107 kM_50 (by decide) rfl rfl rfl (fun _ _ hc => c_X5_placeNow o.mk  hc) dX5_evening_57 rfl ⟨rfl, rfl, Nat.le_of_ble_eq_true rfl, Nat.le_of_ble_eq_true rfl⟩ (Nat.le_of_ble_eq_true rfl) rfl h (fun r30 σ29 h => ?_)
      refine g_iload_n o (q := 61) 0 rfl rfl dX5_evening_60 rfl ?_
      refine g_iast o (q := 62) kM_51 dX5_evening_61 rfl h (fun j31 σ32 h => ?_)
      refine g_aload_n o (q := 63) 1 rfl rfl dX5_evening_62 rfl ?_
      refine g_cvi o (q := 66) (As := []) (rest := []) kv_X5_drawn lk_X5_224 kM_50 (by decide) rfl rfl rfl (fun _ _ hc => c_X5_drawn o.mk  hc) dX5_evening_63 rfl ⟨rfl, rfl, Nat.le_of_ble_eq_true rfl, Nat.le_of_ble_eq_true rfl⟩ (Nat.le_of_ble_eq_true rfl) rfl h (fun r34 σ33 h => ?_)
      refine g_bipush o (v := 8) (q := 68) (by decide) dX5_evening_66 rfl ?_
      refine g_irem o (q := 69) (by decide) dX5_evening_68 rfl ?_
      refine g_istore o (q := 71) dX5_evening_69 rfl (by decide) h (fun x35 => [(4, .int x35), (3, .int x28), (0, .ref (eA (xE X) 50)), (1, .int y1), (2, .int y2)]) (fun _ => rfl) (fun x35 h => ?_)
      refine g_aload_n o (q := 72) 2 rfl rfl dX5_evening_71 rfl ?_
      refine g_iload o (q := 74) 0 rfl dX5_evening_72 rfl ?_
      refine g_cvi o (q := 77) (As := [.int x35]) (rest := []) kv_X5_isCurtain lk_X5_123 kM_50 (by decide) rfl rfl rfl (fun _ _ hc => c_X5_isCurtain o.mk x35 hc) dX5_evening_74 rfl ⟨rfl, rfl, Nat.le_of_ble_eq_true rfl, Nat.le_of_ble_eq_true rfl⟩ (Nat.le_of_ble_eq_true rfl) rfl h (fun r37 σ36 h => ?_)
      refine g_if_eq o (tgt := 97) (q := 80) dX5_evening_77 (by decide) rfl h (fun h => ?_) (fun h => ?_)
      · refine g_sub (lv' := [(0, .ref (eA (xE X) 50)), (1, .int y1), (2, .int y2)]) [2, 3, 4] rfl ?_
        exact w_X5_evening_J97 hres o hr ih  h
      · refine g_aload_n o (q := 81) 2 rfl rfl dX5_evening_80 rfl ?_
        refine gf_X5_0 o (q := 84) kM_50 lk_X5_9 dX5_evening_81 rfl ?_
        refine g_iload o (q := 86) 0 rfl dX5_evening_84 rfl ?_
        refine g_iconst o (v := 2) (q := 87) (by decide) dX5_evening_86 rfl ?_
        refine g_csi o (q := 90) (As := [.int x35, .int 2]) (rest := [.ref (eA (xE X) 51)]) kv_X5_curtainAt lk_X5_85 rfl (fun _ _ hc => c_X5_curtainAt o.mk x35 2 hc) dX5_evening_87 rfl ⟨rfl, rfl, Nat.le_of_ble_eq_true rfl, Nat.le_of_ble_eq_true rfl⟩ (Nat.le_of_ble_eq_true rfl) rfl h (fun r41 σ40 h => ?_)
        refine g_dup2 o (q := 91) rfl rfl dX5_evening_90 rfl ?_
        refine g_iald o (q := 92) kM_51 dX5_evening_91 rfl h (fun j42 hjj42 h => ?_)
        refine g_iconst o (v := 1) (q := 93) (by decide) dX5_evening_92 rfl ?_
        refine g_iload_n o (q := 94) 1 rfl rfl dX5_evening_93 rfl ?_
        refine g_ishl o (q := 95) dX5_evening_94 rfl ?_
        refine g_ixor o (q := 96) dX5_evening_95 rfl ?_
        refine g_iast o (q := 97) kM_51 dX5_evening_96 rfl h (fun j43 σ44 h => ?_)
        refine g_sub (lv' := [(0, .ref (eA (xE X) 50)), (1, .int y1), (2, .int y2)]) [2, 3, 4] rfl ?_
        exact w_X5_evening_J97 hres o hr ih  h
set_option maxRecDepth 100000 in
set_option maxHeartbeats 4000000 in
theorem w_X5_evening {X : Cx} {l : Launch} {r : Int32} {σr : Mem} {res : Int32 × Mem} (hres : res = (r, σr)) (o : OK X cX5_evening RX5 sdM 5 rm_X5_evening l) (hr : RI X .int r σr) (x1 : Int32)  {σ : Mem} (h : f_X5_evening x1 σ = some res) : G X σ 0 [(0, .ref (eA (xE X) 50)), (1, .int x1)] [] := by
  unfold f_X5_evening at h
  refine g_iload_n o (q := 1) 1 rfl rfl dX5_evening_0 rfl ?_
  refine g_iconst o (v := 1) (q := 2) (by decide) dX5_evening_1 rfl ?_
  refine g_bipush o (v := 20) (q := 4) (by decide) dX5_evening_2 rfl ?_
  refine g_csi o (q := 7) (As := [.int x1, .int 1, .int 20]) (rest := []) kv_X5_within lk_X5_70 rfl (fun _ _ hc => c_X5_within o.mk x1 1 20 hc) dX5_evening_4 rfl ⟨rfl, rfl, Nat.le_of_ble_eq_true rfl, Nat.le_of_ble_eq_true rfl⟩ (Nat.le_of_ble_eq_true rfl) rfl h (fun r22 σ21 h => ?_)
  refine g_if_ne o (tgt := 17) (q := 10) dX5_evening_7 (by decide) rfl h (fun h => ?_) (fun h => ?_)
  · refine g_aload_n o (q := 18) 0 rfl rfl dX5_evening_17 rfl ?_
    refine gf_X5_0 o (q := 21) kM_50 lk_X5_9 dX5_evening_18 rfl ?_
    refine g_iconst o (v := 0) (q := 22) (by decide) dX5_evening_21 rfl ?_
    refine g_iald o (q := 23) kM_51 dX5_evening_22 rfl h (fun j23 hjj23 h => ?_)
    refine g_iload_n o (q := 24) 1 rfl rfl dX5_evening_23 rfl ?_
    refine g_iadd o (q := 25) dX5_evening_24 rfl ?_
    refine g_ldc o (q := 27) lk_X5_156 dX5_evening_25 rfl ?_
    refine g_icmp_le o (tgt := 37) (q := 30) dX5_evening_27 (by decide) rfl h (fun h => ?_) (fun h => ?_)
    · refine g_iconst o (v := 0) (q := 38) (by decide) dX5_evening_37 rfl ?_
      refine g_istore_n o (q := 39) dX5_evening_38 rfl rfl (by decide) h (fun x24 => [(2, .int x24), (0, .ref (eA (xE X) 50)), (1, .int x1)]) (fun _ => rfl) (fun x24 h => ?_)
      refine g_sub (lv' := [(0, .ref (eA (xE X) 50)), (1, .int x1), (2, .int x24)]) [1, 2, 0] rfl ?_
      exact w_X5_evening_L39 hres o hr  FU x1 x24 σ21  h
    · refine g_aload_n o (q := 31) 0 rfl rfl dX5_evening_30 rfl ?_
      refine g_ldc o (q := 33) lk_X5_152 dX5_evening_31 rfl ?_
      refine g_cvi o (q := 36) (As := [.int (-1000005)]) (rest := []) kv_X5_finding lk_X5_66 kM_50 (by decide) rfl rfl rfl (fun _ _ hc => c_X5_finding o.mk (-1000005) hc) dX5_evening_33 rfl ⟨rfl, rfl, Nat.le_of_ble_eq_true rfl, Nat.le_of_ble_eq_true rfl⟩ (Nat.le_of_ble_eq_true rfl) rfl h (fun r46 σ45 h => ?_)
      exact g_iret o hr (h.trans (congrArg some hres)) rfl dX5_evening_36
  · refine g_aload_n o (q := 11) 0 rfl rfl dX5_evening_10 rfl ?_
    refine g_ldc o (q := 13) lk_X5_60 dX5_evening_11 rfl ?_
    refine g_cvi o (q := 16) (As := [.int (-1000001)]) (rest := []) kv_X5_finding lk_X5_66 kM_50 (by decide) rfl rfl rfl (fun _ _ hc => c_X5_finding o.mk (-1000001) hc) dX5_evening_13 rfl ⟨rfl, rfl, Nat.le_of_ble_eq_true rfl, Nat.le_of_ble_eq_true rfl⟩ (Nat.le_of_ble_eq_true rfl) rfl h (fun r48 σ47 h => ?_)
    exact g_iret o hr (h.trans (congrArg some hres)) rfl dX5_evening_16
theorem c_X5_evening {l : Launch} {E : En} {mk : Mem → Mem} (hmk : MK mk sdM) (x1 : Int32)  {σ : Mem} {r : Int32} {τ : Mem} (h : f_X5_evening x1 σ = some (r, τ)) : Met l yX5_evening (Cond.code yX5_evening cX5_evening 5 (some .int) :: wt) rm_X5_evening (PW E mk [.ref (eA E 50), .int x1] σ) (QI E mk r τ) 0 0 (WA E) :=
  met_i (fun E => [.ref (eA E 50), .int x1]) (by decide) hmk (Nat.le_of_ble_eq_true rfl) (fun X o hr => w_X5_evening rfl o hr x1  h)
set_option maxRecDepth 100000 in
set_option maxHeartbeats 4000000 in
theorem w_X5_odds_J27 {X : Cx} {l : Launch} {r : Int64} {σr : Mem} {res : Int64 × Mem} (hres : res = (r, σr)) (o : OK X cX5_odds RX5 sdM 10 rm_X5_odds l) (hr : RJ X r σr)     {σ : Mem} (h : f_X5_odds_J27   σ = some res) : G X σ 27 [(0, .ref (eA (xE X) 50))] [] := by
  unfold f_X5_odds_J27 at h
  refine g_aload_n o (q := 28) 0 rfl rfl dX5_odds_27 rfl ?_
  refine g_ldc o (q := 30) lk_X5_60 dX5_odds_28 rfl ?_
  refine g_cvi o (q := 33) (As := [.int (-1000001)]) (rest := []) kv_X5_finding lk_X5_66 kM_50 (by decide) rfl rfl rfl (fun _ _ hc => c_X5_finding o.mk (-1000001) hc) dX5_odds_30 rfl ⟨rfl, rfl, Nat.le_of_ble_eq_true rfl, Nat.le_of_ble_eq_true rfl⟩ (Nat.le_of_ble_eq_true rfl) rfl h (fun r24 σ23 h => ?_)
  refine g_i2l o (q := 34) dX5_odds_33 rfl ?_
  exact g_lret o hr (h.trans (congrArg some hres)) dX5_odds_34
set_option maxRecDepth 100000 in
set_option maxHeartbeats 4000000 in
theorem w_X5_odds_J102 {X : Cx} {l : Launch} {r : Int64} {σr : Mem} {res : Int64 × Mem} (hres : res = (r, σr)) (o : OK X cX5_odds RX5 sdM 10 rm_X5_odds l) (hr : RJ X r σr) {k83 : Int32 → Int32 → Int32 → Int32 → Int64 → Int32 → Mem → Option (Int64 × Mem)} (hk83 : ∀ (y2 : Int32) (y3 : Int32) (y4 : Int32) (y5 : Int32) (z7 : Int64) (y9 : Int32) (σ : Mem), k83 y2 y3 y4 y5 z7 y9 σ = some res → G X σ 83 [(2, .int y2), (3, .int y3), (4, .int y4), (5, .int y5), (7, .long z7), (9, .int y9)] []) {y2 : Int32} {y3 : Int32} {y4 : Int32} {y5 : Int32} {y9 : Int32} {s0 : Int64} {s1 : Int32}  {σ : Mem} (h : f_X5_odds_J102 k83 y2 y3 y4 y5 y9 s0 s1 σ = some res) : G X σ 102 [(2, .int y2), (3, .int y3), (4, .int y4), (5, .int y5), (9, .int y9)] [.int s1, .long s0] := by
  unfold f_X5_odds_J102 at h
  refine g_iload o (q := 104) 3 rfl dX5_odds_102 rfl ?_
  obtain ⟨hn, h⟩ := vN_some h
  refine g_idiv o (q := 105) hn dX5_odds_104 rfl ?_
  refine g_i2l o (q := 106) dX5_odds_105 rfl ?_
  refine g_lmul o (q := 107) dX5_odds_106 rfl ?_
  refine g_lstore o (q := 109) dX5_odds_107 rfl (by decide) h (fun z38 => [(7, .long z38), (2, .int y2), (3, .int y3), (4, .int y4), (5, .int y5), (9, .int y9)]) (fun _ => rfl) (fun z38 h => ?_)
  refine g_iinc o (q := 112) (dn := 1) dX5_odds_109 rfl 5 rfl (by decide) (by decide) h (fun x39 => [(9, .int x39), (7, .long z38), (2, .int y2), (3, .int y3), (4, .int y4), (5, .int y5)]) (fun _ => rfl) (fun x39 h => ?_)
  refine g_goto o (tgt := 83) dX5_odds_112 (by decide) ?_
  refine g_sub (lv' := [(2, .int y2), (3, .int y3), (4, .int y4), (5, .int y5), (7, .long z38), (9, .int x39)]) [2, 3, 4, 5, 1, 0] rfl ?_
  exact hk83 y2 y3 y4 y5 z38 x39 σ  h
set_option maxRecDepth 100000 in
set_option maxHeartbeats 4000000 in
theorem w_X5_odds_L83 {X : Cx} {l : Launch} {r : Int64} {σr : Mem} {res : Int64 × Mem} (hres : res = (r, σr)) (o : OK X cX5_odds RX5 sdM 10 rm_X5_odds l) (hr : RJ X r σr)   : ∀ (n : Nat) (y2 : Int32) (y3 : Int32) (y4 : Int32) (y5 : Int32) (z7 : Int64) (y9 : Int32) (σ : Mem), f_X5_odds_L83  n y2 y3 y4 y5 z7 y9 σ = some res → G X σ 83 [(2, .int y2), (3, .int y3), (4, .int y4), (5, .int y5), (7, .long z7), (9, .int y9)] [] := by
  intro n
  induction n with
  | zero => intro y2 y3 y4 y5 z7 y9 σ  h; cases h
  | succ n ih =>
    intro y2 y3 y4 y5 z7 y9 σ  h
    rw [f_X5_odds_L83_s] at h
    refine g_iload o (q := 85) 5 rfl dX5_odds_83 rfl ?_
    refine g_iload_n o (q := 86) 0 rfl rfl dX5_odds_85 rfl ?_
    refine g_icmp_ge o (tgt := 115) (q := 89) dX5_odds_86 (by decide) rfl h (fun h => ?_) (fun h => ?_)
    · refine g_lload o (q := 117) 4 rfl dX5_odds_115 rfl ?_
      exact g_lret o hr (h.trans (congrArg some hres)) dX5_odds_117
    · refine g_lload o (q := 91) 4 rfl dX5_odds_89 rfl ?_
      refine g_iload_n o (q := 92) 1 rfl rfl dX5_odds_91 rfl ?_
      refine g_if_ne o (tgt := 100) (q := 95) dX5_odds_92 (by decide) rfl h (fun h => ?_) (fun h => ?_)
      · refine g_bipush o (v := 12) (q := 102) (by decide) dX5_odds_100 rfl ?_
        refine g_sub (lv' := [(2, .int y2), (3, .int y3), (4, .int y4), (5, .int y5), (9, .int y9)]) [0, 1, 2, 3, 5] rfl ?_
        exact w_X5_odds_J102 hres o hr ih  h
      · refine g_iload o (q := 97) 2 rfl dX5_odds_95 rfl ?_
        refine g_goto o (tgt := 102) dX5_odds_97 (by decide) ?_
        refine g_sub (lv' := [(2, .int y2), (3, .int y3), (4, .int y4), (5, .int y5), (9, .int y9)]) [0, 1, 2, 3, 5] rfl ?_
        exact w_X5_odds_J102 hres o hr ih  h
set_option maxRecDepth 100000 in
set_option maxHeartbeats 4000000 in
theorem w_X5_odds_L54 {X : Cx} {l : Launch} {r : Int64} {σr : Mem} {res : Int64 × Mem} (hres : res = (r, σr)) (o : OK X cX5_odds RX5 sdM 10 rm_X5_odds l) (hr : RJ X r σr)   : ∀ (n : Nat) (y2 : Int32) (y3 : Int32) (y4 : Int32) (y5 : Int32) (y6 : Int32) (σ : Mem), f_X5_odds_L54  n y2 y3 y4 y5 y6 σ = some res → G X σ 54 [(2, .int y2), (3, .int y3), (4, .int y4), (5, .int y5), (6, .int y6)] [] := by
  intro n
  induction n with
  | zero => intro y2 y3 y4 y5 y6 σ  h; cases h
  | succ n ih =>
    intro y2 y3 y4 y5 y6 σ  h
    rw [f_X5_odds_L54_s] at h
    refine g_iload o (q := 56) 4 rfl dX5_odds_54 rfl ?_
    refine g_if_eq o (tgt := 77) (q := 59) dX5_odds_56 (by decide) rfl h (fun h => ?_) (fun h => ?_)
    · refine g_lconst o (v := 1) (q := 78) (by decide) dX5_odds_77 rfl ?_
      refine g_lstore o (q := 80) dX5_odds_78 rfl (by decide) h (fun z36 => [(7, .long z36), (2, .int y2), (3, .int y3), (4, .int y4), (5, .int y5), (6, .int y6)]) (fun _ => rfl) (fun z36 h => ?_)
      refine g_iconst o (v := 0) (q := 81) (by decide) dX5_odds_80 rfl ?_
      refine g_istore o (q := 83) dX5_odds_81 rfl (by decide) h (fun x37 => [(9, .int x37), (7, .long z36), (2, .int y2), (3, .int y3), (4, .int y4), (5, .int y5), (6, .int y6)]) (fun _ => rfl) (fun x37 h => ?_)
      refine g_sub (lv' := [(2, .int y2), (3, .int y3), (4, .int y4), (5, .int y5), (7, .long z36), (9, .int x37)]) [2, 3, 4, 5, 1, 0] rfl ?_
      exact w_X5_odds_L83 hres o hr  FU y2 y3 y4 y5 z36 x37 σ  h
    · refine g_iload o (q := 61) 3 rfl dX5_odds_59 rfl ?_
      refine g_iload o (q := 63) 4 rfl dX5_odds_61 rfl ?_
      obtain ⟨hn, h⟩ := vN_some h
      refine g_irem o (q := 64) hn dX5_odds_63 rfl ?_
      refine g_istore o (q := 66) dX5_odds_64 rfl (by decide) h (fun x40 => [(7, .int x40), (2, .int y2), (3, .int y3), (4, .int y4), (5, .int y5), (6, .int y6)]) (fun _ => rfl) (fun x40 h => ?_)
      refine g_iload o (q := 68) 5 rfl dX5_odds_66 rfl ?_
      refine g_istore o (q := 70) dX5_odds_68 rfl (by decide) h (fun x41 => [(5, .int x41), (7, .int x40), (2, .int y2), (3, .int y3), (4, .int y4), (6, .int y6)]) (fun _ => rfl) (fun x41 h => ?_)
      refine g_iload o (q := 72) 1 rfl dX5_odds_70 rfl ?_
      refine g_istore o (q := 74) dX5_odds_72 rfl (by decide) h (fun x42 => [(6, .int x42), (5, .int x41), (7, .int x40), (2, .int y2), (3, .int y3), (4, .int y4)]) (fun _ => rfl) (fun x42 h => ?_)
      refine g_goto o (tgt := 54) dX5_odds_74 (by decide) ?_
      refine g_sub (lv' := [(2, .int y2), (3, .int y3), (4, .int y4), (5, .int x41), (6, .int x42)]) [3, 4, 5, 1, 0] rfl ?_
      exact ih y2 y3 y4 x41 x42 σ  h
set_option maxRecDepth 100000 in
set_option maxHeartbeats 4000000 in
theorem w_X5_odds {X : Cx} {l : Launch} {r : Int64} {σr : Mem} {res : Int64 × Mem} (hres : res = (r, σr)) (o : OK X cX5_odds RX5 sdM 10 rm_X5_odds l) (hr : RJ X r σr) (x1 : Int32) (x2 : Int32) (x3 : Int32)  {σ : Mem} (h : f_X5_odds x1 x2 x3 σ = some res) : G X σ 0 [(0, .ref (eA (xE X) 50)), (1, .int x1), (2, .int x2), (3, .int x3)] [] := by
  unfold f_X5_odds at h
  refine g_aload_n o (q := 1) 0 rfl rfl dX5_odds_0 rfl ?_
  refine g_iload_n o (q := 2) 1 rfl rfl dX5_odds_1 rfl ?_
  refine g_cvi o (q := 5) (As := [.int x1]) (rest := []) kv_X5_isCurtain lk_X5_123 kM_50 (by decide) rfl rfl rfl (fun _ _ hc => c_X5_isCurtain o.mk x1 hc) dX5_odds_2 rfl ⟨rfl, rfl, Nat.le_of_ble_eq_true rfl, Nat.le_of_ble_eq_true rfl⟩ (Nat.le_of_ble_eq_true rfl) rfl h (fun r22 σ21 h => ?_)
  refine g_if_eq o (tgt := 27) (q := 8) dX5_odds_5 (by decide) rfl h (fun h => ?_) (fun h => ?_)
  · refine g_sub (lv' := [(0, .ref (eA (xE X) 50))]) [0] rfl ?_
    exact w_X5_odds_J27 hres o hr   h
  · refine g_iload_n o (q := 9) 2 rfl rfl dX5_odds_8 rfl ?_
    refine g_iconst o (v := 0) (q := 10) (by decide) dX5_odds_9 rfl ?_
    refine g_bipush o (v := 17) (q := 12) (by decide) dX5_odds_10 rfl ?_
    refine g_csi o (q := 15) (As := [.int x2, .int 0, .int 17]) (rest := []) kv_X5_within lk_X5_70 rfl (fun _ _ hc => c_X5_within o.mk x2 0 17 hc) dX5_odds_12 rfl ⟨rfl, rfl, Nat.le_of_ble_eq_true rfl, Nat.le_of_ble_eq_true rfl⟩ (Nat.le_of_ble_eq_true rfl) rfl h (fun r26 σ25 h => ?_)
    refine g_if_eq o (tgt := 27) (q := 18) dX5_odds_15 (by decide) rfl h (fun h => ?_) (fun h => ?_)
    · refine g_sub (lv' := [(0, .ref (eA (xE X) 50))]) [0] rfl ?_
      exact w_X5_odds_J27 hres o hr   h
    · refine g_iload_n o (q := 19) 3 rfl rfl dX5_odds_18 rfl ?_
      refine g_iconst o (v := 0) (q := 20) (by decide) dX5_odds_19 rfl ?_
      refine g_iconst o (v := 1) (q := 21) (by decide) dX5_odds_20 rfl ?_
      refine g_csi o (q := 24) (As := [.int x3, .int 0, .int 1]) (rest := []) kv_X5_within lk_X5_70 rfl (fun _ _ hc => c_X5_within o.mk x3 0 1 hc) dX5_odds_21 rfl ⟨rfl, rfl, Nat.le_of_ble_eq_true rfl, Nat.le_of_ble_eq_true rfl⟩ (Nat.le_of_ble_eq_true rfl) rfl h (fun r28 σ27 h => ?_)
      refine g_if_ne o (tgt := 35) (q := 27) dX5_odds_24 (by decide) rfl h (fun h => ?_) (fun h => ?_)
      · refine g_aload_n o (q := 36) 0 rfl rfl dX5_odds_35 rfl ?_
        refine g_iload_n o (q := 37) 1 rfl rfl dX5_odds_36 rfl ?_
        refine g_iconst o (v := 2) (q := 38) (by decide) dX5_odds_37 rfl ?_
        refine g_cvi o (q := 41) (As := [.int x1, .int 2]) (rest := []) kv_X5_curtainIs lk_X5_98 kM_50 (by decide) rfl rfl rfl (fun _ _ hc => c_X5_curtainIs o.mk x1 2 hc) dX5_odds_38 rfl ⟨rfl, rfl, Nat.le_of_ble_eq_true rfl, Nat.le_of_ble_eq_true rfl⟩ (Nat.le_of_ble_eq_true rfl) rfl h (fun r30 σ29 h => ?_)
        refine g_csi o (q := 44) (As := [.int r30]) (rest := []) kv_X5_bits lk_X5_101 rfl (fun _ _ hc => c_X5_bits o.mk r30 hc) dX5_odds_41 rfl ⟨rfl, rfl, Nat.le_of_ble_eq_true rfl, Nat.le_of_ble_eq_true rfl⟩ (Nat.le_of_ble_eq_true rfl) rfl h (fun r32 σ31 h => ?_)
        refine g_istore o (q := 46) dX5_odds_44 rfl (by decide) h (fun x33 => [(4, .int x33), (0, .ref (eA (xE X) 50)), (1, .int x1), (2, .int x2), (3, .int x3)]) (fun _ => rfl) (fun x33 h => ?_)
        refine g_bipush o (v := 12) (q := 48) (by decide) dX5_odds_46 rfl ?_
        refine g_istore o (q := 50) dX5_odds_48 rfl (by decide) h (fun x34 => [(5, .int x34), (4, .int x33), (0, .ref (eA (xE X) 50)), (1, .int x1), (2, .int x2), (3, .int x3)]) (fun _ => rfl) (fun x34 h => ?_)
        refine g_iload o (q := 52) 1 rfl dX5_odds_50 rfl ?_
        refine g_istore o (q := 54) dX5_odds_52 rfl (by decide) h (fun x35 => [(6, .int x35), (5, .int x34), (4, .int x33), (0, .ref (eA (xE X) 50)), (1, .int x1), (2, .int x2), (3, .int x3)]) (fun _ => rfl) (fun x35 h => ?_)
        refine g_sub (lv' := [(2, .int x2), (3, .int x3), (4, .int x33), (5, .int x34), (6, .int x35)]) [5, 6, 2, 1, 0] rfl ?_
        exact w_X5_odds_L54 hres o hr  FU x2 x3 x33 x34 x35 σ31  h
      · refine g_sub (lv' := [(0, .ref (eA (xE X) 50))]) [0] rfl ?_
        exact w_X5_odds_J27 hres o hr   h
theorem c_X5_odds {l : Launch} {E : En} {mk : Mem → Mem} (hmk : MK mk sdM) (x1 : Int32) (x2 : Int32) (x3 : Int32)  {σ : Mem} {r : Int64} {τ : Mem} (h : f_X5_odds x1 x2 x3 σ = some (r, τ)) : Met l yX5_odds (Cond.code yX5_odds cX5_odds 10 (some .long) :: wt) rm_X5_odds (PW E mk [.ref (eA E 50), .int x1, .int x2, .int x3] σ) (QL E mk r τ) 0 0 (WA E) :=
  met_l (fun E => [.ref (eA E 50), .int x1, .int x2, .int x3]) (by decide) hmk (Nat.le_of_ble_eq_true rfl) (fun X o hr => w_X5_odds rfl o hr x1 x2 x3  h)
set_option maxRecDepth 100000 in
set_option maxHeartbeats 4000000 in
theorem w_X5_seed {X : Cx} {l : Launch} {r : Int32} {σr : Mem} {res : Int32 × Mem} (hres : res = (r, σr)) (o : OK X cX5_seed RX5 sdM 2 rm_X5_seed l) (hr : RI X .int r σr) (x1 : Int32)  {σ : Mem} (h : f_X5_seed x1 σ = some res) : G X σ 0 [(0, .ref (eA (xE X) 50)), (1, .int x1)] [] := by
  unfold f_X5_seed at h
  refine g_aload_n o (q := 1) 0 rfl rfl dX5_seed_0 rfl ?_
  refine g_iconst o (v := 2) (q := 2) (by decide) dX5_seed_1 rfl ?_
  refine g_iload_n o (q := 3) 1 rfl rfl dX5_seed_2 rfl ?_
  refine g_cvi o (q := 6) (As := [.int 2, .int x1]) (rest := []) kv_X5_become lk_X5_74 kM_50 (by decide) rfl rfl rfl (fun _ _ hc => c_X5_become o.mk 2 x1 hc) dX5_seed_3 rfl ⟨rfl, rfl, Nat.le_of_ble_eq_true rfl, Nat.le_of_ble_eq_true rfl⟩ (Nat.le_of_ble_eq_true rfl) rfl h (fun r22 σ21 h => ?_)
  exact g_iret o hr (h.trans (congrArg some hres)) rfl dX5_seed_6
theorem c_X5_seed {l : Launch} {E : En} {mk : Mem → Mem} (hmk : MK mk sdM) (x1 : Int32)  {σ : Mem} {r : Int32} {τ : Mem} (h : f_X5_seed x1 σ = some (r, τ)) : Met l yX5_seed (Cond.code yX5_seed cX5_seed 2 (some .int) :: wt) rm_X5_seed (PW E mk [.ref (eA E 50), .int x1] σ) (QI E mk r τ) 0 0 (WA E) :=
  met_i (fun E => [.ref (eA E 50), .int x1]) (by decide) hmk (Nat.le_of_ble_eq_true rfl) (fun X o hr => w_X5_seed rfl o hr x1  h)
set_option maxRecDepth 100000 in
set_option maxHeartbeats 4000000 in
theorem w_X5_feed_L38 {X : Cx} {l : Launch} {r : Int32} {σr : Mem} {res : Int32 × Mem} (hres : res = (r, σr)) (o : OK X cX5_feed RX5 sdM 4 rm_X5_feed l) (hr : RI X .int r σr)   : ∀ (n : Nat) (y1 : Int32) (y3 : Int32) (σ : Mem), f_X5_feed_L38  n y1 y3 σ = some res → G X σ 38 [(0, .ref (eA (xE X) 50)), (1, .int y1), (3, .int y3)] [] := by
  intro n
  induction n with
  | zero => intro y1 y3 σ  h; cases h
  | succ n ih =>
    intro y1 y3 σ  h
    rw [f_X5_feed_L38_s] at h
    refine g_iload_n o (q := 39) 2 rfl rfl dX5_feed_38 rfl ?_
    refine g_if_lt o (tgt := 77) (q := 42) dX5_feed_39 (by decide) rfl h (fun h => ?_) (fun h => ?_)
    · refine g_aload_n o (q := 78) 0 rfl rfl dX5_feed_77 rfl ?_
      refine gf_X5_6 o (q := 81) kM_50 lk_X5_227 dX5_feed_78 rfl ?_
      exact g_iret o hr (h.trans (congrArg some hres)) rfl dX5_feed_81
    · refine g_aload_n o (q := 43) 0 rfl rfl dX5_feed_42 rfl ?_
      refine gf_X5_5 o (q := 46) kM_50 lk_X5_22 dX5_feed_43 rfl ?_
      refine g_aload_n o (q := 47) 0 rfl rfl dX5_feed_46 rfl ?_
      refine gf_X5_6 o (q := 50) kM_50 lk_X5_227 dX5_feed_47 rfl ?_
      refine g_iload_n o (q := 51) 1 rfl rfl dX5_feed_50 rfl ?_
      refine g_bipush o (v := 8) (q := 53) (by decide) dX5_feed_51 rfl ?_
      refine g_iload_n o (q := 54) 2 rfl rfl dX5_feed_53 rfl ?_
      refine g_imul o (q := 55) dX5_feed_54 rfl ?_
      refine g_ishr o (q := 56) dX5_feed_55 rfl ?_
      refine g_sipush o (v := 255) (q := 59) (by decide) dX5_feed_56 rfl ?_
      refine g_iand o (q := 60) dX5_feed_59 rfl ?_
      refine g_iast o (q := 61) kM_55 dX5_feed_60 rfl h (fun j24 σ25 h => ?_)
      refine g_aload_n o (q := 62) 0 rfl rfl dX5_feed_61 rfl ?_
      refine g_dup o (q := 63) rfl dX5_feed_62 rfl ?_
      refine gf_X5_6 o (q := 66) kM_50 lk_X5_227 dX5_feed_63 rfl ?_
      refine g_iconst o (v := 1) (q := 67) (by decide) dX5_feed_66 rfl ?_
      refine g_iadd o (q := 68) dX5_feed_67 rfl ?_
      refine gp_X5_6 o (q := 71) kM_50 lk_X5_227 dX5_feed_68 rfl h (fun σ26 h => ?_)
      refine g_iinc o (q := 74) (dn := (-1)) dX5_feed_71 rfl 2 rfl (by decide) (by decide) h (fun x27 => [(3, .int x27), (0, .ref (eA (xE X) 50)), (1, .int y1)]) (fun _ => rfl) (fun x27 h => ?_)
      refine g_goto o (tgt := 38) dX5_feed_74 (by decide) ?_
      refine g_sub (lv' := [(0, .ref (eA (xE X) 50)), (1, .int y1), (3, .int x27)]) [1, 2, 0] rfl ?_
      exact ih y1 x27 σ26  h
set_option maxRecDepth 100000 in
set_option maxHeartbeats 4000000 in
theorem w_X5_feed {X : Cx} {l : Launch} {r : Int32} {σr : Mem} {res : Int32 × Mem} (hres : res = (r, σr)) (o : OK X cX5_feed RX5 sdM 4 rm_X5_feed l) (hr : RI X .int r σr) (x1 : Int32) (x2 : Int32)  {σ : Mem} (h : f_X5_feed x1 x2 σ = some res) : G X σ 0 [(0, .ref (eA (xE X) 50)), (1, .int x1), (2, .int x2)] [] := by
  unfold f_X5_feed at h
  refine g_iload_n o (q := 1) 2 rfl rfl dX5_feed_0 rfl ?_
  refine g_iconst o (v := 1) (q := 2) (by decide) dX5_feed_1 rfl ?_
  refine g_iconst o (v := 4) (q := 3) (by decide) dX5_feed_2 rfl ?_
  refine g_csi o (q := 6) (As := [.int x2, .int 1, .int 4]) (rest := []) kv_X5_within lk_X5_70 rfl (fun _ _ hc => c_X5_within o.mk x2 1 4 hc) dX5_feed_3 rfl ⟨rfl, rfl, Nat.le_of_ble_eq_true rfl, Nat.le_of_ble_eq_true rfl⟩ (Nat.le_of_ble_eq_true rfl) rfl h (fun r22 σ21 h => ?_)
  refine g_if_ne o (tgt := 16) (q := 9) dX5_feed_6 (by decide) rfl h (fun h => ?_) (fun h => ?_)
  · refine g_aload_n o (q := 17) 0 rfl rfl dX5_feed_16 rfl ?_
    refine gf_X5_6 o (q := 20) kM_50 lk_X5_227 dX5_feed_17 rfl ?_
    refine g_iload_n o (q := 21) 2 rfl rfl dX5_feed_20 rfl ?_
    refine g_iadd o (q := 22) dX5_feed_21 rfl ?_
    refine g_bipush o (v := 120) (q := 24) (by decide) dX5_feed_22 rfl ?_
    refine g_icmp_le o (tgt := 34) (q := 27) dX5_feed_24 (by decide) rfl h (fun h => ?_) (fun h => ?_)
    · refine g_iload_n o (q := 35) 2 rfl rfl dX5_feed_34 rfl ?_
      refine g_iconst o (v := 1) (q := 36) (by decide) dX5_feed_35 rfl ?_
      refine g_isub o (q := 37) dX5_feed_36 rfl ?_
      refine g_istore_n o (q := 38) dX5_feed_37 rfl rfl (by decide) h (fun x23 => [(3, .int x23), (0, .ref (eA (xE X) 50)), (1, .int x1), (2, .int x2)]) (fun _ => rfl) (fun x23 h => ?_)
      refine g_sub (lv' := [(0, .ref (eA (xE X) 50)), (1, .int x1), (3, .int x23)]) [1, 2, 0] rfl ?_
      exact w_X5_feed_L38 hres o hr  FU x1 x23 σ21  h
    · refine g_aload_n o (q := 28) 0 rfl rfl dX5_feed_27 rfl ?_
      refine g_ldc o (q := 30) lk_X5_94 dX5_feed_28 rfl ?_
      refine g_cvi o (q := 33) (As := [.int (-1000002)]) (rest := []) kv_X5_finding lk_X5_66 kM_50 (by decide) rfl rfl rfl (fun _ _ hc => c_X5_finding o.mk (-1000002) hc) dX5_feed_30 rfl ⟨rfl, rfl, Nat.le_of_ble_eq_true rfl, Nat.le_of_ble_eq_true rfl⟩ (Nat.le_of_ble_eq_true rfl) rfl h (fun r29 σ28 h => ?_)
      exact g_iret o hr (h.trans (congrArg some hres)) rfl dX5_feed_33
  · refine g_aload_n o (q := 10) 0 rfl rfl dX5_feed_9 rfl ?_
    refine g_ldc o (q := 12) lk_X5_60 dX5_feed_10 rfl ?_
    refine g_cvi o (q := 15) (As := [.int (-1000001)]) (rest := []) kv_X5_finding lk_X5_66 kM_50 (by decide) rfl rfl rfl (fun _ _ hc => c_X5_finding o.mk (-1000001) hc) dX5_feed_12 rfl ⟨rfl, rfl, Nat.le_of_ble_eq_true rfl, Nat.le_of_ble_eq_true rfl⟩ (Nat.le_of_ble_eq_true rfl) rfl h (fun r31 σ30 h => ?_)
    exact g_iret o hr (h.trans (congrArg some hres)) rfl dX5_feed_15
theorem c_X5_feed {l : Launch} {E : En} {mk : Mem → Mem} (hmk : MK mk sdM) (x1 : Int32) (x2 : Int32)  {σ : Mem} {r : Int32} {τ : Mem} (h : f_X5_feed x1 x2 σ = some (r, τ)) : Met l yX5_feed (Cond.code yX5_feed cX5_feed 4 (some .int) :: wt) rm_X5_feed (PW E mk [.ref (eA E 50), .int x1, .int x2] σ) (QI E mk r τ) 0 0 (WA E) :=
  met_i (fun E => [.ref (eA E 50), .int x1, .int x2]) (by decide) hmk (Nat.le_of_ble_eq_true rfl) (fun X o hr => w_X5_feed rfl o hr x1 x2  h)
set_option maxRecDepth 100000 in
set_option maxHeartbeats 4000000 in
theorem w_X5_wipe {X : Cx} {l : Launch} {r : Int32} {σr : Mem} {res : Int32 × Mem} (hres : res = (r, σr)) (o : OK X cX5_wipe RX5 sdM 2 rm_X5_wipe l) (hr : RI X .int r σr)   {σ : Mem} (h : f_X5_wipe  σ = some res) : G X σ 0 [(0, .ref (eA (xE X) 50))] [] := by
  unfold f_X5_wipe at h
  refine g_aload_n o (q := 1) 0 rfl rfl dX5_wipe_0 rfl ?_
  refine gf_X5_6 o (q := 4) kM_50 lk_X5_227 dX5_wipe_1 rfl ?_
  refine g_istore_n o (q := 5) dX5_wipe_4 rfl rfl (by decide) h (fun x21 => [(1, .int x21), (0, .ref (eA (xE X) 50))]) (fun _ => rfl) (fun x21 h => ?_)
  refine g_aload_n o (q := 6) 1 rfl rfl dX5_wipe_5 rfl ?_
  refine g_iconst o (v := 0) (q := 7) (by decide) dX5_wipe_6 rfl ?_
  refine gp_X5_6 o (q := 10) kM_50 lk_X5_227 dX5_wipe_7 rfl h (fun σ22 h => ?_)
  refine g_iload_n o (q := 11) 0 rfl rfl dX5_wipe_10 rfl ?_
  exact g_iret o hr (h.trans (congrArg some hres)) rfl dX5_wipe_11
theorem c_X5_wipe {l : Launch} {E : En} {mk : Mem → Mem} (hmk : MK mk sdM)   {σ : Mem} {r : Int32} {τ : Mem} (h : f_X5_wipe  σ = some (r, τ)) : Met l yX5_wipe (Cond.code yX5_wipe cX5_wipe 2 (some .int) :: wt) rm_X5_wipe (PW E mk [.ref (eA E 50)] σ) (QI E mk r τ) 0 0 (WA E) :=
  met_i (fun E => [.ref (eA E 50)]) (by decide) hmk (Nat.le_of_ble_eq_true rfl) (fun X o hr => w_X5_wipe rfl o hr   h)
set_option maxRecDepth 100000 in
set_option maxHeartbeats 4000000 in
theorem w_X5_byteAt {X : Cx} {l : Launch} {r : Int32} {σr : Mem} {res : Int32 × Mem} (hres : res = (r, σr)) (o : OK X cX5_byteAt RX5 sdM 2 rm_X5_byteAt l) (hr : RI X .int r σr) (x1 : Int32)  {σ : Mem} (h : f_X5_byteAt x1 σ = some res) : G X σ 0 [(0, .ref (eA (xE X) 50)), (1, .int x1)] [] := by
  unfold f_X5_byteAt at h
  refine g_iload_n o (q := 1) 1 rfl rfl dX5_byteAt_0 rfl ?_
  refine g_aload_n o (q := 2) 0 rfl rfl dX5_byteAt_1 rfl ?_
  refine gf_X5_6 o (q := 5) kM_50 lk_X5_227 dX5_byteAt_2 rfl ?_
  refine g_icmp_ge o (tgt := 17) (q := 8) dX5_byteAt_5 (by decide) rfl h (fun h => ?_) (fun h => ?_)
  · refine g_iconst o (v := (-1)) (q := 18) (by decide) dX5_byteAt_17 rfl ?_
    exact g_iret o hr (h.trans (congrArg some hres)) rfl dX5_byteAt_18
  · refine g_aload_n o (q := 9) 0 rfl rfl dX5_byteAt_8 rfl ?_
    refine gf_X5_5 o (q := 12) kM_50 lk_X5_22 dX5_byteAt_9 rfl ?_
    refine g_iload_n o (q := 13) 1 rfl rfl dX5_byteAt_12 rfl ?_
    refine g_iald o (q := 14) kM_55 dX5_byteAt_13 rfl h (fun j21 hjj21 h => ?_)
    refine g_goto o (tgt := 18) dX5_byteAt_14 (by decide) ?_
    exact g_iret o hr (h.trans (congrArg some hres)) rfl dX5_byteAt_18
theorem c_X5_byteAt {l : Launch} {E : En} {mk : Mem → Mem} (hmk : MK mk sdM) (x1 : Int32)  {σ : Mem} {r : Int32} {τ : Mem} (h : f_X5_byteAt x1 σ = some (r, τ)) : Met l yX5_byteAt (Cond.code yX5_byteAt cX5_byteAt 2 (some .int) :: wt) rm_X5_byteAt (PW E mk [.ref (eA E 50), .int x1] σ) (QI E mk r τ) 0 0 (WA E) :=
  met_i (fun E => [.ref (eA E 50), .int x1]) (by decide) hmk (Nat.le_of_ble_eq_true rfl) (fun X o hr => w_X5_byteAt rfl o hr x1  h)
