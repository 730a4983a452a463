set_option maxRecDepth 100000 in
set_option maxHeartbeats 4000000 in
theorem w_X4_isWithin {X : Cx} {l : Launch} {r : Int32} {σr : Mem} {res : Int32 × Mem} (hres : res = (r, σr)) (o : OK X cX4_isWithin RX4 sdC 3 rm_X4_isWithin l) (hr : RI X .boolean r σr) (x0 : Int32) (x1 : Int32) (x2 : Int32)  {σ : Mem} (h : f_X4_isWithin x0 x1 x2 σ = some res) : G X σ 0 [(0, .int x0), (1, .int x1), (2, .int x2)] [] := by
  unfold f_X4_isWithin at h
  refine g_iload_n o (q := 1) 0 rfl rfl dX4_isWithin_0 rfl ?_
  refine g_iload_n o (q := 2) 1 rfl rfl dX4_isWithin_1 rfl ?_
  refine g_icmp_lt o (tgt := 14) (q := 5) dX4_isWithin_2 (by decide) rfl h (fun h => ?_) (fun h => ?_)
  · refine g_iconst o (v := 0) (q := 15) (by decide) dX4_isWithin_14 rfl ?_
    exact g_iret o hr (h.trans (congrArg some hres)) (by decide) dX4_isWithin_15
  · refine g_iload_n o (q := 6) 0 rfl rfl dX4_isWithin_5 rfl ?_
    refine g_iload_n o (q := 7) 2 rfl rfl dX4_isWithin_6 rfl ?_
    refine g_icmp_gt o (tgt := 14) (q := 10) dX4_isWithin_7 (by decide) rfl h (fun h => ?_) (fun h => ?_)
    · refine g_iconst o (v := 0) (q := 15) (by decide) dX4_isWithin_14 rfl ?_
      exact g_iret o hr (h.trans (congrArg some hres)) (by decide) dX4_isWithin_15
    · refine g_iconst o (v := 1) (q := 11) (by decide) dX4_isWithin_10 rfl ?_
      refine g_goto o (tgt := 15) dX4_isWithin_11 (by decide) ?_
      exact g_iret o hr (h.trans (congrArg some hres)) (by decide) dX4_isWithin_15
theorem c_X4_isWithin {l : Launch} {E : En} {mk : Mem → Mem} (hmk : MK mk sdC) (x0 : Int32) (x1 : Int32) (x2 : Int32)  {σ : Mem} {r : Int32} {τ : Mem} (h : f_X4_isWithin x0 x1 x2 σ = some (r, τ)) : Met l yX4_isWithin (Cond.code yX4_isWithin cX4_isWithin 3 (some .boolean) :: wt) rm_X4_isWithin (PW E mk [.int x0, .int x1, .int x2] σ) (QI E mk r τ) 0 0 (WA E) :=
  met_i (fun E => [.int x0, .int x1, .int x2]) (by decide) hmk (Nat.le_of_ble_eq_true rfl) (fun X o hr => w_X4_isWithin rfl o hr x0 x1 x2  h)
set_option maxRecDepth 100000 in
set_option maxHeartbeats 4000000 in
theorem w_X4_find {X : Cx} {l : Launch} {r : Int32} {σr : Mem} {res : Int32 × Mem} (hres : res = (r, σr)) (o : OK X cX4_find RX4 sdC 2 rm_X4_find l) (hr : RI X .int r σr) (x1 : Int32)  {σ : Mem} (h : f_X4_find x1 σ = some res) : G X σ 0 [(0, .ref (eA (xE X) 0)), (1, .int x1)] [] := by
  unfold f_X4_find at h
  refine g_aload_n o (q := 1) 0 rfl rfl dX4_find_0 rfl ?_
  refine gf_X4_7 o (q := 4) kC_0 lk_X4_42 dX4_find_1 rfl ?_
  refine g_iload_n o (q := 5) 1 rfl rfl dX4_find_4 rfl ?_
  refine g_dup2 o (q := 6) rfl rfl dX4_find_5 rfl ?_
  refine g_iald o (q := 7) kC_49 dX4_find_6 rfl h (fun j21 hjj21 h => ?_)
  refine g_iconst o (v := 1) (q := 8) (by decide) dX4_find_7 rfl ?_
  refine g_iadd o (q := 9) dX4_find_8 rfl ?_
  refine g_iast o (q := 10) kC_49 dX4_find_9 rfl h (fun j22 σ23 h => ?_)
  refine g_ldc o (q := 12) lk_X4_251 dX4_find_10 rfl ?_
  refine g_iload_n o (q := 13) 1 rfl rfl dX4_find_12 rfl ?_
  refine g_isub o (q := 14) dX4_find_13 rfl ?_
  exact g_iret o hr (h.trans (congrArg some hres)) rfl dX4_find_14
theorem c_X4_find {l : Launch} {E : En} {mk : Mem → Mem} (hmk : MK mk sdC) (x1 : Int32)  {σ : Mem} {r : Int32} {τ : Mem} (h : f_X4_find x1 σ = some (r, τ)) : Met l yX4_find (Cond.code yX4_find cX4_find 2 (some .int) :: wt) rm_X4_find (PW E mk [.ref (eA E 0), .int x1] σ) (QI E mk r τ) 0 0 (WA E) :=
  met_i (fun E => [.ref (eA E 0), .int x1]) (by decide) hmk (Nat.le_of_ble_eq_true rfl) (fun X o hr => w_X4_find rfl o hr x1  h)
set_option maxRecDepth 100000 in
set_option maxHeartbeats 4000000 in
theorem w_X4_fire {X : Cx} {l : Launch} {r : Int32} {σr : Mem} {res : Int32 × Mem} (hres : res = (r, σr)) (o : OK X cX4_fire RX4 sdC 3 rm_X4_fire l) (hr : RI X .int r σr) (x1 : Int32)  {σ : Mem} (h : f_X4_fire x1 σ = some res) : G X σ 0 [(0, .ref (eA (xE X) 0)), (1, .int x1)] [] := by
  unfold f_X4_fire at h
  refine g_iload_n o (q := 1) 1 rfl rfl dX4_fire_0 rfl ?_
  refine g_iconst o (v := 0) (q := 2) (by decide) dX4_fire_1 rfl ?_
  refine g_iconst o (v := 1) (q := 3) (by decide) dX4_fire_2 rfl ?_
  refine g_csi o (q := 6) (As := [.int x1, .int 0, .int 1]) (rest := []) kv_X4_isWithin lk_X4_47 rfl (fun _ _ hc => c_X4_isWithin o.mk x1 0 1 hc) dX4_fire_3 rfl ⟨rfl, rfl, Nat.le_of_ble_eq_true rfl, Nat.le_of_ble_eq_true rfl⟩ (Nat.le_of_ble_eq_true rfl) rfl h (fun r22 σ21 h => ?_)
  refine g_if_ne o (tgt := 15) (q := 9) dX4_fire_6 (by decide) rfl h (fun h => ?_) (fun h => ?_)
  · refine g_aload_n o (q := 16) 0 rfl rfl dX4_fire_15 rfl ?_
    refine gf_X4_0 o (q := 19) kC_0 lk_X4_10 dX4_fire_16 rfl ?_
    refine gf_X1_0 o (q := 22) kC_1 lk_X4_55 dX4_fire_19 rfl ?_
    refine g_istore_n o (q := 23) dX4_fire_22 rfl rfl (by decide) h (fun x23 => [(2, .int x23), (0, .ref (eA (xE X) 0)), (1, .int x1)]) (fun _ => rfl) (fun x23 h => ?_)
    refine g_aload_n o (q := 24) 1 rfl rfl dX4_fire_23 rfl ?_
    refine gf_X4_0 o (q := 27) kC_0 lk_X4_10 dX4_fire_24 rfl ?_
    refine g_iload_n o (q := 28) 2 rfl rfl dX4_fire_27 rfl ?_
    refine gp_X1_0 o (q := 31) kC_1 lk_X4_55 dX4_fire_28 rfl h (fun σ24 h => ?_)
    refine g_iload_n o (q := 32) 0 rfl rfl dX4_fire_31 rfl ?_
    exact g_iret o hr (h.trans (congrArg some hres)) rfl dX4_fire_32
  · refine g_aload_n o (q := 10) 0 rfl rfl dX4_fire_9 rfl ?_
    refine g_iconst o (v := 0) (q := 11) (by decide) dX4_fire_10 rfl ?_
    refine g_cvi o (q := 14) (As := [.int 0]) (rest := []) kv_X4_find lk_X4_51 kC_0 (by decide) rfl rfl rfl (fun _ _ hc => c_X4_find o.mk 0 hc) dX4_fire_11 rfl ⟨rfl, rfl, Nat.le_of_ble_eq_true rfl, Nat.le_of_ble_eq_true rfl⟩ (Nat.le_of_ble_eq_true rfl) rfl h (fun r26 σ25 h => ?_)
    exact g_iret o hr (h.trans (congrArg some hres)) rfl dX4_fire_14
theorem c_X4_fire {l : Launch} {E : En} {mk : Mem → Mem} (hmk : MK mk sdC) (x1 : Int32)  {σ : Mem} {r : Int32} {τ : Mem} (h : f_X4_fire x1 σ = some (r, τ)) : Met l yX4_fire (Cond.code yX4_fire cX4_fire 3 (some .int) :: wt) rm_X4_fire (PW E mk [.ref (eA E 0), .int x1] σ) (QI E mk r τ) 0 0 (WA E) :=
  met_i (fun E => [.ref (eA E 0), .int x1]) (by decide) hmk (Nat.le_of_ble_eq_true rfl) (fun X o hr => w_X4_fire rfl o hr x1  h)
set_option maxRecDepth 100000 in
set_option maxHeartbeats 4000000 in
theorem w_X4_isPlace {X : Cx} {l : Launch} {r : Int32} {σr : Mem} {res : Int32 × Mem} (hres : res = (r, σr)) (o : OK X cX4_isPlace RX4 sdC 1 rm_X4_isPlace l) (hr : RI X .boolean r σr) (x0 : Int32)  {σ : Mem} (h : f_X4_isPlace x0 σ = some res) : G X σ 0 [(0, .int x0)] [] := by
  unfold f_X4_isPlace at h
  refine g_iload_n o (q := 1) 0 rfl rfl dX4_isPlace_0 rfl ?_
  refine g_iconst o (v := 0) (q := 2) (by decide) dX4_isPlace_1 rfl ?_
  refine g_iconst o (v := 5) (q := 3) (by decide) dX4_isPlace_2 rfl ?_
  refine g_csi o (q := 6) (As := [.int x0, .int 0, .int 5]) (rest := []) kv_X4_isWithin lk_X4_47 rfl (fun _ _ hc => c_X4_isWithin o.mk x0 0 5 hc) dX4_isPlace_3 rfl ⟨rfl, rfl, Nat.le_of_ble_eq_true rfl, Nat.le_of_ble_eq_true rfl⟩ (Nat.le_of_ble_eq_true rfl) rfl h (fun r22 σ21 h => ?_)
  obtain ⟨hb, h⟩ := vB_some h
  exact g_iret o hr (h.trans (congrArg some hres)) (by rcases hb with hb | hb <;> rw [hb] <;> rfl) dX4_isPlace_6
theorem c_X4_isPlace {l : Launch} {E : En} {mk : Mem → Mem} (hmk : MK mk sdC) (x0 : Int32)  {σ : Mem} {r : Int32} {τ : Mem} (h : f_X4_isPlace x0 σ = some (r, τ)) : Met l yX4_isPlace (Cond.code yX4_isPlace cX4_isPlace 1 (some .boolean) :: wt) rm_X4_isPlace (PW E mk [.int x0] σ) (QI E mk r τ) 0 0 (WA E) :=
  met_i (fun E => [.int x0]) (by decide) hmk (Nat.le_of_ble_eq_true rfl) (fun X o hr => w_X4_isPlace rfl o hr x0  h)
set_option maxRecDepth 100000 in
set_option maxHeartbeats 4000000 in
theorem w_X4_scene_J17 {X : Cx} {l : Launch} {r : Int32} {σr : Mem} {res : Int32 × Mem} (hres : res = (r, σr)) (o : OK X cX4_scene RX4 sdC 4 rm_X4_scene l) (hr : RI X .int r σr)     {σ : Mem} (h : f_X4_scene_J17   σ = some res) : G X σ 17 [(0, .ref (eA (xE X) 0))] [] := by
  unfold f_X4_scene_J17 at h
  refine g_aload_n o (q := 18) 0 rfl rfl dX4_scene_17 rfl ?_
  refine g_iconst o (v := 0) (q := 19) (by decide) dX4_scene_18 rfl ?_
  refine g_cvi o (q := 22) (As := [.int 0]) (rest := []) kv_X4_find lk_X4_51 kC_0 (by decide) rfl rfl rfl (fun _ _ hc => c_X4_find o.mk 0 hc) dX4_scene_19 rfl ⟨rfl, rfl, Nat.le_of_ble_eq_true rfl, Nat.le_of_ble_eq_true rfl⟩ (Nat.le_of_ble_eq_true rfl) rfl h (fun r24 σ23 h => ?_)
  exact g_iret o hr (h.trans (congrArg some hres)) rfl dX4_scene_22
set_option maxRecDepth 100000 in
set_option maxHeartbeats 4000000 in
theorem w_X4_scene {X : Cx} {l : Launch} {r : Int32} {σr : Mem} {res : Int32 × Mem} (hres : res = (r, σr)) (o : OK X cX4_scene RX4 sdC 4 rm_X4_scene l) (hr : RI X .int r σr) (x1 : Int32) (x2 : Int32)  {σ : Mem} (h : f_X4_scene x1 x2 σ = some res) : G X σ 0 [(0, .ref (eA (xE X) 0)), (1, .int x1), (2, .int x2)] [] := by
  unfold f_X4_scene at h
  refine g_iload_n o (q := 1) 1 rfl rfl dX4_scene_0 rfl ?_
  refine g_csi o (q := 4) (As := [.int x1]) (rest := []) kv_X4_isPlace lk_X4_59 rfl (fun _ _ hc => c_X4_isPlace o.mk x1 hc) dX4_scene_1 rfl ⟨rfl, rfl, Nat.le_of_ble_eq_true rfl, Nat.le_of_ble_eq_true rfl⟩ (Nat.le_of_ble_eq_true rfl) rfl h (fun r22 σ21 h => ?_)
  refine g_if_eq o (tgt := 17) (q := 7) dX4_scene_4 (by decide) rfl h (fun h => ?_) (fun h => ?_)
  · refine g_sub (lv' := [(0, .ref (eA (xE X) 0))]) [0] rfl ?_
    exact w_X4_scene_J17 hres o hr   h
  · refine g_iload_n o (q := 8) 2 rfl rfl dX4_scene_7 rfl ?_
    refine g_iconst o (v := 0) (q := 9) (by decide) dX4_scene_8 rfl ?_
    refine g_bipush o (v := 11) (q := 11) (by decide) dX4_scene_9 rfl ?_
    refine g_csi o (q := 14) (As := [.int x2, .int 0, .int 11]) (rest := []) kv_X4_isWithin lk_X4_47 rfl (fun _ _ hc => c_X4_isWithin o.mk x2 0 11 hc) dX4_scene_11 rfl ⟨rfl, rfl, Nat.le_of_ble_eq_true rfl, Nat.le_of_ble_eq_true rfl⟩ (Nat.le_of_ble_eq_true rfl) rfl h (fun r26 σ25 h => ?_)
    refine g_if_ne o (tgt := 23) (q := 17) dX4_scene_14 (by decide) rfl h (fun h => ?_) (fun h => ?_)
    · refine g_aload_n o (q := 24) 0 rfl rfl dX4_scene_23 rfl ?_
      refine gf_X4_0 o (q := 27) kC_0 lk_X4_10 dX4_scene_24 rfl ?_
      refine gf_X1_6 o (q := 30) kC_1 lk_X4_63 dX4_scene_27 rfl ?_
      refine g_iload_n o (q := 31) 1 rfl rfl dX4_scene_30 rfl ?_
      refine g_iald o (q := 32) (ka_list kC_1) dX4_scene_31 rfl h (fun j27 hjj27 h => ?_)
      refine g_istore_n o (q := 33) dX4_scene_32 rfl rfl (by decide) h (fun x28 => [(3, .int x28), (0, .ref (eA (xE X) 0)), (1, .int x1), (2, .int x2)]) (fun _ => rfl) (fun x28 h => ?_)
      refine g_aload_n o (q := 34) 1 rfl rfl dX4_scene_33 rfl ?_
      refine gf_X4_0 o (q := 37) kC_0 lk_X4_10 dX4_scene_34 rfl ?_
      refine gf_X1_6 o (q := 40) kC_1 lk_X4_63 dX4_scene_37 rfl ?_
      refine g_iload_n o (q := 41) 2 rfl rfl dX4_scene_40 rfl ?_
      refine g_iload_n o (q := 42) 3 rfl rfl dX4_scene_41 rfl ?_
      refine g_iast o (q := 43) (ka_list kC_1) dX4_scene_42 rfl h (fun j29 σ30 h => ?_)
      refine g_iload_n o (q := 44) 0 rfl rfl dX4_scene_43 rfl ?_
      exact g_iret o hr (h.trans (congrArg some hres)) rfl dX4_scene_44
    · refine g_sub (lv' := [(0, .ref (eA (xE X) 0))]) [0] rfl ?_
      exact w_X4_scene_J17 hres o hr   h
theorem c_X4_scene {l : Launch} {E : En} {mk : Mem → Mem} (hmk : MK mk sdC) (x1 : Int32) (x2 : Int32)  {σ : Mem} {r : Int32} {τ : Mem} (h : f_X4_scene x1 x2 σ = some (r, τ)) : Met l yX4_scene (Cond.code yX4_scene cX4_scene 4 (some .int) :: wt) rm_X4_scene (PW E mk [.ref (eA E 0), .int x1, .int x2] σ) (QI E mk r τ) 0 0 (WA E) :=
  met_i (fun E => [.ref (eA E 0), .int x1, .int x2]) (by decide) hmk (Nat.le_of_ble_eq_true rfl) (fun X o hr => w_X4_scene rfl o hr x1 x2  h)
set_option maxRecDepth 100000 in
set_option maxHeartbeats 4000000 in
theorem w_X4_listed {X : Cx} {l : Launch} {r : Int32} {σr : Mem} {res : Int32 × Mem} (hres : res = (r, σr)) (o : OK X cX4_listed RX4 sdC 2 rm_X4_listed l) (hr : RI X .int r σr) (x1 : Int32)  {σ : Mem} (h : f_X4_listed x1 σ = some res) : G X σ 0 [(0, .ref (eA (xE X) 0)), (1, .int x1)] [] := by
  unfold f_X4_listed at h
  refine g_iload_n o (q := 1) 1 rfl rfl dX4_listed_0 rfl ?_
  refine g_csi o (q := 4) (As := [.int x1]) (rest := []) kv_X4_isPlace lk_X4_59 rfl (fun _ _ hc => c_X4_isPlace o.mk x1 hc) dX4_listed_1 rfl ⟨rfl, rfl, Nat.le_of_ble_eq_true rfl, Nat.le_of_ble_eq_true rfl⟩ (Nat.le_of_ble_eq_true rfl) rfl h (fun r22 σ21 h => ?_)
  refine g_if_ne o (tgt := 13) (q := 7) dX4_listed_4 (by decide) rfl h (fun h => ?_) (fun h => ?_)
  · refine g_aload_n o (q := 14) 0 rfl rfl dX4_listed_13 rfl ?_
    refine gf_X4_0 o (q := 17) kC_0 lk_X4_10 dX4_listed_14 rfl ?_
    refine gf_X1_6 o (q := 20) kC_1 lk_X4_63 dX4_listed_17 rfl ?_
    refine g_iload_n o (q := 21) 1 rfl rfl dX4_listed_20 rfl ?_
    refine g_iald o (q := 22) (ka_list kC_1) dX4_listed_21 rfl h (fun j23 hjj23 h => ?_)
    exact g_iret o hr (h.trans (congrArg some hres)) rfl dX4_listed_22
  · refine g_aload_n o (q := 8) 0 rfl rfl dX4_listed_7 rfl ?_
    refine g_iconst o (v := 0) (q := 9) (by decide) dX4_listed_8 rfl ?_
    refine g_cvi o (q := 12) (As := [.int 0]) (rest := []) kv_X4_find lk_X4_51 kC_0 (by decide) rfl rfl rfl (fun _ _ hc => c_X4_find o.mk 0 hc) dX4_listed_9 rfl ⟨rfl, rfl, Nat.le_of_ble_eq_true rfl, Nat.le_of_ble_eq_true rfl⟩ (Nat.le_of_ble_eq_true rfl) rfl h (fun r25 σ24 h => ?_)
    exact g_iret o hr (h.trans (congrArg some hres)) rfl dX4_listed_12
theorem c_X4_listed {l : Launch} {E : En} {mk : Mem → Mem} (hmk : MK mk sdC) (x1 : Int32)  {σ : Mem} {r : Int32} {τ : Mem} (h : f_X4_listed x1 σ = some (r, τ)) : Met l yX4_listed (Cond.code yX4_listed cX4_listed 2 (some .int) :: wt) rm_X4_listed (PW E mk [.ref (eA E 0), .int x1] σ) (QI E mk r τ) 0 0 (WA E) :=
  met_i (fun E => [.ref (eA E 0), .int x1]) (by decide) hmk (Nat.le_of_ble_eq_true rfl) (fun X o hr => w_X4_listed rfl o hr x1  h)
set_option maxRecDepth 100000 in
set_option maxHeartbeats 4000000 in
theorem w_X4_isKind {X : Cx} {l : Launch} {r : Int32} {σr : Mem} {res : Int32 × Mem} (hres : res = (r, σr)) (o : OK X cX4_isKind RX4 sdC 1 rm_X4_isKind l) (hr : RI X .boolean r σr) (x0 : Int32)  {σ : Mem} (h : f_X4_isKind x0 σ = some res) : G X σ 0 [(0, .int x0)] [] := by
  unfold f_X4_isKind at h
  refine g_iload_n o (q := 1) 0 rfl rfl dX4_isKind_0 rfl ?_
  refine g_iconst o (v := 0) (q := 2) (by decide) dX4_isKind_1 rfl ?_
  refine g_bipush o (v := 6) (q := 4) (by decide) dX4_isKind_2 rfl ?_
  refine g_csi o (q := 7) (As := [.int x0, .int 0, .int 6]) (rest := []) kv_X4_isWithin lk_X4_47 rfl (fun _ _ hc => c_X4_isWithin o.mk x0 0 6 hc) dX4_isKind_4 rfl ⟨rfl, rfl, Nat.le_of_ble_eq_true rfl, Nat.le_of_ble_eq_true rfl⟩ (Nat.le_of_ble_eq_true rfl) rfl h (fun r22 σ21 h => ?_)
  obtain ⟨hb, h⟩ := vB_some h
  exact g_iret o hr (h.trans (congrArg some hres)) (by rcases hb with hb | hb <;> rw [hb] <;> rfl) dX4_isKind_7
theorem c_X4_isKind {l : Launch} {E : En} {mk : Mem → Mem} (hmk : MK mk sdC) (x0 : Int32)  {σ : Mem} {r : Int32} {τ : Mem} (h : f_X4_isKind x0 σ = some (r, τ)) : Met l yX4_isKind (Cond.code yX4_isKind cX4_isKind 1 (some .boolean) :: wt) rm_X4_isKind (PW E mk [.int x0] σ) (QI E mk r τ) 0 0 (WA E) :=
  met_i (fun E => [.int x0]) (by decide) hmk (Nat.le_of_ble_eq_true rfl) (fun X o hr => w_X4_isKind rfl o hr x0  h)
set_option maxRecDepth 100000 in
set_option maxHeartbeats 4000000 in
theorem w_X4_curtain_J18 {X : Cx} {l : Launch} {r : Int32} {σr : Mem} {res : Int32 × Mem} (hres : res = (r, σr)) (o : OK X cX4_curtain RX4 sdC 3 rm_X4_curtain l) (hr : RI X .int r σr)     {σ : Mem} (h : f_X4_curtain_J18   σ = some res) : G X σ 18 [(0, .ref (eA (xE X) 0))] [] := by
  unfold f_X4_curtain_J18 at h
  refine g_aload_n o (q := 19) 0 rfl rfl dX4_curtain_18 rfl ?_
  refine g_iconst o (v := 0) (q := 20) (by decide) dX4_curtain_19 rfl ?_
  refine g_cvi o (q := 23) (As := [.int 0]) (rest := []) kv_X4_find lk_X4_51 kC_0 (by decide) rfl rfl rfl (fun _ _ hc => c_X4_find o.mk 0 hc) dX4_curtain_20 rfl ⟨rfl, rfl, Nat.le_of_ble_eq_true rfl, Nat.le_of_ble_eq_true rfl⟩ (Nat.le_of_ble_eq_true rfl) rfl h (fun r24 σ23 h => ?_)
  exact g_iret o hr (h.trans (congrArg some hres)) rfl dX4_curtain_23
set_option maxRecDepth 100000 in
set_option maxHeartbeats 4000000 in
theorem w_X4_curtain {X : Cx} {l : Launch} {r : Int32} {σr : Mem} {res : Int32 × Mem} (hres : res = (r, σr)) (o : OK X cX4_curtain RX4 sdC 3 rm_X4_curtain l) (hr : RI X .int r σr) (x1 : Int32) (x2 : Int32)  {σ : Mem} (h : f_X4_curtain x1 x2 σ = some res) : G X σ 0 [(0, .ref (eA (xE X) 0)), (1, .int x1), (2, .int x2)] [] := by
  unfold f_X4_curtain at h
  refine g_iload_n o (q := 1) 1 rfl rfl dX4_curtain_0 rfl ?_
  refine g_csi o (q := 4) (As := [.int x1]) (rest := []) kv_X4_isKind lk_X4_66 rfl (fun _ _ hc => c_X4_isKind o.mk x1 hc) dX4_curtain_1 rfl ⟨rfl, rfl, Nat.le_of_ble_eq_true rfl, Nat.le_of_ble_eq_true rfl⟩ (Nat.le_of_ble_eq_true rfl) rfl h (fun r22 σ21 h => ?_)
  refine g_if_eq o (tgt := 18) (q := 7) dX4_curtain_4 (by decide) rfl h (fun h => ?_) (fun h => ?_)
  · refine g_sub (lv' := [(0, .ref (eA (xE X) 0))]) [0] rfl ?_
    exact w_X4_curtain_J18 hres o hr   h
  · refine g_iload_n o (q := 8) 2 rfl rfl dX4_curtain_7 rfl ?_
    refine g_iconst o (v := 0) (q := 9) (by decide) dX4_curtain_8 rfl ?_
    refine g_sipush o (v := 4095) (q := 12) (by decide) dX4_curtain_9 rfl ?_
    refine g_csi o (q := 15) (As := [.int x2, .int 0, .int 4095]) (rest := []) kv_X4_isWithin lk_X4_47 rfl (fun _ _ hc => c_X4_isWithin o.mk x2 0 4095 hc) dX4_curtain_12 rfl ⟨rfl, rfl, Nat.le_of_ble_eq_true rfl, Nat.le_of_ble_eq_true rfl⟩ (Nat.le_of_ble_eq_true rfl) rfl h (fun r26 σ25 h => ?_)
    refine g_if_ne o (tgt := 24) (q := 18) dX4_curtain_15 (by decide) rfl h (fun h => ?_) (fun h => ?_)
    · refine g_aload_n o (q := 25) 0 rfl rfl dX4_curtain_24 rfl ?_
      refine gf_X4_0 o (q := 28) kC_0 lk_X4_10 dX4_curtain_25 rfl ?_
      refine g_cvi o (q := 31) (As := []) (rest := []) kv_X1_isFull lk_X4_69 kC_1 (by decide) rfl rfl rfl (fun _ _ hc => c_X1_isFull o.mk 1 kC_1 hc) dX4_curtain_28 rfl ⟨rfl, rfl, Nat.le_of_ble_eq_true rfl, Nat.le_of_ble_eq_true rfl⟩ (Nat.le_of_ble_eq_true rfl) rfl h (fun r28 σ27 h => ?_)
      refine g_if_eq o (tgt := 40) (q := 34) dX4_curtain_31 (by decide) rfl h (fun h => ?_) (fun h => ?_)
      · refine g_aload_n o (q := 41) 0 rfl rfl dX4_curtain_40 rfl ?_
        refine gf_X4_0 o (q := 44) kC_0 lk_X4_10 dX4_curtain_41 rfl ?_
        refine g_iload_n o (q := 45) 1 rfl rfl dX4_curtain_44 rfl ?_
        refine g_cvr o (q := 48) (As := [.int x1]) (rest := []) kv_X1_hang lk_X4_73 kC_1 (by decide) rfl rfl rfl (fun _ _ hc => c_X1_hang o.mk 1 x1 kC_1 hc) dX4_curtain_45 rfl ⟨rfl, rfl, Nat.le_of_ble_eq_true rfl, Nat.le_of_ble_eq_true rfl⟩ (Nat.le_of_ble_eq_true rfl) rfl h (fun r30 σ29 hfr30 h => ?_)
        refine g_iload_n o (q := 49) 2 rfl rfl dX4_curtain_48 rfl ?_
        refine gp_X0_2 o (q := 52) (hang_kd kC_1 hfr30) lk_X4_77 dX4_curtain_49 rfl h (fun σ31 h => ?_)
        refine g_aload_n o (q := 53) 0 rfl rfl dX4_curtain_52 rfl ?_
        refine gf_X4_0 o (q := 56) kC_0 lk_X4_10 dX4_curtain_53 rfl ?_
        refine gf_X1_5 o (q := 59) kC_1 lk_X4_80 dX4_curtain_56 rfl ?_
        refine g_iconst o (v := 1) (q := 60) (by decide) dX4_curtain_59 rfl ?_
        refine g_isub o (q := 61) dX4_curtain_60 rfl ?_
        exact g_iret o hr (h.trans (congrArg some hres)) rfl dX4_curtain_61
      · refine g_aload_n o (q := 35) 0 rfl rfl dX4_curtain_34 rfl ?_
        refine g_iconst o (v := 1) (q := 36) (by decide) dX4_curtain_35 rfl ?_
        refine g_cvi o (q := 39) (As := [.int 1]) (rest := []) kv_X4_find lk_X4_51 kC_0 (by decide) rfl rfl rfl (fun _ _ hc => c_X4_find o.mk 1 hc) dX4_curtain_36 rfl ⟨rfl, rfl, Nat.le_of_ble_eq_true rfl, Nat.le_of_ble_eq_true rfl⟩ (Nat.le_of_ble_eq_true rfl) rfl h (fun r33 σ32 h => ?_)
        exact g_iret o hr (h.trans (congrArg some hres)) rfl dX4_curtain_39
    · refine g_sub (lv' := [(0, .ref (eA (xE X) 0))]) [0] rfl ?_
      exact w_X4_curtain_J18 hres o hr   h
theorem c_X4_curtain {l : Launch} {E : En} {mk : Mem → Mem} (hmk : MK mk sdC) (x1 : Int32) (x2 : Int32)  {σ : Mem} {r : Int32} {τ : Mem} (h : f_X4_curtain x1 x2 σ = some (r, τ)) : Met l yX4_curtain (Cond.code yX4_curtain cX4_curtain 3 (some .int) :: wt) rm_X4_curtain (PW E mk [.ref (eA E 0), .int x1, .int x2] σ) (QI E mk r τ) 0 0 (WA E) :=
  met_i (fun E => [.ref (eA E 0), .int x1, .int x2]) (by decide) hmk (Nat.le_of_ble_eq_true rfl) (fun X o hr => w_X4_curtain rfl o hr x1 x2  h)
set_option maxRecDepth 100000 in
set_option maxHeartbeats 4000000 in
theorem w_X4_isCurtain {X : Cx} {l : Launch} {r : Int32} {σr : Mem} {res : Int32 × Mem} (hres : res = (r, σr)) (o : OK X cX4_isCurtain RX4 sdC 2 rm_X4_isCurtain l) (hr : RI X .boolean r σr) (x1 : Int32)  {σ : Mem} (h : f_X4_isCurtain x1 σ = some res) : G X σ 0 [(0, .ref (eA (xE X) 0)), (1, .int x1)] [] := by
  unfold f_X4_isCurtain at h
  refine g_iload_n o (q := 1) 1 rfl rfl dX4_isCurtain_0 rfl ?_
  refine g_iconst o (v := 0) (q := 2) (by decide) dX4_isCurtain_1 rfl ?_
  refine g_aload_n o (q := 3) 0 rfl rfl dX4_isCurtain_2 rfl ?_
  refine gf_X4_0 o (q := 6) kC_0 lk_X4_10 dX4_isCurtain_3 rfl ?_
  refine gf_X1_5 o (q := 9) kC_1 lk_X4_80 dX4_isCurtain_6 rfl ?_
  refine g_iconst o (v := 1) (q := 10) (by decide) dX4_isCurtain_9 rfl ?_
  refine g_isub o (q := 11) dX4_isCurtain_10 rfl ?_
  refine g_csi o (q := 14) (As := [.int x1, .int 0, .int ((σ 1 5) - 1)]) (rest := []) kv_X4_isWithin lk_X4_47 rfl (fun _ _ hc => c_X4_isWithin o.mk x1 0 ((σ 1 5) - 1) hc) dX4_isCurtain_11 rfl ⟨rfl, rfl, Nat.le_of_ble_eq_true rfl, Nat.le_of_ble_eq_true rfl⟩ (Nat.le_of_ble_eq_true rfl) rfl h (fun r22 σ21 h => ?_)
  obtain ⟨hb, h⟩ := vB_some h
  exact g_iret o hr (h.trans (congrArg some hres)) (by rcases hb with hb | hb <;> rw [hb] <;> rfl) dX4_isCurtain_14
theorem c_X4_isCurtain {l : Launch} {E : En} {mk : Mem → Mem} (hmk : MK mk sdC) (x1 : Int32)  {σ : Mem} {r : Int32} {τ : Mem} (h : f_X4_isCurtain x1 σ = some (r, τ)) : Met l yX4_isCurtain (Cond.code yX4_isCurtain cX4_isCurtain 2 (some .boolean) :: wt) rm_X4_isCurtain (PW E mk [.ref (eA E 0), .int x1] σ) (QI E mk r τ) 0 0 (WA E) :=
  met_i (fun E => [.ref (eA E 0), .int x1]) (by decide) hmk (Nat.le_of_ble_eq_true rfl) (fun X o hr => w_X4_isCurtain rfl o hr x1  h)
set_option maxRecDepth 100000 in
set_option maxHeartbeats 4000000 in
theorem w_X4_of_J18 {X : Cx} {l : Launch} {r : Int32} {σr : Mem} {res : Int32 × Mem} (hres : res = (r, σr)) (o : OK X cX4_of RX4 sdC 3 rm_X4_of l) (hr : RI X .int r σr)     {σ : Mem} (h : f_X4_of_J18   σ = some res) : G X σ 18 [(0, .ref (eA (xE X) 0))] [] := by
  unfold f_X4_of_J18 at h
  refine g_aload_n o (q := 19) 0 rfl rfl dX4_of_18 rfl ?_
  refine g_iconst o (v := 0) (q := 20) (by decide) dX4_of_19 rfl ?_
  refine g_cvi o (q := 23) (As := [.int 0]) (rest := []) kv_X4_find lk_X4_51 kC_0 (by decide) rfl rfl rfl (fun _ _ hc => c_X4_find o.mk 0 hc) dX4_of_20 rfl ⟨rfl, rfl, Nat.le_of_ble_eq_true rfl, Nat.le_of_ble_eq_true rfl⟩ (Nat.le_of_ble_eq_true rfl) rfl h (fun r24 σ23 h => ?_)
  exact g_iret o hr (h.trans (congrArg some hres)) rfl dX4_of_23
set_option maxRecDepth 100000 in
set_option maxHeartbeats 4000000 in
theorem w_X4_of {X : Cx} {l : Launch} {r : Int32} {σr : Mem} {res : Int32 × Mem} (hres : res = (r, σr)) (o : OK X cX4_of RX4 sdC 3 rm_X4_of l) (hr : RI X .int r σr) (x1 : Int32) (x2 : Int32)  {σ : Mem} (h : f_X4_of x1 x2 σ = some res) : G X σ 0 [(0, .ref (eA (xE X) 0)), (1, .int x1), (2, .int x2)] [] := by
  unfold f_X4_of at h
  refine g_aload_n o (q := 1) 0 rfl rfl dX4_of_0 rfl ?_
  refine g_iload_n o (q := 2) 1 rfl rfl dX4_of_1 rfl ?_
  refine g_cvi o (q := 5) (As := [.int x1]) (rest := []) kv_X4_isCurtain lk_X4_83 kC_0 (by decide) rfl rfl rfl (fun _ _ hc => c_X4_isCurtain o.mk x1 hc) dX4_of_2 rfl ⟨rfl, rfl, Nat.le_of_ble_eq_true rfl, Nat.le_of_ble_eq_true rfl⟩ (Nat.le_of_ble_eq_true rfl) rfl h (fun r22 σ21 h => ?_)
  refine g_if_eq o (tgt := 18) (q := 8) dX4_of_5 (by decide) rfl h (fun h => ?_) (fun h => ?_)
  · refine g_sub (lv' := [(0, .ref (eA (xE X) 0))]) [0] rfl ?_
    exact w_X4_of_J18 hres o hr   h
  · refine g_iload_n o (q := 9) 2 rfl rfl dX4_of_8 rfl ?_
    refine g_iconst o (v := 0) (q := 10) (by decide) dX4_of_9 rfl ?_
    refine g_bipush o (v := 10) (q := 12) (by decide) dX4_of_10 rfl ?_
    refine g_csi o (q := 15) (As := [.int x2, .int 0, .int 10]) (rest := []) kv_X4_isWithin lk_X4_47 rfl (fun _ _ hc => c_X4_isWithin o.mk x2 0 10 hc) dX4_of_12 rfl ⟨rfl, rfl, Nat.le_of_ble_eq_true rfl, Nat.le_of_ble_eq_true rfl⟩ (Nat.le_of_ble_eq_true rfl) rfl h (fun r26 σ25 h => ?_)
    refine g_if_ne o (tgt := 24) (q := 18) dX4_of_15 (by decide) rfl h (fun h => ?_) (fun h => ?_)
    · refine g_aload_n o (q := 25) 0 rfl rfl dX4_of_24 rfl ?_
      refine gf_X4_0 o (q := 28) kC_0 lk_X4_10 dX4_of_25 rfl ?_
      refine gf_X1_8 o (q := 31) kC_1 lk_X4_86 dX4_of_28 rfl ?_
      refine g_iload_n o (q := 32) 1 rfl rfl dX4_of_31 rfl ?_
      refine g_aald8 o (q := 33) (ka_curs kC_1) dX4_of_32 rfl h (fun j27 hjj27 h => ?_)
      refine g_iload_n o (q := 34) 2 rfl rfl dX4_of_33 rfl ?_
      refine g_aload_n o (q := 35) 0 rfl rfl dX4_of_34 rfl ?_
      refine gf_X4_0 o (q := 38) kC_0 lk_X4_10 dX4_of_35 rfl ?_
      refine g_iconst o (v := 0) (q := 39) (by decide) dX4_of_38 rfl ?_
      refine g_cvi o (q := 42) (As := [.int 0]) (rest := [.int x2, .ref (eA (xE X) (1 + 3 + 1 + j27))]) kv_X1_sceneIn lk_X4_90 kC_1 (by decide) rfl rfl rfl (fun _ _ hc => c_X1_sceneIn o.mk 1 0 kC_1 hc) dX4_of_39 rfl ⟨rfl, rfl, Nat.le_of_ble_eq_true rfl, Nat.le_of_ble_eq_true rfl⟩ (Nat.le_of_ble_eq_true rfl) rfl h (fun r29 σ28 h => ?_)
      refine g_aload_n o (q := 43) 0 rfl rfl dX4_of_42 rfl ?_
      refine gf_X4_0 o (q := 46) kC_0 lk_X4_10 dX4_of_43 rfl ?_
      refine gf_X1_0 o (q := 49) kC_1 lk_X4_55 dX4_of_46 rfl ?_
      refine g_cvi o (q := 52) (As := [.int x2, .int r29, .int (σ28 1 0)]) (rest := []) kv_X0_tell lk_X4_93 (kd_cur (ka_curs kC_1) hjj27) (by decide) rfl rfl rfl (fun _ _ hc => c_X0_tell o.mk (1 + 3 + 1 + j27) x2 r29 (σ28 1 0) (kd_cur (ka_curs kC_1) hjj27) hc) dX4_of_49 rfl ⟨rfl, rfl, Nat.le_of_ble_eq_true rfl, Nat.le_of_ble_eq_true rfl⟩ (Nat.le_of_ble_eq_true rfl) rfl h (fun r31 σ30 h => ?_)
      exact g_iret o hr (h.trans (congrArg some hres)) rfl dX4_of_52
    · refine g_sub (lv' := [(0, .ref (eA (xE X) 0))]) [0] rfl ?_
      exact w_X4_of_J18 hres o hr   h
theorem c_X4_of {l : Launch} {E : En} {mk : Mem → Mem} (hmk : MK mk sdC) (x1 : Int32) (x2 : Int32)  {σ : Mem} {r : Int32} {τ : Mem} (h : f_X4_of x1 x2 σ = some (r, τ)) : Met l yX4_of (Cond.code yX4_of cX4_of 3 (some .int) :: wt) rm_X4_of (PW E mk [.ref (eA E 0), .int x1, .int x2] σ) (QI E mk r τ) 0 0 (WA E) :=
  met_i (fun E => [.ref (eA E 0), .int x1, .int x2]) (by decide) hmk (Nat.le_of_ble_eq_true rfl) (fun X o hr => w_X4_of rfl o hr x1 x2  h)
set_option maxRecDepth 100000 in
set_option maxHeartbeats 4000000 in
theorem w_X4_change_J30 {X : Cx} {l : Launch} {r : Int32} {σr : Mem} {res : Int32 × Mem} (hres : res = (r, σr)) (o : OK X cX4_change RX4 sdC 6 rm_X4_change l) (hr : RI X .int r σr)     {σ : Mem} (h : f_X4_change_J30   σ = some res) : G X σ 30 [(0, .ref (eA (xE X) 0))] [] := by
  unfold f_X4_change_J30 at h
  refine g_aload_n o (q := 31) 0 rfl rfl dX4_change_30 rfl ?_
  refine g_iconst o (v := 0) (q := 32) (by decide) dX4_change_31 rfl ?_
  refine g_cvi o (q := 35) (As := [.int 0]) (rest := []) kv_X4_find lk_X4_51 kC_0 (by decide) rfl rfl rfl (fun _ _ hc => c_X4_find o.mk 0 hc) dX4_change_32 rfl ⟨rfl, rfl, Nat.le_of_ble_eq_true rfl, Nat.le_of_ble_eq_true rfl⟩ (Nat.le_of_ble_eq_true rfl) rfl h (fun r24 σ23 h => ?_)
  exact g_iret o hr (h.trans (congrArg some hres)) rfl dX4_change_35
set_option maxRecDepth 100000 in
set_option maxHeartbeats 4000000 in
theorem w_X4_change {X : Cx} {l : Launch} {r : Int32} {σr : Mem} {res : Int32 × Mem} (hres : res = (r, σr)) (o : OK X cX4_change RX4 sdC 6 rm_X4_change l) (hr : RI X .int r σr) (x1 : Int32) (x2 : Int32) (x3 : Int32)  {σ : Mem} (h : f_X4_change x1 x2 x3 σ = some res) : G X σ 0 [(0, .ref (eA (xE X) 0)), (1, .int x1), (2, .int x2), (3, .int x3)] [] := by
  unfold f_X4_change at h
  refine g_aload_n o (q := 1) 0 rfl rfl dX4_change_0 rfl ?_
  refine g_iload_n o (q := 2) 1 rfl rfl dX4_change_1 rfl ?_
  refine g_cvi o (q := 5) (As := [.int x1]) (rest := []) kv_X4_isCurtain lk_X4_83 kC_0 (by decide) rfl rfl rfl (fun _ _ hc => c_X4_isCurtain o.mk x1 hc) dX4_change_2 rfl ⟨rfl, rfl, Nat.le_of_ble_eq_true rfl, Nat.le_of_ble_eq_true rfl⟩ (Nat.le_of_ble_eq_true rfl) rfl h (fun r22 σ21 h => ?_)
  refine g_if_eq o (tgt := 30) (q := 8) dX4_change_5 (by decide) rfl h (fun h => ?_) (fun h => ?_)
  · refine g_sub (lv' := [(0, .ref (eA (xE X) 0))]) [0] rfl ?_
    exact w_X4_change_J30 hres o hr   h
  · refine g_iload_n o (q := 9) 2 rfl rfl dX4_change_8 rfl ?_
    refine g_iconst o (v := 0) (q := 10) (by decide) dX4_change_9 rfl ?_
    refine g_iconst o (v := 5) (q := 11) (by decide) dX4_change_10 rfl ?_
    refine g_csi o (q := 14) (As := [.int x2, .int 0, .int 5]) (rest := []) kv_X4_isWithin lk_X4_47 rfl (fun _ _ hc => c_X4_isWithin o.mk x2 0 5 hc) dX4_change_11 rfl ⟨rfl, rfl, Nat.le_of_ble_eq_true rfl, Nat.le_of_ble_eq_true rfl⟩ (Nat.le_of_ble_eq_true rfl) rfl h (fun r26 σ25 h => ?_)
    refine g_if_eq o (tgt := 30) (q := 17) dX4_change_14 (by decide) rfl h (fun h => ?_) (fun h => ?_)
    · refine g_sub (lv' := [(0, .ref (eA (xE X) 0))]) [0] rfl ?_
      exact w_X4_change_J30 hres o hr   h
    · refine g_iload_n o (q := 18) 3 rfl rfl dX4_change_17 rfl ?_
      refine g_iconst o (v := 0) (q := 19) (by decide) dX4_change_18 rfl ?_
      refine g_gets o (q := 22) 6 (by decide) lk_X4_97 dX4_change_19 rfl ?_
      refine g_iload_n o (q := 23) 2 rfl rfl dX4_change_22 rfl ?_
      refine g_tild o (q := 24) 6 (by decide) rfl dX4_change_23 rfl h (fun j27 hjj27 h => ?_)
      refine g_csi o (q := 27) (As := [.int x3, .int 0, .int ((sTab 6).getD j27 0)]) (rest := []) kv_X4_isWithin lk_X4_47 rfl (fun _ _ hc => c_X4_isWithin o.mk x3 0 ((sTab 6).getD j27 0) hc) dX4_change_24 rfl ⟨rfl, rfl, Nat.le_of_ble_eq_true rfl, Nat.le_of_ble_eq_true rfl⟩ (Nat.le_of_ble_eq_true rfl) rfl h (fun r29 σ28 h => ?_)
      refine g_if_ne o (tgt := 36) (q := 30) dX4_change_27 (by decide) rfl h (fun h => ?_) (fun h => ?_)
      · refine g_aload_n o (q := 37) 0 rfl rfl dX4_change_36 rfl ?_
        refine gf_X4_0 o (q := 40) kC_0 lk_X4_10 dX4_change_37 rfl ?_
        refine gf_X1_8 o (q := 43) kC_1 lk_X4_86 dX4_change_40 rfl ?_
        refine g_iload_n o (q := 44) 1 rfl rfl dX4_change_43 rfl ?_
        refine g_aald8 o (q := 45) (ka_curs kC_1) dX4_change_44 rfl h (fun j30 hjj30 h => ?_)
        refine g_astore o (q := 47) dX4_change_45 rfl (by decide) [(4, .ref (eA (xE X) (1 + 3 + 1 + j30))), (0, .ref (eA (xE X) 0)), (1, .int x1), (2, .int x2), (3, .int x3)] rfl ?_
        refine g_aload o (q := 49) 0 rfl dX4_change_47 rfl ?_
        refine g_iload_n o (q := 50) 3 rfl rfl dX4_change_49 rfl ?_
        refine g_aload_n o (q := 51) 1 rfl rfl dX4_change_50 rfl ?_
        refine gf_X4_0 o (q := 54) kC_0 lk_X4_10 dX4_change_51 rfl ?_
        refine g_iconst o (v := 0) (q := 55) (by decide) dX4_change_54 rfl ?_
        refine g_cvi o (q := 58) (As := [.int 0]) (rest := [.int x2, .ref (eA (xE X) (1 + 3 + 1 + j30))]) kv_X1_sceneIn lk_X4_90 kC_1 (by decide) rfl rfl rfl (fun _ _ hc => c_X1_sceneIn o.mk 1 0 kC_1 hc) dX4_change_55 rfl ⟨rfl, rfl, Nat.le_of_ble_eq_true rfl, Nat.le_of_ble_eq_true rfl⟩ (Nat.le_of_ble_eq_true rfl) rfl h (fun r32 σ31 h => ?_)
        refine g_aload_n o (q := 59) 1 rfl rfl dX4_change_58 rfl ?_
        refine gf_X4_0 o (q := 62) kC_0 lk_X4_10 dX4_change_59 rfl ?_
        refine gf_X1_0 o (q := 65) kC_1 lk_X4_55 dX4_change_62 rfl ?_
        refine g_cvi o (q := 68) (As := [.int x2, .int r32, .int (σ31 1 0)]) (rest := []) kv_X0_tell lk_X4_93 (kd_cur (ka_curs kC_1) hjj30) (by decide) rfl rfl rfl (fun _ _ hc => c_X0_tell o.mk (1 + 3 + 1 + j30) x2 r32 (σ31 1 0) (kd_cur (ka_curs kC_1) hjj30) hc) dX4_change_65 rfl ⟨rfl, rfl, Nat.le_of_ble_eq_true rfl, Nat.le_of_ble_eq_true rfl⟩ (Nat.le_of_ble_eq_true rfl) rfl h (fun r34 σ33 h => ?_)
        refine g_istore o (q := 70) dX4_change_68 rfl (by decide) h (fun x35 => [(5, .int x35), (4, .ref (eA (xE X) (1 + 3 + 1 + j30))), (0, .ref (eA (xE X) 0)), (1, .int x1), (2, .int x2), (3, .int x3)]) (fun _ => rfl) (fun x35 h => ?_)
        refine g_aload o (q := 72) 1 rfl dX4_change_70 rfl ?_
        refine g_iload_n o (q := 73) 4 rfl rfl dX4_change_72 rfl ?_
        refine g_iload_n o (q := 74) 5 rfl rfl dX4_change_73 rfl ?_
        refine g_cvv o (q := 77) (As := [.int x2, .int x3]) (rest := []) kv_X0_set lk_X4_100 (kd_cur (ka_curs kC_1) hjj30) (by decide) rfl rfl rfl (fun _ _ hc => c_X0_set o.mk (1 + 3 + 1 + j30) x2 x3 (kd_cur (ka_curs kC_1) hjj30) hc) dX4_change_74 rfl ⟨rfl, rfl, Nat.le_of_ble_eq_true rfl, Nat.le_of_ble_eq_true rfl⟩ (Nat.le_of_ble_eq_true rfl) rfl h (fun _u36 σ36 h => ?_)
        refine g_iload o (q := 79) 0 rfl dX4_change_77 rfl ?_
        exact g_iret o hr (h.trans (congrArg some hres)) rfl dX4_change_79
      · refine g_sub (lv' := [(0, .ref (eA (xE X) 0))]) [0] rfl ?_
        exact w_X4_change_J30 hres o hr   h
theorem c_X4_change {l : Launch} {E : En} {mk : Mem → Mem} (hmk : MK mk sdC) (x1 : Int32) (x2 : Int32) (x3 : Int32)  {σ : Mem} {r : Int32} {τ : Mem} (h : f_X4_change x1 x2 x3 σ = some (r, τ)) : Met l yX4_change (Cond.code yX4_change cX4_change 6 (some .int) :: wt) rm_X4_change (PW E mk [.ref (eA E 0), .int x1, .int x2, .int x3] σ) (QI E mk r τ) 0 0 (WA E) :=
  met_i (fun E => [.ref (eA E 0), .int x1, .int x2, .int x3]) (by decide) hmk (Nat.le_of_ble_eq_true rfl) (fun X o hr => w_X4_change rfl o hr x1 x2 x3  h)
set_option maxRecDepth 100000 in
set_option maxHeartbeats 4000000 in
theorem w_X4_pull_J18 {X : Cx} {l : Launch} {r : Int32} {σr : Mem} {res : Int32 × Mem} (hres : res = (r, σr)) (o : OK X cX4_pull RX4 sdC 4 rm_X4_pull l) (hr : RI X .int r σr)     {σ : Mem} (h : f_X4_pull_J18   σ = some res) : G X σ 18 [(0, .ref (eA (xE X) 0))] [] := by
  unfold f_X4_pull_J18 at h
  refine g_aload_n o (q := 19) 0 rfl rfl dX4_pull_18 rfl ?_
  refine g_iconst o (v := 0) (q := 20) (by decide) dX4_pull_19 rfl ?_
  refine g_cvi o (q := 23) (As := [.int 0]) (rest := []) kv_X4_find lk_X4_51 kC_0 (by decide) rfl rfl rfl (fun _ _ hc => c_X4_find o.mk 0 hc) dX4_pull_20 rfl ⟨rfl, rfl, Nat.le_of_ble_eq_true rfl, Nat.le_of_ble_eq_true rfl⟩ (Nat.le_of_ble_eq_true rfl) rfl h (fun r24 σ23 h => ?_)
  exact g_iret o hr (h.trans (congrArg some hres)) rfl dX4_pull_23
set_option maxRecDepth 100000 in
set_option maxHeartbeats 4000000 in
theorem w_X4_pull {X : Cx} {l : Launch} {r : Int32} {σr : Mem} {res : Int32 × Mem} (hres : res = (r, σr)) (o : OK X cX4_pull RX4 sdC 4 rm_X4_pull l) (hr : RI X .int r σr) (x1 : Int32) (x2 : Int32)  {σ : Mem} (h : f_X4_pull x1 x2 σ = some res) : G X σ 0 [(0, .ref (eA (xE X) 0)), (1, .int x1), (2, .int x2)] [] := by
  unfold f_X4_pull at h
  refine g_aload_n o (q := 1) 0 rfl rfl dX4_pull_0 rfl ?_
  refine g_iload_n o (q := 2) 1 rfl rfl dX4_pull_1 rfl ?_
  refine g_cvi o (q := 5) (As := [.int x1]) (rest := []) kv_X4_isCurtain lk_X4_83 kC_0 (by decide) rfl rfl rfl (fun _ _ hc => c_X4_isCurtain o.mk x1 hc) dX4_pull_2 rfl ⟨rfl, rfl, Nat.le_of_ble_eq_true rfl, Nat.le_of_ble_eq_true rfl⟩ (Nat.le_of_ble_eq_true rfl) rfl h (fun r22 σ21 h => ?_)
  refine g_if_eq o (tgt := 18) (q := 8) dX4_pull_5 (by decide) rfl h (fun h => ?_) (fun h => ?_)
  · refine g_sub (lv' := [(0, .ref (eA (xE X) 0))]) [0] rfl ?_
    exact w_X4_pull_J18 hres o hr   h
  · refine g_iload_n o (q := 9) 2 rfl rfl dX4_pull_8 rfl ?_
    refine g_iconst o (v := 1) (q := 10) (by decide) dX4_pull_9 rfl ?_
    refine g_bipush o (v := 40) (q := 12) (by decide) dX4_pull_10 rfl ?_
    refine g_csi o (q := 15) (As := [.int x2, .int 1, .int 40]) (rest := []) kv_X4_isWithin lk_X4_47 rfl (fun _ _ hc => c_X4_isWithin o.mk x2 1 40 hc) dX4_pull_12 rfl ⟨rfl, rfl, Nat.le_of_ble_eq_true rfl, Nat.le_of_ble_eq_true rfl⟩ (Nat.le_of_ble_eq_true rfl) rfl h (fun r26 σ25 h => ?_)
    refine g_if_ne o (tgt := 24) (q := 18) dX4_pull_15 (by decide) rfl h (fun h => ?_) (fun h => ?_)
    · refine g_aload_n o (q := 25) 0 rfl rfl dX4_pull_24 rfl ?_
      refine gf_X4_0 o (q := 28) kC_0 lk_X4_10 dX4_pull_25 rfl ?_
      refine gf_X1_8 o (q := 31) kC_1 lk_X4_86 dX4_pull_28 rfl ?_
      refine g_iload_n o (q := 32) 1 rfl rfl dX4_pull_31 rfl ?_
      refine g_aald8 o (q := 33) (ka_curs kC_1) dX4_pull_32 rfl h (fun j27 hjj27 h => ?_)
      refine g_astore_n o (q := 34) dX4_pull_33 rfl rfl (by decide) [(3, .ref (eA (xE X) (1 + 3 + 1 + j27))), (0, .ref (eA (xE X) 0)), (1, .int x1), (2, .int x2)] rfl ?_
      refine g_aload_n o (q := 35) 0 rfl rfl dX4_pull_34 rfl ?_
      refine gf_X0_4 o (q := 38) (kd_cur (ka_curs kC_1) hjj27) lk_X4_104 dX4_pull_35 rfl ?_
      refine g_iconst o (v := 1) (q := 39) (by decide) dX4_pull_38 rfl ?_
      refine g_icmp_ne o (tgt := 48) (q := 42) dX4_pull_39 (by decide) rfl h (fun h => ?_) (fun h => ?_)
      · refine g_aload_n o (q := 49) 0 rfl rfl dX4_pull_48 rfl ?_
        refine g_iload_n o (q := 50) 3 rfl rfl dX4_pull_49 rfl ?_
        refine g_cvv o (q := 53) (As := [.int x2]) (rest := []) kv_X0_getPulled lk_X4_107 (kd_cur (ka_curs kC_1) hjj27) (by decide) rfl rfl rfl (fun _ _ hc => c_X0_getPulled o.mk (1 + 3 + 1 + j27) x2 (kd_cur (ka_curs kC_1) hjj27) hc) dX4_pull_50 rfl ⟨rfl, rfl, Nat.le_of_ble_eq_true rfl, Nat.le_of_ble_eq_true rfl⟩ (Nat.le_of_ble_eq_true rfl) rfl h (fun _u28 σ28 h => ?_)
        refine g_aload_n o (q := 54) 0 rfl rfl dX4_pull_53 rfl ?_
        refine gf_X0_3 o (q := 57) (kd_cur (ka_curs kC_1) hjj27) lk_X4_111 dX4_pull_54 rfl ?_
        exact g_iret o hr (h.trans (congrArg some hres)) rfl dX4_pull_57
      · refine g_aload_n o (q := 43) 1 rfl rfl dX4_pull_42 rfl ?_
        refine g_iconst o (v := 4) (q := 44) (by decide) dX4_pull_43 rfl ?_
        refine g_cvi o (q := 47) (As := [.int 4]) (rest := []) kv_X4_find lk_X4_51 kC_0 (by decide) rfl rfl rfl (fun _ _ hc => c_X4_find o.mk 4 hc) dX4_pull_44 rfl ⟨rfl, rfl, Nat.le_of_ble_eq_true rfl, Nat.le_of_ble_eq_true rfl⟩ (Nat.le_of_ble_eq_true rfl) rfl h (fun r30 σ29 h => ?_)
        exact g_iret o hr (h.trans (congrArg some hres)) rfl dX4_pull_47
    · refine g_sub (lv' := [(0, .ref (eA (xE X) 0))]) [0] rfl ?_
      exact w_X4_pull_J18 hres o hr   h
theorem c_X4_pull {l : Launch} {E : En} {mk : Mem → Mem} (hmk : MK mk sdC) (x1 : Int32) (x2 : Int32)  {σ : Mem} {r : Int32} {τ : Mem} (h : f_X4_pull x1 x2 σ = some (r, τ)) : Met l yX4_pull (Cond.code yX4_pull cX4_pull 4 (some .int) :: wt) rm_X4_pull (PW E mk [.ref (eA E 0), .int x1, .int x2] σ) (QI E mk r τ) 0 0 (WA E) :=
  met_i (fun E => [.ref (eA E 0), .int x1, .int x2]) (by decide) hmk (Nat.le_of_ble_eq_true rfl) (fun X o hr => w_X4_pull rfl o hr x1 x2  h)
set_option maxRecDepth 100000 in
set_option maxHeartbeats 4000000 in
theorem w_X4_go {X : Cx} {l : Launch} {r : Int32} {σr : Mem} {res : Int32 × Mem} (hres : res = (r, σr)) (o : OK X cX4_go RX4 sdC 2 rm_X4_go l) (hr : RI X .int r σr) (x1 : Int32)  {σ : Mem} (h : f_X4_go x1 σ = some res) : G X σ 0 [(0, .ref (eA (xE X) 0)), (1, .int x1)] [] := by
  unfold f_X4_go at h
  refine g_iload_n o (q := 1) 1 rfl rfl dX4_go_0 rfl ?_
  refine g_iconst o (v := 1) (q := 2) (by decide) dX4_go_1 rfl ?_
  refine g_bipush o (v := 60) (q := 4) (by decide) dX4_go_2 rfl ?_
  refine g_csi o (q := 7) (As := [.int x1, .int 1, .int 60]) (rest := []) kv_X4_isWithin lk_X4_47 rfl (fun _ _ hc => c_X4_isWithin o.mk x1 1 60 hc) dX4_go_4 rfl ⟨rfl, rfl, Nat.le_of_ble_eq_true rfl, Nat.le_of_ble_eq_true rfl⟩ (Nat.le_of_ble_eq_true rfl) rfl h (fun r22 σ21 h => ?_)
  refine g_if_ne o (tgt := 16) (q := 10) dX4_go_7 (by decide) rfl h (fun h => ?_) (fun h => ?_)
  · refine g_aload_n o (q := 17) 0 rfl rfl dX4_go_16 rfl ?_
    refine gf_X4_0 o (q := 20) kC_0 lk_X4_10 dX4_go_17 rfl ?_
    refine gf_X1_3 o (q := 23) kC_1 lk_X4_114 dX4_go_20 rfl ?_
    refine g_ldc o (q := 25) lk_X4_117 dX4_go_23 rfl ?_
    refine g_iload_n o (q := 26) 1 rfl rfl dX4_go_25 rfl ?_
    refine g_isub o (q := 27) dX4_go_26 rfl ?_
    refine g_icmp_le o (tgt := 36) (q := 30) dX4_go_27 (by decide) rfl h (fun h => ?_) (fun h => ?_)
    · refine g_aload_n o (q := 37) 0 rfl rfl dX4_go_36 rfl ?_
      refine gf_X4_0 o (q := 40) kC_0 lk_X4_10 dX4_go_37 rfl ?_
      refine g_iload_n o (q := 41) 1 rfl rfl dX4_go_40 rfl ?_
      refine g_cvv o (q := 44) (As := [.int x1]) (rest := []) kv_X1_passBeats lk_X4_118 kC_1 (by decide) rfl rfl rfl (fun _ _ hc => c_X1_passBeats o.mk 1 x1 kC_1 hc) dX4_go_41 rfl ⟨rfl, rfl, Nat.le_of_ble_eq_true rfl, Nat.le_of_ble_eq_true rfl⟩ (Nat.le_of_ble_eq_true rfl) rfl h (fun _u23 σ23 h => ?_)
      refine g_aload_n o (q := 45) 0 rfl rfl dX4_go_44 rfl ?_
      refine gf_X4_0 o (q := 48) kC_0 lk_X4_10 dX4_go_45 rfl ?_
      refine gf_X1_1 o (q := 51) kC_1 lk_X4_121 dX4_go_48 rfl ?_
      exact g_iret o hr (h.trans (congrArg some hres)) rfl dX4_go_51
    · refine g_aload_n o (q := 31) 0 rfl rfl dX4_go_30 rfl ?_
      refine g_iconst o (v := 4) (q := 32) (by decide) dX4_go_31 rfl ?_
      refine g_cvi o (q := 35) (As := [.int 4]) (rest := []) kv_X4_find lk_X4_51 kC_0 (by decide) rfl rfl rfl (fun _ _ hc => c_X4_find o.mk 4 hc) dX4_go_32 rfl ⟨rfl, rfl, Nat.le_of_ble_eq_true rfl, Nat.le_of_ble_eq_true rfl⟩ (Nat.le_of_ble_eq_true rfl) rfl h (fun r25 σ24 h => ?_)
      exact g_iret o hr (h.trans (congrArg some hres)) rfl dX4_go_35
  · refine g_aload_n o (q := 11) 0 rfl rfl dX4_go_10 rfl ?_
    refine g_iconst o (v := 0) (q := 12) (by decide) dX4_go_11 rfl ?_
    refine g_cvi o (q := 15) (As := [.int 0]) (rest := []) kv_X4_find lk_X4_51 kC_0 (by decide) rfl rfl rfl (fun _ _ hc => c_X4_find o.mk 0 hc) dX4_go_12 rfl ⟨rfl, rfl, Nat.le_of_ble_eq_true rfl, Nat.le_of_ble_eq_true rfl⟩ (Nat.le_of_ble_eq_true rfl) rfl h (fun r27 σ26 h => ?_)
    exact g_iret o hr (h.trans (congrArg some hres)) rfl dX4_go_15
theorem c_X4_go {l : Launch} {E : En} {mk : Mem → Mem} (hmk : MK mk sdC) (x1 : Int32)  {σ : Mem} {r : Int32} {τ : Mem} (h : f_X4_go x1 σ = some (r, τ)) : Met l yX4_go (Cond.code yX4_go cX4_go 2 (some .int) :: wt) rm_X4_go (PW E mk [.ref (eA E 0), .int x1] σ) (QI E mk r τ) 0 0 (WA E) :=
  met_i (fun E => [.ref (eA E 0), .int x1]) (by decide) hmk (Nat.le_of_ble_eq_true rfl) (fun X o hr => w_X4_go rfl o hr x1  h)
set_option maxRecDepth 100000 in
set_option maxHeartbeats 4000000 in
theorem w_X4_now {X : Cx} {l : Launch} {r : Int32} {σr : Mem} {res : Int32 × Mem} (hres : res = (r, σr)) (o : OK X cX4_now RX4 sdC 2 rm_X4_now l) (hr : RI X .int r σr) (x1 : Int32)  {σ : Mem} (h : f_X4_now x1 σ = some res) : G X σ 0 [(0, .ref (eA (xE X) 0)), (1, .int x1)] [] := by
  unfold f_X4_now at h
  refine g_iload_n o (q := 1) 1 rfl rfl dX4_now_0 rfl ?_
  refine g_swIn o (tgt := 48) (off := 47) 0 dX4_now_1 (by decide) (by decide) (by decide +kernel) (by decide) h (fun h => ?_) (fun c0 h => ?_)
  · refine g_aload_n o (q := 49) 0 rfl rfl dX4_now_48 rfl ?_
    refine gf_X4_0 o (q := 52) kC_0 lk_X4_10 dX4_now_49 rfl ?_
    refine gf_X1_3 o (q := 55) kC_1 lk_X4_114 dX4_now_52 rfl ?_
    exact g_iret o hr (h.trans (congrArg some hres)) rfl dX4_now_55
  refine g_swIn o (tgt := 56) (off := 55) 1 dX4_now_1 (by decide) (by decide) (by decide +kernel) (by decide) h (fun h => ?_) (fun c1 h => ?_)
  · refine g_aload_n o (q := 57) 0 rfl rfl dX4_now_56 rfl ?_
    refine gf_X4_0 o (q := 60) kC_0 lk_X4_10 dX4_now_57 rfl ?_
    refine gf_X1_1 o (q := 63) kC_1 lk_X4_121 dX4_now_60 rfl ?_
    exact g_iret o hr (h.trans (congrArg some hres)) rfl dX4_now_63
  refine g_swIn o (tgt := 64) (off := 63) 2 dX4_now_1 (by decide) (by decide) (by decide +kernel) (by decide) h (fun h => ?_) (fun c2 h => ?_)
  · refine g_aload_n o (q := 65) 0 rfl rfl dX4_now_64 rfl ?_
    refine gf_X4_0 o (q := 68) kC_0 lk_X4_10 dX4_now_65 rfl ?_
    refine gf_X1_2 o (q := 71) kC_1 lk_X4_124 dX4_now_68 rfl ?_
    exact g_iret o hr (h.trans (congrArg some hres)) rfl dX4_now_71
  refine g_swIn o (tgt := 72) (off := 71) 3 dX4_now_1 (by decide) (by decide) (by decide +kernel) (by decide) h (fun h => ?_) (fun c3 h => ?_)
  · refine g_aload_n o (q := 73) 0 rfl rfl dX4_now_72 rfl ?_
    refine gf_X4_0 o (q := 76) kC_0 lk_X4_10 dX4_now_73 rfl ?_
    refine g_cvi o (q := 79) (As := []) (rest := []) kv_X1_thoseDown lk_X4_127 kC_1 (by decide) rfl rfl rfl (fun _ _ hc => c_X1_thoseDown o.mk 1 kC_1 hc) dX4_now_76 rfl ⟨rfl, rfl, Nat.le_of_ble_eq_true rfl, Nat.le_of_ble_eq_true rfl⟩ (Nat.le_of_ble_eq_true rfl) rfl h (fun r22 σ21 h => ?_)
    exact g_iret o hr (h.trans (congrArg some hres)) rfl dX4_now_79
  refine g_swIn o (tgt := 80) (off := 79) 4 dX4_now_1 (by decide) (by decide) (by decide +kernel) (by decide) h (fun h => ?_) (fun c4 h => ?_)
  · refine g_aload_n o (q := 81) 0 rfl rfl dX4_now_80 rfl ?_
    refine gf_X4_0 o (q := 84) kC_0 lk_X4_10 dX4_now_81 rfl ?_
    refine g_cvi o (q := 87) (As := []) (rest := []) kv_X1_thoseWeary lk_X4_131 kC_1 (by decide) rfl rfl rfl (fun _ _ hc => c_X1_thoseWeary o.mk 1 kC_1 hc) dX4_now_84 rfl ⟨rfl, rfl, Nat.le_of_ble_eq_true rfl, Nat.le_of_ble_eq_true rfl⟩ (Nat.le_of_ble_eq_true rfl) rfl h (fun r24 σ23 h => ?_)
    exact g_iret o hr (h.trans (congrArg some hres)) rfl dX4_now_87
  refine g_swIn o (tgt := 88) (off := 87) 5 dX4_now_1 (by decide) (by decide) (by decide +kernel) (by decide) h (fun h => ?_) (fun c5 h => ?_)
  · refine g_aload_n o (q := 89) 0 rfl rfl dX4_now_88 rfl ?_
    refine gf_X4_0 o (q := 92) kC_0 lk_X4_10 dX4_now_89 rfl ?_
    refine g_cvi o (q := 95) (As := []) (rest := []) kv_X1_allMoods lk_X4_134 kC_1 (by decide) rfl rfl rfl (fun _ _ hc => c_X1_allMoods o.mk 1 kC_1 hc) dX4_now_92 rfl ⟨rfl, rfl, Nat.le_of_ble_eq_true rfl, Nat.le_of_ble_eq_true rfl⟩ (Nat.le_of_ble_eq_true rfl) rfl h (fun r26 σ25 h => ?_)
    exact g_iret o hr (h.trans (congrArg some hres)) rfl dX4_now_95
  refine g_swIn o (tgt := 96) (off := 95) 6 dX4_now_1 (by decide) (by decide) (by decide +kernel) (by decide) h (fun h => ?_) (fun c6 h => ?_)
  · refine g_aload_n o (q := 97) 0 rfl rfl dX4_now_96 rfl ?_
    refine gf_X4_0 o (q := 100) kC_0 lk_X4_10 dX4_now_97 rfl ?_
    refine g_cvi o (q := 103) (As := []) (rest := []) kv_X1_allLikes lk_X4_137 kC_1 (by decide) rfl rfl rfl (fun _ _ hc => c_X1_allLikes o.mk 1 kC_1 hc) dX4_now_100 rfl ⟨rfl, rfl, Nat.le_of_ble_eq_true rfl, Nat.le_of_ble_eq_true rfl⟩ (Nat.le_of_ble_eq_true rfl) rfl h (fun r28 σ27 h => ?_)
    exact g_iret o hr (h.trans (congrArg some hres)) rfl dX4_now_103
  refine g_swIn o (tgt := 104) (off := 103) 7 dX4_now_1 (by decide) (by decide) (by decide +kernel) (by decide) h (fun h => ?_) (fun c7 h => ?_)
  · refine g_aload_n o (q := 105) 0 rfl rfl dX4_now_104 rfl ?_
    refine gf_X4_0 o (q := 108) kC_0 lk_X4_10 dX4_now_105 rfl ?_
    refine gf_X1_0 o (q := 111) kC_1 lk_X4_55 dX4_now_108 rfl ?_
    exact g_iret o hr (h.trans (congrArg some hres)) rfl dX4_now_111
  refine g_swOut o (tgt := 112) dX4_now_1 (sw_out (by decide) (by decide) (fun k h1 h2 => by rcases (show k = 0 ∨ k = 1 ∨ k = 2 ∨ k = 3 ∨ k = 4 ∨ k = 5 ∨ k = 6 ∨ k = 7 by omega) with rfl | rfl | rfl | rfl | rfl | rfl | rfl | rfl <;> assumption)) (by decide) ?_
  refine g_aload_n o (q := 113) 0 rfl rfl dX4_now_112 rfl ?_
  refine g_iconst o (v := 0) (q := 114) (by decide) dX4_now_113 rfl ?_
  refine g_cvi o (q := 117) (As := [.int 0]) (rest := []) kv_X4_find lk_X4_51 kC_0 (by decide) rfl rfl rfl (fun _ _ hc => c_X4_find o.mk 0 hc) dX4_now_114 rfl ⟨rfl, rfl, Nat.le_of_ble_eq_true rfl, Nat.le_of_ble_eq_true rfl⟩ (Nat.le_of_ble_eq_true rfl) rfl h (fun r30 σ29 h => ?_)
  exact g_iret o hr (h.trans (congrArg some hres)) rfl dX4_now_117
theorem c_X4_now {l : Launch} {E : En} {mk : Mem → Mem} (hmk : MK mk sdC) (x1 : Int32)  {σ : Mem} {r : Int32} {τ : Mem} (h : f_X4_now x1 σ = some (r, τ)) : Met l yX4_now (Cond.code yX4_now cX4_now 2 (some .int) :: wt) rm_X4_now (PW E mk [.ref (eA E 0), .int x1] σ) (QI E mk r τ) 0 0 (WA E) :=
  met_i (fun E => [.ref (eA E 0), .int x1]) (by decide) hmk (Nat.le_of_ble_eq_true rfl) (fun X o hr => w_X4_now rfl o hr x1  h)
set_option maxRecDepth 100000 in
set_option maxHeartbeats 4000000 in
theorem w_X4_passProbe_J47 {X : Cx} {l : Launch} {r : Int32} {σr : Mem} {res : Int32 × Mem} (hres : res = (r, σr)) (o : OK X cX4_passProbe RX4 sdC 4 rm_X4_passProbe l) (hr : RI X .int r σr) {k4 : Int32 → Int32 → Int32 → Mem → Option (Int32 × Mem)} (hk4 : ∀ (y1 : Int32) (y2 : Int32) (y3 : Int32) (σ : Mem), k4 y1 y2 y3 σ = some res → G X σ 4 [(0, .ref (eA (xE X) 0)), (1, .int y1), (2, .int y2), (3, .int y3)] []) {y1 : Int32} {y2 : Int32} {y3 : Int32}  {σ : Mem} (h : f_X4_passProbe_J47 k4 y1 y2 y3 σ = some res) : G X σ 47 [(0, .ref (eA (xE X) 0)), (1, .int y1), (2, .int y2), (3, .int y3)] [] := by
  unfold f_X4_passProbe_J47 at h
  refine g_iinc o (q := 50) (dn := 1) dX4_passProbe_47 rfl 3 rfl (by decide) (by decide) h (fun x27 => [(3, .int x27), (0, .ref (eA (xE X) 0)), (1, .int y1), (2, .int y2)]) (fun _ => rfl) (fun x27 h => ?_)
  refine g_goto o (tgt := 4) dX4_passProbe_50 (by decide) ?_
  refine g_sub (lv' := [(0, .ref (eA (xE X) 0)), (1, .int y1), (2, .int y2), (3, .int x27)]) [1, 2, 3, 0] rfl ?_
  exact hk4 y1 y2 x27 σ  h
set_option maxRecDepth 100000 in
set_option maxHeartbeats 4000000 in
theorem w_X4_passProbe_L4 {X : Cx} {l : Launch} {r : Int32} {σr : Mem} {res : Int32 × Mem} (hres : res = (r, σr)) (o : OK X cX4_passProbe RX4 sdC 4 rm_X4_passProbe l) (hr : RI X .int r σr)   : ∀ (n : Nat) (y1 : Int32) (y2 : Int32) (y3 : Int32) (σ : Mem), f_X4_passProbe_L4  n y1 y2 y3 σ = some res → G X σ 4 [(0, .ref (eA (xE X) 0)), (1, .int y1), (2, .int y2), (3, .int y3)] [] := by
  intro n
  induction n with
  | zero => intro y1 y2 y3 σ  h; cases h
  | succ n ih =>
    intro y1 y2 y3 σ  h
    rw [f_X4_passProbe_L4_s] at h
    refine g_iload_n o (q := 5) 3 rfl rfl dX4_passProbe_4 rfl ?_
    refine g_iload_n o (q := 6) 1 rfl rfl dX4_passProbe_5 rfl ?_
    refine g_icmp_ge o (tgt := 53) (q := 9) dX4_passProbe_6 (by decide) rfl h (fun h => ?_) (fun h => ?_)
    · refine g_iload_n o (q := 54) 2 rfl rfl dX4_passProbe_53 rfl ?_
      exact g_iret o hr (h.trans (congrArg some hres)) rfl dX4_passProbe_54
    · refine g_aload_n o (q := 10) 0 rfl rfl dX4_passProbe_9 rfl ?_
      refine gf_X4_4 o (q := 13) kC_0 lk_X4_25 dX4_passProbe_10 rfl ?_
      refine g_aload_n o (q := 14) 0 rfl rfl dX4_passProbe_13 rfl ?_
      refine gf_X4_0 o (q := 17) kC_0 lk_X4_10 dX4_passProbe_14 rfl ?_
      refine g_iload_n o (q := 18) 3 rfl rfl dX4_passProbe_17 rfl ?_
      refine g_cvi o (q := 21) (As := [.int y3]) (rest := [.ref (eA (xE X) 37)]) kv_X1_sceneIn lk_X4_90 kC_1 (by decide) rfl rfl rfl (fun _ _ hc => c_X1_sceneIn o.mk 1 y3 kC_1 hc) dX4_passProbe_18 rfl ⟨rfl, rfl, Nat.le_of_ble_eq_true rfl, Nat.le_of_ble_eq_true rfl⟩ (Nat.le_of_ble_eq_true rfl) rfl h (fun r24 σ23 h => ?_)
      refine g_aload_n o (q := 22) 0 rfl rfl dX4_passProbe_21 rfl ?_
      refine gf_X4_0 o (q := 25) kC_0 lk_X4_10 dX4_passProbe_22 rfl ?_
      refine gf_X1_0 o (q := 28) kC_1 lk_X4_55 dX4_passProbe_25 rfl ?_
      refine g_cvi o (q := 31) (As := [.int r24, .int (σ23 1 0)]) (rest := []) kv_X0_passBeat lk_X4_252 kC_37 (by decide) rfl rfl rfl (fun _ _ hc => c_X0_passBeat o.mk 37 r24 (σ23 1 0) kC_37 hc) dX4_passProbe_28 rfl ⟨rfl, rfl, Nat.le_of_ble_eq_true rfl, Nat.le_of_ble_eq_true rfl⟩ (Nat.le_of_ble_eq_true rfl) rfl h (fun r26 σ25 h => ?_)
      refine g_if_eq o (tgt := 47) (q := 34) dX4_passProbe_31 (by decide) rfl h (fun h => ?_) (fun h => ?_)
      · exact w_X4_passProbe_J47 hres o hr ih  h
      · refine g_aload_n o (q := 35) 0 rfl rfl dX4_passProbe_34 rfl ?_
        refine gf_X4_0 o (q := 38) kC_0 lk_X4_10 dX4_passProbe_35 rfl ?_
        refine gf_X1_0 o (q := 41) kC_1 lk_X4_55 dX4_passProbe_38 rfl ?_
        refine g_if_ne o (tgt := 47) (q := 44) dX4_passProbe_41 (by decide) rfl h (fun h => ?_) (fun h => ?_)
        · exact w_X4_passProbe_J47 hres o hr ih  h
        · refine g_iinc o (q := 47) (dn := 1) dX4_passProbe_44 rfl 2 rfl (by decide) (by decide) h (fun x28 => [(2, .int x28), (0, .ref (eA (xE X) 0)), (1, .int y1), (3, .int y3)]) (fun _ => rfl) (fun x28 h => ?_)
          refine g_sub (lv' := [(0, .ref (eA (xE X) 0)), (1, .int y1), (2, .int x28), (3, .int y3)]) [1, 2, 0, 3] rfl ?_
          exact w_X4_passProbe_J47 hres o hr ih  h
set_option maxRecDepth 100000 in
set_option maxHeartbeats 4000000 in
theorem w_X4_passProbe {X : Cx} {l : Launch} {r : Int32} {σr : Mem} {res : Int32 × Mem} (hres : res = (r, σr)) (o : OK X cX4_passProbe RX4 sdC 4 rm_X4_passProbe l) (hr : RI X .int r σr) (x1 : Int32)  {σ : Mem} (h : f_X4_passProbe x1 σ = some res) : G X σ 0 [(0, .ref (eA (xE X) 0)), (1, .int x1)] [] := by
  unfold f_X4_passProbe at h
  refine g_iconst o (v := 0) (q := 1) (by decide) dX4_passProbe_0 rfl ?_
  refine g_istore_n o (q := 2) dX4_passProbe_1 rfl rfl (by decide) h (fun x21 => [(2, .int x21), (0, .ref (eA (xE X) 0)), (1, .int x1)]) (fun _ => rfl) (fun x21 h => ?_)
  refine g_iconst o (v := 0) (q := 3) (by decide) dX4_passProbe_2 rfl ?_
  refine g_istore_n o (q := 4) dX4_passProbe_3 rfl rfl (by decide) h (fun x22 => [(3, .int x22), (2, .int x21), (0, .ref (eA (xE X) 0)), (1, .int x1)]) (fun _ => rfl) (fun x22 h => ?_)
  refine g_sub (lv' := [(0, .ref (eA (xE X) 0)), (1, .int x1), (2, .int x21), (3, .int x22)]) [2, 3, 1, 0] rfl ?_
  exact w_X4_passProbe_L4 hres o hr  FU x1 x21 x22 σ  h
theorem c_X4_passProbe {l : Launch} {E : En} {mk : Mem → Mem} (hmk : MK mk sdC) (x1 : Int32)  {σ : Mem} {r : Int32} {τ : Mem} (h : f_X4_passProbe x1 σ = some (r, τ)) : Met l yX4_passProbe (Cond.code yX4_passProbe cX4_passProbe 4 (some .int) :: wt) rm_X4_passProbe (PW E mk [.ref (eA E 0), .int x1] σ) (QI E mk r τ) 0 0 (WA E) :=
  met_i (fun E => [.ref (eA E 0), .int x1]) (by decide) hmk (Nat.le_of_ble_eq_true rfl) (fun X o hr => w_X4_passProbe rfl o hr x1  h)
set_option maxRecDepth 100000 in
set_option maxHeartbeats 4000000 in
theorem w_X4_ahead_J51 {X : Cx} {l : Launch} {r : Int32} {σr : Mem} {res : Int32 × Mem} (hres : res = (r, σr)) (o : OK X cX4_ahead RX4 sdC 5 rm_X4_ahead l) (hr : RI X .int r σr)     {σ : Mem} (h : f_X4_ahead_J51   σ = some res) : G X σ 51 [(0, .ref (eA (xE X) 0))] [] := by
  unfold f_X4_ahead_J51 at h
  refine g_aload_n o (q := 52) 0 rfl rfl dX4_ahead_51 rfl ?_
  refine g_iconst o (v := 0) (q := 53) (by decide) dX4_ahead_52 rfl ?_
  refine g_cvi o (q := 56) (As := [.int 0]) (rest := []) kv_X4_find lk_X4_51 kC_0 (by decide) rfl rfl rfl (fun _ _ hc => c_X4_find o.mk 0 hc) dX4_ahead_53 rfl ⟨rfl, rfl, Nat.le_of_ble_eq_true rfl, Nat.le_of_ble_eq_true rfl⟩ (Nat.le_of_ble_eq_true rfl) rfl h (fun r25 σ24 h => ?_)
  exact g_iret o hr (h.trans (congrArg some hres)) rfl dX4_ahead_56
set_option maxRecDepth 100000 in
set_option maxHeartbeats 4000000 in
theorem w_X4_ahead_J26 {X : Cx} {l : Launch} {r : Int32} {σr : Mem} {res : Int32 × Mem} (hres : res = (r, σr)) (o : OK X cX4_ahead RX4 sdC 5 rm_X4_ahead l) (hr : RI X .int r σr)   {y1 : Int32} {y2 : Int32} {y3 : Int32} {s0 : Int32}  {σ : Mem} (h : f_X4_ahead_J26  y1 y2 y3 s0 σ = some res) : G X σ 26 [(0, .ref (eA (xE X) 0)), (1, .int y1), (2, .int y2), (3, .int y3)] [.int s0] := by
  unfold f_X4_ahead_J26 at h
  refine g_istore o (q := 28) dX4_ahead_26 rfl (by decide) h (fun x21 => [(4, .int x21), (0, .ref (eA (xE X) 0)), (1, .int y1), (2, .int y2), (3, .int y3)]) (fun _ => rfl) (fun x21 h => ?_)
  refine g_aload_n o (q := 29) 1 rfl rfl dX4_ahead_28 rfl ?_
  refine g_iload_n o (q := 30) 2 rfl rfl dX4_ahead_29 rfl ?_
  refine g_cvi o (q := 33) (As := [.int y1]) (rest := []) kv_X4_isCurtain lk_X4_83 kC_0 (by decide) rfl rfl rfl (fun _ _ hc => c_X4_isCurtain o.mk y1 hc) dX4_ahead_30 rfl ⟨rfl, rfl, Nat.le_of_ble_eq_true rfl, Nat.le_of_ble_eq_true rfl⟩ (Nat.le_of_ble_eq_true rfl) rfl h (fun r23 σ22 h => ?_)
  refine g_if_eq o (tgt := 51) (q := 36) dX4_ahead_33 (by decide) rfl h (fun h => ?_) (fun h => ?_)
  · refine g_sub (lv' := [(0, .ref (eA (xE X) 0))]) [1] rfl ?_
    exact w_X4_ahead_J51 hres o hr   h
  · refine g_iload o (q := 38) 0 rfl dX4_ahead_36 rfl ?_
    refine g_if_eq o (tgt := 51) (q := 41) dX4_ahead_38 (by decide) rfl h (fun h => ?_) (fun h => ?_)
    · refine g_sub (lv' := [(0, .ref (eA (xE X) 0))]) [1] rfl ?_
      exact w_X4_ahead_J51 hres o hr   h
    · refine g_iload_n o (q := 42) 4 rfl rfl dX4_ahead_41 rfl ?_
      refine g_iconst o (v := 0) (q := 43) (by decide) dX4_ahead_42 rfl ?_
      refine g_bipush o (v := 100) (q := 45) (by decide) dX4_ahead_43 rfl ?_
      refine g_csi o (q := 48) (As := [.int y3, .int 0, .int 100]) (rest := []) kv_X4_isWithin lk_X4_47 rfl (fun _ _ hc => c_X4_isWithin o.mk y3 0 100 hc) dX4_ahead_45 rfl ⟨rfl, rfl, Nat.le_of_ble_eq_true rfl, Nat.le_of_ble_eq_true rfl⟩ (Nat.le_of_ble_eq_true rfl) rfl h (fun r27 σ26 h => ?_)
      refine g_if_ne o (tgt := 57) (q := 51) dX4_ahead_48 (by decide) rfl h (fun h => ?_) (fun h => ?_)
      · refine g_aload_n o (q := 58) 1 rfl rfl dX4_ahead_57 rfl ?_
        refine gf_X4_4 o (q := 61) kC_0 lk_X4_25 dX4_ahead_58 rfl ?_
        refine g_aload_n o (q := 62) 1 rfl rfl dX4_ahead_61 rfl ?_
        refine gf_X4_0 o (q := 65) kC_0 lk_X4_10 dX4_ahead_62 rfl ?_
        refine gf_X1_8 o (q := 68) kC_1 lk_X4_86 dX4_ahead_65 rfl ?_
        refine g_iload_n o (q := 69) 2 rfl rfl dX4_ahead_68 rfl ?_
        refine g_aald8 o (q := 70) (ka_curs kC_1) dX4_ahead_69 rfl h (fun j28 hjj28 h => ?_)
        refine g_cvv o (q := 73) (As := [.ref (eA (xE X) (1 + 3 + 1 + j28))]) (rest := []) kv_X0_take lk_X4_140 kC_37 (by decide) rfl rfl rfl (fun _ _ hc => c_X0_take o.mk 37 (1 + 3 + 1 + j28) kC_37 (kd_cur (ka_curs kC_1) hjj28) hc) dX4_ahead_70 rfl ⟨rfl, rfl, Nat.le_of_ble_eq_true rfl, Nat.le_of_ble_eq_true rfl⟩ (Nat.le_of_ble_eq_true rfl) rfl h (fun _u29 σ29 h => ?_)
        refine g_aload_n o (q := 74) 1 rfl rfl dX4_ahead_73 rfl ?_
        refine g_iload_n o (q := 75) 4 rfl rfl dX4_ahead_74 rfl ?_
        refine g_cvi o (q := 78) (As := [.int y3]) (rest := []) kv_X4_passProbe lk_X4_144 kC_0 (by decide) rfl rfl rfl (fun _ _ hc => c_X4_passProbe o.mk y3 hc) dX4_ahead_75 rfl ⟨rfl, rfl, Nat.le_of_ble_eq_true rfl, Nat.le_of_ble_eq_true rfl⟩ (Nat.le_of_ble_eq_true rfl) rfl h (fun r31 σ30 h => ?_)
        refine g_pop o (q := 79) rfl dX4_ahead_78 rfl ?_
        refine g_aload_n o (q := 80) 1 rfl rfl dX4_ahead_79 rfl ?_
        refine gf_X4_4 o (q := 83) kC_0 lk_X4_25 dX4_ahead_80 rfl ?_
        refine g_iload_n o (q := 84) 3 rfl rfl dX4_ahead_83 rfl ?_
        refine g_aload_n o (q := 85) 1 rfl rfl dX4_ahead_84 rfl ?_
        refine gf_X4_0 o (q := 88) kC_0 lk_X4_10 dX4_ahead_85 rfl ?_
        refine g_iload_n o (q := 89) 4 rfl rfl dX4_ahead_88 rfl ?_
        refine g_cvi o (q := 92) (As := [.int y3]) (rest := [.int y2, .ref (eA (xE X) 37)]) kv_X1_sceneIn lk_X4_90 kC_1 (by decide) rfl rfl rfl (fun _ _ hc => c_X1_sceneIn o.mk 1 y3 kC_1 hc) dX4_ahead_89 rfl ⟨rfl, rfl, Nat.le_of_ble_eq_true rfl, Nat.le_of_ble_eq_true rfl⟩ (Nat.le_of_ble_eq_true rfl) rfl h (fun r33 σ32 h => ?_)
        refine g_aload_n o (q := 93) 1 rfl rfl dX4_ahead_92 rfl ?_
        refine gf_X4_0 o (q := 96) kC_0 lk_X4_10 dX4_ahead_93 rfl ?_
        refine gf_X1_0 o (q := 99) kC_1 lk_X4_55 dX4_ahead_96 rfl ?_
        refine g_cvi o (q := 102) (As := [.int y2, .int r33, .int (σ32 1 0)]) (rest := []) kv_X0_tell lk_X4_93 kC_37 (by decide) rfl rfl rfl (fun _ _ hc => c_X0_tell o.mk 37 y2 r33 (σ32 1 0) kC_37 hc) dX4_ahead_99 rfl ⟨rfl, rfl, Nat.le_of_ble_eq_true rfl, Nat.le_of_ble_eq_true rfl⟩ (Nat.le_of_ble_eq_true rfl) rfl h (fun r35 σ34 h => ?_)
        exact g_iret o hr (h.trans (congrArg some hres)) rfl dX4_ahead_102
      · refine g_sub (lv' := [(0, .ref (eA (xE X) 0))]) [1] rfl ?_
        exact w_X4_ahead_J51 hres o hr   h
set_option maxRecDepth 100000 in
set_option maxHeartbeats 4000000 in
theorem w_X4_ahead_J21 {X : Cx} {l : Launch} {r : Int32} {σr : Mem} {res : Int32 × Mem} (hres : res = (r, σr)) (o : OK X cX4_ahead RX4 sdC 5 rm_X4_ahead l) (hr : RI X .int r σr)   {y1 : Int32} {y2 : Int32} {y3 : Int32}  {σ : Mem} (h : f_X4_ahead_J21  y1 y2 y3 σ = some res) : G X σ 21 [(0, .ref (eA (xE X) 0)), (1, .int y1), (2, .int y2), (3, .int y3)] [] := by
  unfold f_X4_ahead_J21 at h
  refine g_iconst o (v := 1) (q := 22) (by decide) dX4_ahead_21 rfl ?_
  refine g_goto o (tgt := 26) dX4_ahead_22 (by decide) ?_
  exact w_X4_ahead_J26 hres o hr   h
set_option maxRecDepth 100000 in
set_option maxHeartbeats 4000000 in
theorem w_X4_ahead {X : Cx} {l : Launch} {r : Int32} {σr : Mem} {res : Int32 × Mem} (hres : res = (r, σr)) (o : OK X cX4_ahead RX4 sdC 5 rm_X4_ahead l) (hr : RI X .int r σr) (x1 : Int32) (x2 : Int32) (x3 : Int32)  {σ : Mem} (h : f_X4_ahead x1 x2 x3 σ = some res) : G X σ 0 [(0, .ref (eA (xE X) 0)), (1, .int x1), (2, .int x2), (3, .int x3)] [] := by
  unfold f_X4_ahead at h
  refine g_iload_n o (q := 1) 2 rfl rfl dX4_ahead_0 rfl ?_
  refine g_iconst o (v := 1) (q := 2) (by decide) dX4_ahead_1 rfl ?_
  refine g_icmp_eq o (tgt := 21) (q := 5) dX4_ahead_2 (by decide) rfl h (fun h => ?_) (fun h => ?_)
  · exact w_X4_ahead_J21 hres o hr   h
  · refine g_iload_n o (q := 6) 2 rfl rfl dX4_ahead_5 rfl ?_
    refine g_iconst o (v := 3) (q := 7) (by decide) dX4_ahead_6 rfl ?_
    refine g_icmp_eq o (tgt := 21) (q := 10) dX4_ahead_7 (by decide) rfl h (fun h => ?_) (fun h => ?_)
    · exact w_X4_ahead_J21 hres o hr   h
    · refine g_iload_n o (q := 11) 2 rfl rfl dX4_ahead_10 rfl ?_
      refine g_iconst o (v := 5) (q := 12) (by decide) dX4_ahead_11 rfl ?_
      refine g_icmp_eq o (tgt := 21) (q := 15) dX4_ahead_12 (by decide) rfl h (fun h => ?_) (fun h => ?_)
      · exact w_X4_ahead_J21 hres o hr   h
      · refine g_iload_n o (q := 16) 2 rfl rfl dX4_ahead_15 rfl ?_
        refine g_bipush o (v := 8) (q := 18) (by decide) dX4_ahead_16 rfl ?_
        refine g_icmp_ne o (tgt := 25) (q := 21) dX4_ahead_18 (by decide) rfl h (fun h => ?_) (fun h => ?_)
        · refine g_iconst o (v := 0) (q := 26) (by decide) dX4_ahead_25 rfl ?_
          exact w_X4_ahead_J26 hres o hr   h
        · exact w_X4_ahead_J21 hres o hr   h
theorem c_X4_ahead {l : Launch} {E : En} {mk : Mem → Mem} (hmk : MK mk sdC) (x1 : Int32) (x2 : Int32) (x3 : Int32)  {σ : Mem} {r : Int32} {τ : Mem} (h : f_X4_ahead x1 x2 x3 σ = some (r, τ)) : Met l yX4_ahead (Cond.code yX4_ahead cX4_ahead 5 (some .int) :: wt) rm_X4_ahead (PW E mk [.ref (eA E 0), .int x1, .int x2, .int x3] σ) (QI E mk r τ) 0 0 (WA E) :=
  met_i (fun E => [.ref (eA E 0), .int x1, .int x2, .int x3]) (by decide) hmk (Nat.le_of_ble_eq_true rfl) (fun X o hr => w_X4_ahead rfl o hr x1 x2 x3  h)
set_option maxRecDepth 100000 in
set_option maxHeartbeats 4000000 in
theorem w_X4_cut {X : Cx} {l : Launch} {r : Int32} {σr : Mem} {res : Int32 × Mem} (hres : res = (r, σr)) (o : OK X cX4_cut RX4 sdC 2 rm_X4_cut l) (hr : RI X .int r σr) (x1 : Int32)  {σ : Mem} (h : f_X4_cut x1 σ = some res) : G X σ 0 [(0, .ref (eA (xE X) 0)), (1, .int x1)] [] := by
  unfold f_X4_cut at h
  refine g_iload_n o (q := 1) 1 rfl rfl dX4_cut_0 rfl ?_
  refine g_iconst o (v := 0) (q := 2) (by decide) dX4_cut_1 rfl ?_
  refine g_bipush o (v := 100) (q := 4) (by decide) dX4_cut_2 rfl ?_
  refine g_csi o (q := 7) (As := [.int x1, .int 0, .int 100]) (rest := []) kv_X4_isWithin lk_X4_47 rfl (fun _ _ hc => c_X4_isWithin o.mk x1 0 100 hc) dX4_cut_4 rfl ⟨rfl, rfl, Nat.le_of_ble_eq_true rfl, Nat.le_of_ble_eq_true rfl⟩ (Nat.le_of_ble_eq_true rfl) rfl h (fun r22 σ21 h => ?_)
  refine g_if_ne o (tgt := 16) (q := 10) dX4_cut_7 (by decide) rfl h (fun h => ?_) (fun h => ?_)
  · refine g_aload_n o (q := 17) 0 rfl rfl dX4_cut_16 rfl ?_
    refine gf_X4_3 o (q := 20) kC_0 lk_X4_19 dX4_cut_17 rfl ?_
    refine g_aload_n o (q := 21) 0 rfl rfl dX4_cut_20 rfl ?_
    refine gf_X4_0 o (q := 24) kC_0 lk_X4_10 dX4_cut_21 rfl ?_
    refine g_cvv o (q := 27) (As := [.ref (eA (xE X) 1)]) (rest := []) kv_X1_take lk_X4_147 kC_25 (by decide) rfl rfl rfl (fun _ _ hc => c_X1_take o.mk 25 1 kC_25 kC_1 hc) dX4_cut_24 rfl ⟨rfl, rfl, Nat.le_of_ble_eq_true rfl, Nat.le_of_ble_eq_true rfl⟩ (Nat.le_of_ble_eq_true rfl) rfl h (fun _u23 σ23 h => ?_)
    refine g_aload_n o (q := 28) 0 rfl rfl dX4_cut_27 rfl ?_
    refine gf_X4_3 o (q := 31) kC_0 lk_X4_19 dX4_cut_28 rfl ?_
    refine g_iload_n o (q := 32) 1 rfl rfl dX4_cut_31 rfl ?_
    refine g_cvv o (q := 35) (As := [.int x1]) (rest := []) kv_X1_passBeats lk_X4_118 kC_25 (by decide) rfl rfl rfl (fun _ _ hc => c_X1_passBeats o.mk 25 x1 kC_25 hc) dX4_cut_32 rfl ⟨rfl, rfl, Nat.le_of_ble_eq_true rfl, Nat.le_of_ble_eq_true rfl⟩ (Nat.le_of_ble_eq_true rfl) rfl h (fun _u24 σ24 h => ?_)
    refine g_aload_n o (q := 36) 0 rfl rfl dX4_cut_35 rfl ?_
    refine gf_X4_3 o (q := 39) kC_0 lk_X4_19 dX4_cut_36 rfl ?_
    refine gf_X1_1 o (q := 42) kC_25 lk_X4_121 dX4_cut_39 rfl ?_
    exact g_iret o hr (h.trans (congrArg some hres)) rfl dX4_cut_42
  · refine g_aload_n o (q := 11) 0 rfl rfl dX4_cut_10 rfl ?_
    refine g_iconst o (v := 0) (q := 12) (by decide) dX4_cut_11 rfl ?_
    refine g_cvi o (q := 15) (As := [.int 0]) (rest := []) kv_X4_find lk_X4_51 kC_0 (by decide) rfl rfl rfl (fun _ _ hc => c_X4_find o.mk 0 hc) dX4_cut_12 rfl ⟨rfl, rfl, Nat.le_of_ble_eq_true rfl, Nat.le_of_ble_eq_true rfl⟩ (Nat.le_of_ble_eq_true rfl) rfl h (fun r26 σ25 h => ?_)
    exact g_iret o hr (h.trans (congrArg some hres)) rfl dX4_cut_15
theorem c_X4_cut {l : Launch} {E : En} {mk : Mem → Mem} (hmk : MK mk sdC) (x1 : Int32)  {σ : Mem} {r : Int32} {τ : Mem} (h : f_X4_cut x1 σ = some (r, τ)) : Met l yX4_cut (Cond.code yX4_cut cX4_cut 2 (some .int) :: wt) rm_X4_cut (PW E mk [.ref (eA E 0), .int x1] σ) (QI E mk r τ) 0 0 (WA E) :=
  met_i (fun E => [.ref (eA E 0), .int x1]) (by decide) hmk (Nat.le_of_ble_eq_true rfl) (fun X o hr => w_X4_cut rfl o hr x1  h)
