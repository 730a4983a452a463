set_option maxRecDepth 100000 in
set_option maxHeartbeats 4000000 in
theorem w_X5_finding {X : Cx} {l : Launch} {r : Int32} {σr : Mem} {res : Int32 × Mem} (hres : res = (r, σr)) (o : OK X cX5_finding RX5 sdM 2 rm_X5_finding l) (hr : RI X .int r σr) (x1 : Int32)  {σ : Mem} (h : f_X5_finding x1 σ = some res) : G X σ 0 [(0, .ref (eA (xE X) 50)), (1, .int x1)] [] := by
  unfold f_X5_finding at h
  refine g_aload_n o (q := 1) 0 rfl rfl dX5_finding_0 rfl ?_
  refine gf_X5_4 o (q := 4) kM_50 lk_X5_19 dX5_finding_1 rfl ?_
  refine g_ldc o (q := 6) lk_X5_60 dX5_finding_4 rfl ?_
  refine g_iload_n o (q := 7) 1 rfl rfl dX5_finding_6 rfl ?_
  refine g_isub o (q := 8) dX5_finding_7 rfl ?_
  refine g_iconst o (v := 1) (q := 9) (by decide) dX5_finding_8 rfl ?_
  refine g_iadd o (q := 10) dX5_finding_9 rfl ?_
  refine g_dup2 o (q := 11) rfl rfl dX5_finding_10 rfl ?_
  refine g_iald o (q := 12) kM_54 dX5_finding_11 rfl h (fun j21 hjj21 h => ?_)
  refine g_iconst o (v := 1) (q := 13) (by decide) dX5_finding_12 rfl ?_
  refine g_iadd o (q := 14) dX5_finding_13 rfl ?_
  refine g_iast o (q := 15) kM_54 dX5_finding_14 rfl h (fun j22 σ23 h => ?_)
  refine g_aload_n o (q := 16) 0 rfl rfl dX5_finding_15 rfl ?_
  refine gf_X5_4 o (q := 19) kM_50 lk_X5_19 dX5_finding_16 rfl ?_
  refine g_iconst o (v := 0) (q := 20) (by decide) dX5_finding_19 rfl ?_
  refine g_dup2 o (q := 21) rfl rfl dX5_finding_20 rfl ?_
  refine g_iald o (q := 22) kM_54 dX5_finding_21 rfl h (fun j24 hjj24 h => ?_)
  refine g_iconst o (v := 1) (q := 23) (by decide) dX5_finding_22 rfl ?_
  refine g_iadd o (q := 24) dX5_finding_23 rfl ?_
  refine g_iast o (q := 25) kM_54 dX5_finding_24 rfl h (fun j25 σ26 h => ?_)
  refine g_iload_n o (q := 26) 1 rfl rfl dX5_finding_25 rfl ?_
  exact g_iret o hr (h.trans (congrArg some hres)) rfl dX5_finding_26
theorem c_X5_finding {l : Launch} {E : En} {mk : Mem → Mem} (hmk : MK mk sdM) (x1 : Int32)  {σ : Mem} {r : Int32} {τ : Mem} (h : f_X5_finding x1 σ = some (r, τ)) : Met l yX5_finding (Cond.code yX5_finding cX5_finding 2 (some .int) :: wt) rm_X5_finding (PW E mk [.ref (eA E 50), .int x1] σ) (QI E mk r τ) 0 0 (WA E) :=
  met_i (fun E => [.ref (eA E 50), .int x1]) (by decide) hmk (Nat.le_of_ble_eq_true rfl) (fun X o hr => w_X5_finding rfl o hr x1  h)
set_option maxRecDepth 100000 in
set_option maxHeartbeats 4000000 in
theorem w_X5_within {X : Cx} {l : Launch} {r : Int32} {σr : Mem} {res : Int32 × Mem} (hres : res = (r, σr)) (o : OK X cX5_within RX5 sdM 3 rm_X5_within l) (hr : RI X .boolean r σr) (x0 : Int32) (x1 : Int32) (x2 : Int32)  {σ : Mem} (h : f_X5_within x0 x1 x2 σ = some res) : G X σ 0 [(0, .int x0), (1, .int x1), (2, .int x2)] [] := by
  unfold f_X5_within at h
  refine g_iload_n o (q := 1) 0 rfl rfl dX5_within_0 rfl ?_
  refine g_iload_n o (q := 2) 1 rfl rfl dX5_within_1 rfl ?_
  refine g_icmp_lt o (tgt := 14) (q := 5) dX5_within_2 (by decide) rfl h (fun h => ?_) (fun h => ?_)
  · refine g_iconst o (v := 0) (q := 15) (by decide) dX5_within_14 rfl ?_
    exact g_iret o hr (h.trans (congrArg some hres)) (by decide) dX5_within_15
  · refine g_iload_n o (q := 6) 0 rfl rfl dX5_within_5 rfl ?_
    refine g_iload_n o (q := 7) 2 rfl rfl dX5_within_6 rfl ?_
    refine g_icmp_gt o (tgt := 14) (q := 10) dX5_within_7 (by decide) rfl h (fun h => ?_) (fun h => ?_)
    · refine g_iconst o (v := 0) (q := 15) (by decide) dX5_within_14 rfl ?_
      exact g_iret o hr (h.trans (congrArg some hres)) (by decide) dX5_within_15
    · refine g_iconst o (v := 1) (q := 11) (by decide) dX5_within_10 rfl ?_
      refine g_goto o (tgt := 15) dX5_within_11 (by decide) ?_
      exact g_iret o hr (h.trans (congrArg some hres)) (by decide) dX5_within_15
theorem c_X5_within {l : Launch} {E : En} {mk : Mem → Mem} (hmk : MK mk sdM) (x0 : Int32) (x1 : Int32) (x2 : Int32)  {σ : Mem} {r : Int32} {τ : Mem} (h : f_X5_within x0 x1 x2 σ = some (r, τ)) : Met l yX5_within (Cond.code yX5_within cX5_within 3 (some .boolean) :: wt) rm_X5_within (PW E mk [.int x0, .int x1, .int x2] σ) (QI E mk r τ) 0 0 (WA E) :=
  met_i (fun E => [.int x0, .int x1, .int x2]) (by decide) hmk (Nat.le_of_ble_eq_true rfl) (fun X o hr => w_X5_within rfl o hr x0 x1 x2  h)
set_option maxRecDepth 100000 in
set_option maxHeartbeats 4000000 in
theorem w_X5_become {X : Cx} {l : Launch} {r : Int32} {σr : Mem} {res : Int32 × Mem} (hres : res = (r, σr)) (o : OK X cX5_become RX5 sdM 4 rm_X5_become l) (hr : RI X .int r σr) (x1 : Int32) (x2 : Int32)  {σ : Mem} (h : f_X5_become x1 x2 σ = some res) : G X σ 0 [(0, .ref (eA (xE X) 50)), (1, .int x1), (2, .int x2)] [] := by
  unfold f_X5_become at h
  refine g_aload_n o (q := 1) 0 rfl rfl dX5_become_0 rfl ?_
  refine gf_X5_0 o (q := 4) kM_50 lk_X5_9 dX5_become_1 rfl ?_
  refine g_iload_n o (q := 5) 1 rfl rfl dX5_become_4 rfl ?_
  refine g_iald o (q := 6) kM_51 dX5_become_5 rfl h (fun j21 hjj21 h => ?_)
  refine g_istore_n o (q := 7) dX5_become_6 rfl rfl (by decide) h (fun x22 => [(3, .int x22), (0, .ref (eA (xE X) 50)), (1, .int x1), (2, .int x2)]) (fun _ => rfl) (fun x22 h => ?_)
  refine g_aload_n o (q := 8) 1 rfl rfl dX5_become_7 rfl ?_
  refine gf_X5_0 o (q := 11) kM_50 lk_X5_9 dX5_become_8 rfl ?_
  refine g_iload_n o (q := 12) 2 rfl rfl dX5_become_11 rfl ?_
  refine g_iload_n o (q := 13) 3 rfl rfl dX5_become_12 rfl ?_
  refine g_iast o (q := 14) kM_51 dX5_become_13 rfl h (fun j23 σ24 h => ?_)
  refine g_iload_n o (q := 15) 0 rfl rfl dX5_become_14 rfl ?_
  exact g_iret o hr (h.trans (congrArg some hres)) rfl dX5_become_15
theorem c_X5_become {l : Launch} {E : En} {mk : Mem → Mem} (hmk : MK mk sdM) (x1 : Int32) (x2 : Int32)  {σ : Mem} {r : Int32} {τ : Mem} (h : f_X5_become x1 x2 σ = some (r, τ)) : Met l yX5_become (Cond.code yX5_become cX5_become 4 (some .int) :: wt) rm_X5_become (PW E mk [.ref (eA E 50), .int x1, .int x2] σ) (QI E mk r τ) 0 0 (WA E) :=
  met_i (fun E => [.ref (eA E 50), .int x1, .int x2]) (by decide) hmk (Nat.le_of_ble_eq_true rfl) (fun X o hr => w_X5_become rfl o hr x1 x2  h)
set_option maxRecDepth 100000 in
set_option maxHeartbeats 4000000 in
theorem w_X5_copyRow_L2 {X : Cx} {l : Launch} {u : Unit} {σr : Mem} {res : Unit × Mem} (hres : res = (u, σr)) (o : OK X cX5_copyRow RX5 sdM 3 rm_X5_copyRow l) (hr : RV X σr)   : ∀ (n : Nat) (b0 : Nat) (b1 : Nat) (y2 : Int32) (σ : Mem), ka sdM b0 6 70 → ka sdM b1 6 70 → f_X5_copyRow_L2  n b0 b1 y2 σ = some res → G X σ 2 [(0, .ref (eA (xE X) b0)), (1, .ref (eA (xE X) b1)), (2, .int y2)] [] := by
  intro n
  induction n with
  | zero => intro b0 b1 y2 σ g0 g1 h; cases h
  | succ n ih =>
    intro b0 b1 y2 σ g0 g1 h
    rw [f_X5_copyRow_L2_s] at h
    refine g_iload_n o (q := 3) 2 rfl rfl dX5_copyRow_2 rfl ?_
    refine g_bipush o (v := 70) (q := 5) (by decide) dX5_copyRow_3 rfl ?_
    refine g_icmp_ge o (tgt := 20) (q := 8) dX5_copyRow_5 (by decide) rfl h (fun h => ?_) (fun h => ?_)
    · exact g_vret o hr (h.trans (congrArg some hres)) dX5_copyRow_20
    · refine g_aload_n o (q := 9) 1 rfl rfl dX5_copyRow_8 rfl ?_
      refine g_iload_n o (q := 10) 2 rfl rfl dX5_copyRow_9 rfl ?_
      refine g_aload_n o (q := 11) 0 rfl rfl dX5_copyRow_10 rfl ?_
      refine g_iload_n o (q := 12) 2 rfl rfl dX5_copyRow_11 rfl ?_
      refine g_iald o (q := 13) g0 dX5_copyRow_12 rfl h (fun j22 hjj22 h => ?_)
      refine g_iast o (q := 14) g1 dX5_copyRow_13 rfl h (fun j23 σ24 h => ?_)
      refine g_iinc o (q := 17) (dn := 1) dX5_copyRow_14 rfl 2 rfl (by decide) (by decide) h (fun x25 => [(2, .int x25), (0, .ref (eA (xE X) b0)), (1, .ref (eA (xE X) b1))]) (fun _ => rfl) (fun x25 h => ?_)
      refine g_goto o (tgt := 2) dX5_copyRow_17 (by decide) ?_
      refine g_sub (lv' := [(0, .ref (eA (xE X) b0)), (1, .ref (eA (xE X) b1)), (2, .int x25)]) [1, 2, 0] rfl ?_
      exact ih b0 b1 x25 σ24 g0 g1 h
set_option maxRecDepth 100000 in
set_option maxHeartbeats 4000000 in
theorem w_X5_copyRow {X : Cx} {l : Launch} {u : Unit} {σr : Mem} {res : Unit × Mem} (hres : res = (u, σr)) (o : OK X cX5_copyRow RX5 sdM 3 rm_X5_copyRow l) (hr : RV X σr) (a0 : Nat) (a1 : Nat) (h0 : ka sdM a0 6 70) (h1 : ka sdM a1 6 70) {σ : Mem} (h : f_X5_copyRow a0 a1 σ = some res) : G X σ 0 [(0, .ref (eA (xE X) a0)), (1, .ref (eA (xE X) a1))] [] := by
  unfold f_X5_copyRow at h
  refine g_iconst o (v := 0) (q := 1) (by decide) dX5_copyRow_0 rfl ?_
  refine g_istore_n o (q := 2) dX5_copyRow_1 rfl rfl (by decide) h (fun x21 => [(2, .int x21), (0, .ref (eA (xE X) a0)), (1, .ref (eA (xE X) a1))]) (fun _ => rfl) (fun x21 h => ?_)
  refine g_sub (lv' := [(0, .ref (eA (xE X) a0)), (1, .ref (eA (xE X) a1)), (2, .int x21)]) [1, 2, 0] rfl ?_
  exact w_X5_copyRow_L2 hres o hr  FU a0 a1 x21 σ h0 h1 h
theorem c_X5_copyRow {l : Launch} {E : En} {mk : Mem → Mem} (hmk : MK mk sdM) (a0 : Nat) (a1 : Nat) (h0 : ka sdM a0 6 70) (h1 : ka sdM a1 6 70) {σ : Mem} {r : Unit} {τ : Mem} (h : f_X5_copyRow a0 a1 σ = some (r, τ)) : Met l yX5_copyRow (Cond.code yX5_copyRow cX5_copyRow 3 none :: wt) rm_X5_copyRow (PW E mk [.ref (eA E a0), .ref (eA E a1)] σ) (QV E mk τ) 0 0 (WA E) :=
  met_v (fun E => [.ref (eA E a0), .ref (eA E a1)]) (by decide) hmk (Nat.le_of_ble_eq_true rfl) (fun X o hr => w_X5_copyRow rfl o hr a0 a1 h0 h1 h)
set_option maxRecDepth 100000 in
set_option maxHeartbeats 4000000 in
theorem w_X5_putBack {X : Cx} {l : Launch} {r : Int32} {σr : Mem} {res : Int32 × Mem} (hres : res = (r, σr)) (o : OK X cX5_putBack RX5 sdM 2 rm_X5_putBack l) (hr : RI X .int r σr) (x1 : Int32)  {σ : Mem} (h : f_X5_putBack x1 σ = some res) : G X σ 0 [(0, .ref (eA (xE X) 50)), (1, .int x1)] [] := by
  unfold f_X5_putBack at h
  refine g_aload_n o (q := 1) 0 rfl rfl dX5_putBack_0 rfl ?_
  refine gf_X5_2 o (q := 4) kM_50 lk_X5_16 dX5_putBack_1 rfl ?_
  refine g_aload_n o (q := 5) 0 rfl rfl dX5_putBack_4 rfl ?_
  refine gf_X5_0 o (q := 8) kM_50 lk_X5_9 dX5_putBack_5 rfl ?_
  refine g_csv o (q := 11) (As := [.ref (eA (xE X) 53), .ref (eA (xE X) 51)]) (rest := []) kv_X5_copyRow lk_X5_61 rfl (fun _ _ hc => c_X5_copyRow o.mk 53 51 kM_53 kM_51 hc) dX5_putBack_8 rfl ⟨rfl, rfl, Nat.le_of_ble_eq_true rfl, Nat.le_of_ble_eq_true rfl⟩ (Nat.le_of_ble_eq_true rfl) rfl h (fun _u21 σ21 h => ?_)
  refine g_iload_n o (q := 12) 1 rfl rfl dX5_putBack_11 rfl ?_
  exact g_iret o hr (h.trans (congrArg some hres)) rfl dX5_putBack_12
theorem c_X5_putBack {l : Launch} {E : En} {mk : Mem → Mem} (hmk : MK mk sdM) (x1 : Int32)  {σ : Mem} {r : Int32} {τ : Mem} (h : f_X5_putBack x1 σ = some (r, τ)) : Met l yX5_putBack (Cond.code yX5_putBack cX5_putBack 2 (some .int) :: wt) rm_X5_putBack (PW E mk [.ref (eA E 50), .int x1] σ) (QI E mk r τ) 0 0 (WA E) :=
  met_i (fun E => [.ref (eA E 50), .int x1]) (by decide) hmk (Nat.le_of_ble_eq_true rfl) (fun X o hr => w_X5_putBack rfl o hr x1  h)
set_option maxRecDepth 100000 in
set_option maxHeartbeats 4000000 in
theorem w_X5_orNone {X : Cx} {l : Launch} {r : Int32} {σr : Mem} {res : Int32 × Mem} (hres : res = (r, σr)) (o : OK X cX5_orNone RX5 sdM 2 rm_X5_orNone l) (hr : RI X .int r σr) (x1 : Int32)  {σ : Mem} (h : f_X5_orNone x1 σ = some res) : G X σ 0 [(0, .ref (eA (xE X) 50)), (1, .int x1)] [] := by
  unfold f_X5_orNone at h
  refine g_iload_n o (q := 1) 1 rfl rfl dX5_orNone_0 rfl ?_
  refine g_if_ge o (tgt := 13) (q := 4) dX5_orNone_1 (by decide) rfl h (fun h => ?_) (fun h => ?_)
  · refine g_iload_n o (q := 14) 1 rfl rfl dX5_orNone_13 rfl ?_
    exact g_iret o hr (h.trans (congrArg some hres)) rfl dX5_orNone_14
  · refine g_aload_n o (q := 5) 0 rfl rfl dX5_orNone_4 rfl ?_
    refine g_ldc o (q := 7) lk_X5_65 dX5_orNone_5 rfl ?_
    refine g_cvi o (q := 10) (As := [.int (-1000004)]) (rest := []) kv_X5_finding lk_X5_66 kM_50 (by decide) rfl rfl rfl (fun _ _ hc => c_X5_finding o.mk (-1000004) hc) dX5_orNone_7 rfl ⟨rfl, rfl, Nat.le_of_ble_eq_true rfl, Nat.le_of_ble_eq_true rfl⟩ (Nat.le_of_ble_eq_true rfl) rfl h (fun r22 σ21 h => ?_)
    refine g_goto o (tgt := 14) dX5_orNone_10 (by decide) ?_
    exact g_iret o hr (h.trans (congrArg some hres)) rfl dX5_orNone_14
theorem c_X5_orNone {l : Launch} {E : En} {mk : Mem → Mem} (hmk : MK mk sdM) (x1 : Int32)  {σ : Mem} {r : Int32} {τ : Mem} (h : f_X5_orNone x1 σ = some (r, τ)) : Met l yX5_orNone (Cond.code yX5_orNone cX5_orNone 2 (some .int) :: wt) rm_X5_orNone (PW E mk [.ref (eA E 50), .int x1] σ) (QI E mk r τ) 0 0 (WA E) :=
  met_i (fun E => [.ref (eA E 50), .int x1]) (by decide) hmk (Nat.le_of_ble_eq_true rfl) (fun X o hr => w_X5_orNone rfl o hr x1  h)
set_option maxRecDepth 100000 in
set_option maxHeartbeats 4000000 in
theorem w_X5_bits_L4 {X : Cx} {l : Launch} {r : Int32} {σr : Mem} {res : Int32 × Mem} (hres : res = (r, σr)) (o : OK X cX5_bits RX5 sdM 3 rm_X5_bits l) (hr : RI X .int r σr)   : ∀ (n : Nat) (y1 : Int32) (y2 : Int32) (σ : Mem), f_X5_bits_L4  n y1 y2 σ = some res → G X σ 4 [(1, .int y1), (2, .int y2)] [] := by
  intro n
  induction n with
  | zero => intro y1 y2 σ  h; cases h
  | succ n ih =>
    intro y1 y2 σ  h
    rw [f_X5_bits_L4_s] at h
    refine g_iload_n o (q := 5) 1 rfl rfl dX5_bits_4 rfl ?_
    refine g_if_eq o (tgt := 20) (q := 8) dX5_bits_5 (by decide) rfl h (fun h => ?_) (fun h => ?_)
    · refine g_iload_n o (q := 21) 0 rfl rfl dX5_bits_20 rfl ?_
      exact g_iret o hr (h.trans (congrArg some hres)) rfl dX5_bits_21
    · refine g_iinc o (q := 11) (dn := 1) dX5_bits_8 rfl 0 rfl (by decide) (by decide) h (fun x23 => [(1, .int x23), (2, .int y2)]) (fun _ => rfl) (fun x23 h => ?_)
      refine g_iload_n o (q := 12) 1 rfl rfl dX5_bits_11 rfl ?_
      refine g_iload_n o (q := 13) 1 rfl rfl dX5_bits_12 rfl ?_
      refine g_iconst o (v := 1) (q := 14) (by decide) dX5_bits_13 rfl ?_
      refine g_isub o (q := 15) dX5_bits_14 rfl ?_
      refine g_iand o (q := 16) dX5_bits_15 rfl ?_
      refine g_istore_n o (q := 17) dX5_bits_16 rfl rfl (by decide) h (fun x24 => [(2, .int x24), (1, .int x23)]) (fun _ => rfl) (fun x24 h => ?_)
      refine g_goto o (tgt := 4) dX5_bits_17 (by decide) ?_
      refine g_sub (lv' := [(1, .int x23), (2, .int x24)]) [1, 0] rfl ?_
      exact ih x23 x24 σ  h
set_option maxRecDepth 100000 in
set_option maxHeartbeats 4000000 in
theorem w_X5_bits {X : Cx} {l : Launch} {r : Int32} {σr : Mem} {res : Int32 × Mem} (hres : res = (r, σr)) (o : OK X cX5_bits RX5 sdM 3 rm_X5_bits l) (hr : RI X .int r σr) (x0 : Int32)  {σ : Mem} (h : f_X5_bits x0 σ = some res) : G X σ 0 [(0, .int x0)] [] := by
  unfold f_X5_bits at h
  refine g_iconst o (v := 0) (q := 1) (by decide) dX5_bits_0 rfl ?_
  refine g_istore_n o (q := 2) dX5_bits_1 rfl rfl (by decide) h (fun x21 => [(1, .int x21), (0, .int x0)]) (fun _ => rfl) (fun x21 h => ?_)
  refine g_iload_n o (q := 3) 1 rfl rfl dX5_bits_2 rfl ?_
  refine g_istore_n o (q := 4) dX5_bits_3 rfl rfl (by decide) h (fun x22 => [(2, .int x22), (1, .int x21), (0, .int x0)]) (fun _ => rfl) (fun x22 h => ?_)
  refine g_sub (lv' := [(1, .int x21), (2, .int x22)]) [1, 0] rfl ?_
  exact w_X5_bits_L4 hres o hr  FU x21 x22 σ  h
theorem c_X5_bits {l : Launch} {E : En} {mk : Mem → Mem} (hmk : MK mk sdM) (x0 : Int32)  {σ : Mem} {r : Int32} {τ : Mem} (h : f_X5_bits x0 σ = some (r, τ)) : Met l yX5_bits (Cond.code yX5_bits cX5_bits 3 (some .int) :: wt) rm_X5_bits (PW E mk [.int x0] σ) (QI E mk r τ) 0 0 (WA E) :=
  met_i (fun E => [.int x0]) (by decide) hmk (Nat.le_of_ble_eq_true rfl) (fun X o hr => w_X5_bits rfl o hr x0  h)
set_option maxRecDepth 100000 in
set_option maxHeartbeats 4000000 in
theorem w_X5_isSet {X : Cx} {l : Launch} {r : Int32} {σr : Mem} {res : Int32 × Mem} (hres : res = (r, σr)) (o : OK X cX5_isSet RX5 sdM 1 rm_X5_isSet l) (hr : RI X .boolean r σr) (x0 : Int32)  {σ : Mem} (h : f_X5_isSet x0 σ = some res) : G X σ 0 [(0, .int x0)] [] := by
  unfold f_X5_isSet at h
  refine g_iload_n o (q := 1) 0 rfl rfl dX5_isSet_0 rfl ?_
  refine g_iconst o (v := 0) (q := 2) (by decide) dX5_isSet_1 rfl ?_
  refine g_sipush o (v := 4095) (q := 5) (by decide) dX5_isSet_2 rfl ?_
  refine g_csi o (q := 8) (As := [.int x0, .int 0, .int 4095]) (rest := []) kv_X5_within lk_X5_70 rfl (fun _ _ hc => c_X5_within o.mk x0 0 4095 hc) dX5_isSet_5 rfl ⟨rfl, rfl, Nat.le_of_ble_eq_true rfl, Nat.le_of_ble_eq_true rfl⟩ (Nat.le_of_ble_eq_true rfl) rfl h (fun r22 σ21 h => ?_)
  obtain ⟨hb, h⟩ := vB_some h
  exact g_iret o hr (h.trans (congrArg some hres)) (by rcases hb with hb | hb <;> rw [hb] <;> rfl) dX5_isSet_8
theorem c_X5_isSet {l : Launch} {E : En} {mk : Mem → Mem} (hmk : MK mk sdM) (x0 : Int32)  {σ : Mem} {r : Int32} {τ : Mem} (h : f_X5_isSet x0 σ = some (r, τ)) : Met l yX5_isSet (Cond.code yX5_isSet cX5_isSet 1 (some .boolean) :: wt) rm_X5_isSet (PW E mk [.int x0] σ) (QI E mk r τ) 0 0 (WA E) :=
  met_i (fun E => [.int x0]) (by decide) hmk (Nat.le_of_ble_eq_true rfl) (fun X o hr => w_X5_isSet rfl o hr x0  h)
set_option maxRecDepth 100000 in
set_option maxHeartbeats 4000000 in
theorem w_X5_isScene {X : Cx} {l : Launch} {r : Int32} {σr : Mem} {res : Int32 × Mem} (hres : res = (r, σr)) (o : OK X cX5_isScene RX5 sdM 1 rm_X5_isScene l) (hr : RI X .boolean r σr) (x0 : Int32)  {σ : Mem} (h : f_X5_isScene x0 σ = some res) : G X σ 0 [(0, .int x0)] [] := by
  unfold f_X5_isScene at h
  refine g_iload_n o (q := 1) 0 rfl rfl dX5_isScene_0 rfl ?_
  refine g_iconst o (v := 0) (q := 2) (by decide) dX5_isScene_1 rfl ?_
  refine g_bipush o (v := 11) (q := 4) (by decide) dX5_isScene_2 rfl ?_
  refine g_csi o (q := 7) (As := [.int x0, .int 0, .int 11]) (rest := []) kv_X5_within lk_X5_70 rfl (fun _ _ hc => c_X5_within o.mk x0 0 11 hc) dX5_isScene_4 rfl ⟨rfl, rfl, Nat.le_of_ble_eq_true rfl, Nat.le_of_ble_eq_true rfl⟩ (Nat.le_of_ble_eq_true rfl) rfl h (fun r22 σ21 h => ?_)
  obtain ⟨hb, h⟩ := vB_some h
  exact g_iret o hr (h.trans (congrArg some hres)) (by rcases hb with hb | hb <;> rw [hb] <;> rfl) dX5_isScene_7
theorem c_X5_isScene {l : Launch} {E : En} {mk : Mem → Mem} (hmk : MK mk sdM) (x0 : Int32)  {σ : Mem} {r : Int32} {τ : Mem} (h : f_X5_isScene x0 σ = some (r, τ)) : Met l yX5_isScene (Cond.code yX5_isScene cX5_isScene 1 (some .boolean) :: wt) rm_X5_isScene (PW E mk [.int x0] σ) (QI E mk r τ) 0 0 (WA E) :=
  met_i (fun E => [.int x0]) (by decide) hmk (Nat.le_of_ble_eq_true rfl) (fun X o hr => w_X5_isScene rfl o hr x0  h)
set_option maxRecDepth 100000 in
set_option maxHeartbeats 4000000 in
theorem w_X5_fire {X : Cx} {l : Launch} {r : Int32} {σr : Mem} {res : Int32 × Mem} (hres : res = (r, σr)) (o : OK X cX5_fire RX5 sdM 2 rm_X5_fire l) (hr : RI X .int r σr) (x1 : Int32)  {σ : Mem} (h : f_X5_fire x1 σ = some res) : G X σ 0 [(0, .ref (eA (xE X) 50)), (1, .int x1)] [] := by
  unfold f_X5_fire at h
  refine g_iload_n o (q := 1) 1 rfl rfl dX5_fire_0 rfl ?_
  refine g_iconst o (v := 0) (q := 2) (by decide) dX5_fire_1 rfl ?_
  refine g_iconst o (v := 1) (q := 3) (by decide) dX5_fire_2 rfl ?_
  refine g_csi o (q := 6) (As := [.int x1, .int 0, .int 1]) (rest := []) kv_X5_within lk_X5_70 rfl (fun _ _ hc => c_X5_within o.mk x1 0 1 hc) dX5_fire_3 rfl ⟨rfl, rfl, Nat.le_of_ble_eq_true rfl, Nat.le_of_ble_eq_true rfl⟩ (Nat.le_of_ble_eq_true rfl) rfl h (fun r22 σ21 h => ?_)
  refine g_if_eq o (tgt := 18) (q := 9) dX5_fire_6 (by decide) rfl h (fun h => ?_) (fun h => ?_)
  · refine g_aload_n o (q := 19) 0 rfl rfl dX5_fire_18 rfl ?_
    refine g_ldc o (q := 21) lk_X5_60 dX5_fire_19 rfl ?_
    refine g_cvi o (q := 24) (As := [.int (-1000001)]) (rest := []) kv_X5_finding lk_X5_66 kM_50 (by decide) rfl rfl rfl (fun _ _ hc => c_X5_finding o.mk (-1000001) hc) dX5_fire_21 rfl ⟨rfl, rfl, Nat.le_of_ble_eq_true rfl, Nat.le_of_ble_eq_true rfl⟩ (Nat.le_of_ble_eq_true rfl) rfl h (fun r24 σ23 h => ?_)
    exact g_iret o hr (h.trans (congrArg some hres)) rfl dX5_fire_24
  · refine g_aload_n o (q := 10) 0 rfl rfl dX5_fire_9 rfl ?_
    refine g_iconst o (v := 3) (q := 11) (by decide) dX5_fire_10 rfl ?_
    refine g_iload_n o (q := 12) 1 rfl rfl dX5_fire_11 rfl ?_
    refine g_cvi o (q := 15) (As := [.int 3, .int x1]) (rest := []) kv_X5_become lk_X5_74 kM_50 (by decide) rfl rfl rfl (fun _ _ hc => c_X5_become o.mk 3 x1 hc) dX5_fire_12 rfl ⟨rfl, rfl, Nat.le_of_ble_eq_true rfl, Nat.le_of_ble_eq_true rfl⟩ (Nat.le_of_ble_eq_true rfl) rfl h (fun r26 σ25 h => ?_)
    refine g_goto o (tgt := 24) dX5_fire_15 (by decide) ?_
    exact g_iret o hr (h.trans (congrArg some hres)) rfl dX5_fire_24
theorem c_X5_fire {l : Launch} {E : En} {mk : Mem → Mem} (hmk : MK mk sdM) (x1 : Int32)  {σ : Mem} {r : Int32} {τ : Mem} (h : f_X5_fire x1 σ = some (r, τ)) : Met l yX5_fire (Cond.code yX5_fire cX5_fire 2 (some .int) :: wt) rm_X5_fire (PW E mk [.ref (eA E 50), .int x1] σ) (QI E mk r τ) 0 0 (WA E) :=
  met_i (fun E => [.ref (eA E 50), .int x1]) (by decide) hmk (Nat.le_of_ble_eq_true rfl) (fun X o hr => w_X5_fire rfl o hr x1  h)
set_option maxRecDepth 100000 in
set_option maxHeartbeats 4000000 in
theorem w_X5_isPlace {X : Cx} {l : Launch} {r : Int32} {σr : Mem} {res : Int32 × Mem} (hres : res = (r, σr)) (o : OK X cX5_isPlace RX5 sdM 1 rm_X5_isPlace l) (hr : RI X .boolean r σr) (x0 : Int32)  {σ : Mem} (h : f_X5_isPlace x0 σ = some res) : G X σ 0 [(0, .int x0)] [] := by
  unfold f_X5_isPlace at h
  refine g_iload_n o (q := 1) 0 rfl rfl dX5_isPlace_0 rfl ?_
  refine g_iconst o (v := 0) (q := 2) (by decide) dX5_isPlace_1 rfl ?_
  refine g_iconst o (v := 5) (q := 3) (by decide) dX5_isPlace_2 rfl ?_
  refine g_csi o (q := 6) (As := [.int x0, .int 0, .int 5]) (rest := []) kv_X5_within lk_X5_70 rfl (fun _ _ hc => c_X5_within o.mk x0 0 5 hc) dX5_isPlace_3 rfl ⟨rfl, rfl, Nat.le_of_ble_eq_true rfl, Nat.le_of_ble_eq_true rfl⟩ (Nat.le_of_ble_eq_true rfl) rfl h (fun r22 σ21 h => ?_)
  obtain ⟨hb, h⟩ := vB_some h
  exact g_iret o hr (h.trans (congrArg some hres)) (by rcases hb with hb | hb <;> rw [hb] <;> rfl) dX5_isPlace_6
theorem c_X5_isPlace {l : Launch} {E : En} {mk : Mem → Mem} (hmk : MK mk sdM) (x0 : Int32)  {σ : Mem} {r : Int32} {τ : Mem} (h : f_X5_isPlace x0 σ = some (r, τ)) : Met l yX5_isPlace (Cond.code yX5_isPlace cX5_isPlace 1 (some .boolean) :: wt) rm_X5_isPlace (PW E mk [.int x0] σ) (QI E mk r τ) 0 0 (WA E) :=
  met_i (fun E => [.int x0]) (by decide) hmk (Nat.le_of_ble_eq_true rfl) (fun X o hr => w_X5_isPlace rfl o hr x0  h)
set_option maxRecDepth 100000 in
set_option maxHeartbeats 4000000 in
theorem w_X5_scene_J26 {X : Cx} {l : Launch} {r : Int32} {σr : Mem} {res : Int32 × Mem} (hres : res = (r, σr)) (o : OK X cX5_scene RX5 sdM 3 rm_X5_scene l) (hr : RI X .int r σr)     {σ : Mem} (h : f_X5_scene_J26   σ = some res) : G X σ 26 [(0, .ref (eA (xE X) 50))] [] := by
  unfold f_X5_scene_J26 at h
  refine g_aload_n o (q := 27) 0 rfl rfl dX5_scene_26 rfl ?_
  refine g_ldc o (q := 29) lk_X5_60 dX5_scene_27 rfl ?_
  refine g_cvi o (q := 32) (As := [.int (-1000001)]) (rest := []) kv_X5_finding lk_X5_66 kM_50 (by decide) rfl rfl rfl (fun _ _ hc => c_X5_finding o.mk (-1000001) hc) dX5_scene_29 rfl ⟨rfl, rfl, Nat.le_of_ble_eq_true rfl, Nat.le_of_ble_eq_true rfl⟩ (Nat.le_of_ble_eq_true rfl) rfl h (fun r24 σ23 h => ?_)
  exact g_iret o hr (h.trans (congrArg some hres)) rfl dX5_scene_32
set_option maxRecDepth 100000 in
set_option maxHeartbeats 4000000 in
theorem w_X5_scene {X : Cx} {l : Launch} {r : Int32} {σr : Mem} {res : Int32 × Mem} (hres : res = (r, σr)) (o : OK X cX5_scene RX5 sdM 3 rm_X5_scene l) (hr : RI X .int r σr) (x1 : Int32) (x2 : Int32)  {σ : Mem} (h : f_X5_scene x1 x2 σ = some res) : G X σ 0 [(0, .ref (eA (xE X) 50)), (1, .int x1), (2, .int x2)] [] := by
  unfold f_X5_scene at h
  refine g_iload_n o (q := 1) 1 rfl rfl dX5_scene_0 rfl ?_
  refine g_csi o (q := 4) (As := [.int x1]) (rest := []) kv_X5_isPlace lk_X5_78 rfl (fun _ _ hc => c_X5_isPlace o.mk x1 hc) dX5_scene_1 rfl ⟨rfl, rfl, Nat.le_of_ble_eq_true rfl, Nat.le_of_ble_eq_true rfl⟩ (Nat.le_of_ble_eq_true rfl) rfl h (fun r22 σ21 h => ?_)
  refine g_if_eq o (tgt := 26) (q := 7) dX5_scene_4 (by decide) rfl h (fun h => ?_) (fun h => ?_)
  · refine g_sub (lv' := [(0, .ref (eA (xE X) 50))]) [0] rfl ?_
    exact w_X5_scene_J26 hres o hr   h
  · refine g_iload_n o (q := 8) 2 rfl rfl dX5_scene_7 rfl ?_
    refine g_csi o (q := 11) (As := [.int x2]) (rest := []) kv_X5_isScene lk_X5_82 rfl (fun _ _ hc => c_X5_isScene o.mk x2 hc) dX5_scene_8 rfl ⟨rfl, rfl, Nat.le_of_ble_eq_true rfl, Nat.le_of_ble_eq_true rfl⟩ (Nat.le_of_ble_eq_true rfl) rfl h (fun r26 σ25 h => ?_)
    refine g_if_eq o (tgt := 26) (q := 14) dX5_scene_11 (by decide) rfl h (fun h => ?_) (fun h => ?_)
    · refine g_sub (lv' := [(0, .ref (eA (xE X) 50))]) [0] rfl ?_
      exact w_X5_scene_J26 hres o hr   h
    · refine g_aload_n o (q := 15) 0 rfl rfl dX5_scene_14 rfl ?_
      refine g_bipush o (v := 6) (q := 17) (by decide) dX5_scene_15 rfl ?_
      refine g_iload_n o (q := 18) 1 rfl rfl dX5_scene_17 rfl ?_
      refine g_iadd o (q := 19) dX5_scene_18 rfl ?_
      refine g_iload_n o (q := 20) 2 rfl rfl dX5_scene_19 rfl ?_
      refine g_cvi o (q := 23) (As := [.int (6 + x1), .int x2]) (rest := []) kv_X5_become lk_X5_74 kM_50 (by decide) rfl rfl rfl (fun _ _ hc => c_X5_become o.mk (6 + x1) x2 hc) dX5_scene_20 rfl ⟨rfl, rfl, Nat.le_of_ble_eq_true rfl, Nat.le_of_ble_eq_true rfl⟩ (Nat.le_of_ble_eq_true rfl) rfl h (fun r28 σ27 h => ?_)
      refine g_goto o (tgt := 32) dX5_scene_23 (by decide) ?_
      exact g_iret o hr (h.trans (congrArg some hres)) rfl dX5_scene_32
theorem c_X5_scene {l : Launch} {E : En} {mk : Mem → Mem} (hmk : MK mk sdM) (x1 : Int32) (x2 : Int32)  {σ : Mem} {r : Int32} {τ : Mem} (h : f_X5_scene x1 x2 σ = some (r, τ)) : Met l yX5_scene (Cond.code yX5_scene cX5_scene 3 (some .int) :: wt) rm_X5_scene (PW E mk [.ref (eA E 50), .int x1, .int x2] σ) (QI E mk r τ) 0 0 (WA E) :=
  met_i (fun E => [.ref (eA E 50), .int x1, .int x2]) (by decide) hmk (Nat.le_of_ble_eq_true rfl) (fun X o hr => w_X5_scene rfl o hr x1 x2  h)
set_option maxRecDepth 100000 in
set_option maxHeartbeats 4000000 in
theorem w_X5_listed {X : Cx} {l : Launch} {r : Int32} {σr : Mem} {res : Int32 × Mem} (hres : res = (r, σr)) (o : OK X cX5_listed RX5 sdM 2 rm_X5_listed l) (hr : RI X .int r σr) (x1 : Int32)  {σ : Mem} (h : f_X5_listed x1 σ = some res) : G X σ 0 [(0, .ref (eA (xE X) 50)), (1, .int x1)] [] := by
  unfold f_X5_listed at h
  refine g_iload_n o (q := 1) 1 rfl rfl dX5_listed_0 rfl ?_
  refine g_csi o (q := 4) (As := [.int x1]) (rest := []) kv_X5_isPlace lk_X5_78 rfl (fun _ _ hc => c_X5_isPlace o.mk x1 hc) dX5_listed_1 rfl ⟨rfl, rfl, Nat.le_of_ble_eq_true rfl, Nat.le_of_ble_eq_true rfl⟩ (Nat.le_of_ble_eq_true rfl) rfl h (fun r22 σ21 h => ?_)
  refine g_if_eq o (tgt := 19) (q := 7) dX5_listed_4 (by decide) rfl h (fun h => ?_) (fun h => ?_)
  · refine g_aload_n o (q := 20) 0 rfl rfl dX5_listed_19 rfl ?_
    refine g_ldc o (q := 22) lk_X5_60 dX5_listed_20 rfl ?_
    refine g_cvi o (q := 25) (As := [.int (-1000001)]) (rest := []) kv_X5_finding lk_X5_66 kM_50 (by decide) rfl rfl rfl (fun _ _ hc => c_X5_finding o.mk (-1000001) hc) dX5_listed_22 rfl ⟨rfl, rfl, Nat.le_of_ble_eq_true rfl, Nat.le_of_ble_eq_true rfl⟩ (Nat.le_of_ble_eq_true rfl) rfl h (fun r24 σ23 h => ?_)
    exact g_iret o hr (h.trans (congrArg some hres)) rfl dX5_listed_25
  · refine g_aload_n o (q := 8) 0 rfl rfl dX5_listed_7 rfl ?_
    refine gf_X5_0 o (q := 11) kM_50 lk_X5_9 dX5_listed_8 rfl ?_
    refine g_bipush o (v := 6) (q := 13) (by decide) dX5_listed_11 rfl ?_
    refine g_iload_n o (q := 14) 1 rfl rfl dX5_listed_13 rfl ?_
    refine g_iadd o (q := 15) dX5_listed_14 rfl ?_
    refine g_iald o (q := 16) kM_51 dX5_listed_15 rfl h (fun j25 hjj25 h => ?_)
    refine g_goto o (tgt := 25) dX5_listed_16 (by decide) ?_
    exact g_iret o hr (h.trans (congrArg some hres)) rfl dX5_listed_25
theorem c_X5_listed {l : Launch} {E : En} {mk : Mem → Mem} (hmk : MK mk sdM) (x1 : Int32)  {σ : Mem} {r : Int32} {τ : Mem} (h : f_X5_listed x1 σ = some (r, τ)) : Met l yX5_listed (Cond.code yX5_listed cX5_listed 2 (some .int) :: wt) rm_X5_listed (PW E mk [.ref (eA E 50), .int x1] σ) (QI E mk r τ) 0 0 (WA E) :=
  met_i (fun E => [.ref (eA E 50), .int x1]) (by decide) hmk (Nat.le_of_ble_eq_true rfl) (fun X o hr => w_X5_listed rfl o hr x1  h)
set_option maxRecDepth 100000 in
set_option maxHeartbeats 4000000 in
theorem w_X5_placeNow {X : Cx} {l : Launch} {r : Int32} {σr : Mem} {res : Int32 × Mem} (hres : res = (r, σr)) (o : OK X cX5_placeNow RX5 sdM 1 rm_X5_placeNow l) (hr : RI X .int r σr)   {σ : Mem} (h : f_X5_placeNow  σ = some res) : G X σ 0 [(0, .ref (eA (xE X) 50))] [] := by
  unfold f_X5_placeNow at h
  refine g_bipush o (v := 6) (q := 2) (by decide) dX5_placeNow_0 rfl ?_
  refine g_aload_n o (q := 3) 0 rfl rfl dX5_placeNow_2 rfl ?_
  refine gf_X5_0 o (q := 6) kM_50 lk_X5_9 dX5_placeNow_3 rfl ?_
  refine g_iconst o (v := 0) (q := 7) (by decide) dX5_placeNow_6 rfl ?_
  refine g_iald o (q := 8) kM_51 dX5_placeNow_7 rfl h (fun j21 hjj21 h => ?_)
  refine g_bipush o (v := 6) (q := 10) (by decide) dX5_placeNow_8 rfl ?_
  refine g_irem o (q := 11) (by decide) dX5_placeNow_10 rfl ?_
  refine g_iadd o (q := 12) dX5_placeNow_11 rfl ?_
  exact g_iret o hr (h.trans (congrArg some hres)) rfl dX5_placeNow_12
theorem c_X5_placeNow {l : Launch} {E : En} {mk : Mem → Mem} (hmk : MK mk sdM)   {σ : Mem} {r : Int32} {τ : Mem} (h : f_X5_placeNow  σ = some (r, τ)) : Met l yX5_placeNow (Cond.code yX5_placeNow cX5_placeNow 1 (some .int) :: wt) rm_X5_placeNow (PW E mk [.ref (eA E 50)] σ) (QI E mk r τ) 0 0 (WA E) :=
  met_i (fun E => [.ref (eA E 50)]) (by decide) hmk (Nat.le_of_ble_eq_true rfl) (fun X o hr => w_X5_placeNow rfl o hr   h)
set_option maxRecDepth 100000 in
set_option maxHeartbeats 4000000 in
theorem w_X5_curtainAt {X : Cx} {l : Launch} {r : Int32} {σr : Mem} {res : Int32 × Mem} (hres : res = (r, σr)) (o : OK X cX5_curtainAt RX5 sdM 2 rm_X5_curtainAt l) (hr : RI X .int r σr) (x0 : Int32) (x1 : Int32)  {σ : Mem} (h : f_X5_curtainAt x0 x1 σ = some res) : G X σ 0 [(0, .int x0), (1, .int x1)] [] := by
  unfold f_X5_curtainAt at h
  refine g_bipush o (v := 22) (q := 2) (by decide) dX5_curtainAt_0 rfl ?_
  refine g_bipush o (v := 6) (q := 4) (by decide) dX5_curtainAt_2 rfl ?_
  refine g_iload_n o (q := 5) 0 rfl rfl dX5_curtainAt_4 rfl ?_
  refine g_imul o (q := 6) dX5_curtainAt_5 rfl ?_
  refine g_iadd o (q := 7) dX5_curtainAt_6 rfl ?_
  refine g_iload_n o (q := 8) 1 rfl rfl dX5_curtainAt_7 rfl ?_
  refine g_iadd o (q := 9) dX5_curtainAt_8 rfl ?_
  exact g_iret o hr (h.trans (congrArg some hres)) rfl dX5_curtainAt_9
theorem c_X5_curtainAt {l : Launch} {E : En} {mk : Mem → Mem} (hmk : MK mk sdM) (x0 : Int32) (x1 : Int32)  {σ : Mem} {r : Int32} {τ : Mem} (h : f_X5_curtainAt x0 x1 σ = some (r, τ)) : Met l yX5_curtainAt (Cond.code yX5_curtainAt cX5_curtainAt 2 (some .int) :: wt) rm_X5_curtainAt (PW E mk [.int x0, .int x1] σ) (QI E mk r τ) 0 0 (WA E) :=
  met_i (fun E => [.int x0, .int x1]) (by decide) hmk (Nat.le_of_ble_eq_true rfl) (fun X o hr => w_X5_curtainAt rfl o hr x0 x1  h)
set_option maxRecDepth 100000 in
set_option maxHeartbeats 4000000 in
theorem w_X5_curtainIs {X : Cx} {l : Launch} {r : Int32} {σr : Mem} {res : Int32 × Mem} (hres : res = (r, σr)) (o : OK X cX5_curtainIs RX5 sdM 3 rm_X5_curtainIs l) (hr : RI X .int r σr) (x1 : Int32) (x2 : Int32)  {σ : Mem} (h : f_X5_curtainIs x1 x2 σ = some res) : G X σ 0 [(0, .ref (eA (xE X) 50)), (1, .int x1), (2, .int x2)] [] := by
  unfold f_X5_curtainIs at h
  refine g_aload_n o (q := 1) 0 rfl rfl dX5_curtainIs_0 rfl ?_
  refine gf_X5_0 o (q := 4) kM_50 lk_X5_9 dX5_curtainIs_1 rfl ?_
  refine g_iload_n o (q := 5) 1 rfl rfl dX5_curtainIs_4 rfl ?_
  refine g_iload_n o (q := 6) 2 rfl rfl dX5_curtainIs_5 rfl ?_
  refine g_csi o (q := 9) (As := [.int x1, .int x2]) (rest := [.ref (eA (xE X) 51)]) kv_X5_curtainAt lk_X5_85 rfl (fun _ _ hc => c_X5_curtainAt o.mk x1 x2 hc) dX5_curtainIs_6 rfl ⟨rfl, rfl, Nat.le_of_ble_eq_true rfl, Nat.le_of_ble_eq_true rfl⟩ (Nat.le_of_ble_eq_true rfl) rfl h (fun r22 σ21 h => ?_)
  refine g_iald o (q := 10) kM_51 dX5_curtainIs_9 rfl h (fun j23 hjj23 h => ?_)
  exact g_iret o hr (h.trans (congrArg some hres)) rfl dX5_curtainIs_10
theorem c_X5_curtainIs {l : Launch} {E : En} {mk : Mem → Mem} (hmk : MK mk sdM) (x1 : Int32) (x2 : Int32)  {σ : Mem} {r : Int32} {τ : Mem} (h : f_X5_curtainIs x1 x2 σ = some (r, τ)) : Met l yX5_curtainIs (Cond.code yX5_curtainIs cX5_curtainIs 3 (some .int) :: wt) rm_X5_curtainIs (PW E mk [.ref (eA E 50), .int x1, .int x2] σ) (QI E mk r τ) 0 0 (WA E) :=
  met_i (fun E => [.ref (eA E 50), .int x1, .int x2]) (by decide) hmk (Nat.le_of_ble_eq_true rfl) (fun X o hr => w_X5_curtainIs rfl o hr x1 x2  h)
set_option maxRecDepth 100000 in
set_option maxHeartbeats 4000000 in
theorem w_X5_isCurtain {X : Cx} {l : Launch} {r : Int32} {σr : Mem} {res : Int32 × Mem} (hres : res = (r, σr)) (o : OK X cX5_isCurtain RX5 sdM 2 rm_X5_isCurtain l) (hr : RI X .boolean r σr) (x1 : Int32)  {σ : Mem} (h : f_X5_isCurtain x1 σ = some res) : G X σ 0 [(0, .ref (eA (xE X) 50)), (1, .int x1)] [] := by
  unfold f_X5_isCurtain at h
  refine g_iload_n o (q := 1) 1 rfl rfl dX5_isCurtain_0 rfl ?_
  refine g_iconst o (v := 0) (q := 2) (by decide) dX5_isCurtain_1 rfl ?_
  refine g_aload_n o (q := 3) 0 rfl rfl dX5_isCurtain_2 rfl ?_
  refine gf_X5_0 o (q := 6) kM_50 lk_X5_9 dX5_isCurtain_3 rfl ?_
  refine g_iconst o (v := 1) (q := 7) (by decide) dX5_isCurtain_6 rfl ?_
  refine g_iald o (q := 8) kM_51 dX5_isCurtain_7 rfl h (fun j21 hjj21 h => ?_)
  refine g_iconst o (v := 1) (q := 9) (by decide) dX5_isCurtain_8 rfl ?_
  refine g_isub o (q := 10) dX5_isCurtain_9 rfl ?_
  refine g_csi o (q := 13) (As := [.int x1, .int 0, .int ((σ 51 j21) - 1)]) (rest := []) kv_X5_within lk_X5_70 rfl (fun _ _ hc => c_X5_within o.mk x1 0 ((σ 51 j21) - 1) hc) dX5_isCurtain_10 rfl ⟨rfl, rfl, Nat.le_of_ble_eq_true rfl, Nat.le_of_ble_eq_true rfl⟩ (Nat.le_of_ble_eq_true rfl) rfl h (fun r23 σ22 h => ?_)
  obtain ⟨hb, h⟩ := vB_some h
  exact g_iret o hr (h.trans (congrArg some hres)) (by rcases hb with hb | hb <;> rw [hb] <;> rfl) dX5_isCurtain_13
theorem c_X5_isCurtain {l : Launch} {E : En} {mk : Mem → Mem} (hmk : MK mk sdM) (x1 : Int32)  {σ : Mem} {r : Int32} {τ : Mem} (h : f_X5_isCurtain x1 σ = some (r, τ)) : Met l yX5_isCurtain (Cond.code yX5_isCurtain cX5_isCurtain 2 (some .boolean) :: wt) rm_X5_isCurtain (PW E mk [.ref (eA E 50), .int x1] σ) (QI E mk r τ) 0 0 (WA E) :=
  met_i (fun E => [.ref (eA E 50), .int x1]) (by decide) hmk (Nat.le_of_ble_eq_true rfl) (fun X o hr => w_X5_isCurtain rfl o hr x1  h)
set_option maxRecDepth 100000 in
set_option maxHeartbeats 4000000 in
theorem w_X5_isKind {X : Cx} {l : Launch} {r : Int32} {σr : Mem} {res : Int32 × Mem} (hres : res = (r, σr)) (o : OK X cX5_isKind RX5 sdM 1 rm_X5_isKind l) (hr : RI X .boolean r σr) (x0 : Int32)  {σ : Mem} (h : f_X5_isKind x0 σ = some res) : G X σ 0 [(0, .int x0)] [] := by
  unfold f_X5_isKind at h
  refine g_iload_n o (q := 1) 0 rfl rfl dX5_isKind_0 rfl ?_
  refine g_iconst o (v := 0) (q := 2) (by decide) dX5_isKind_1 rfl ?_
  refine g_bipush o (v := 6) (q := 4) (by decide) dX5_isKind_2 rfl ?_
  refine g_csi o (q := 7) (As := [.int x0, .int 0, .int 6]) (rest := []) kv_X5_within lk_X5_70 rfl (fun _ _ hc => c_X5_within o.mk x0 0 6 hc) dX5_isKind_4 rfl ⟨rfl, rfl, Nat.le_of_ble_eq_true rfl, Nat.le_of_ble_eq_true rfl⟩ (Nat.le_of_ble_eq_true rfl) rfl h (fun r22 σ21 h => ?_)
  obtain ⟨hb, h⟩ := vB_some h
  exact g_iret o hr (h.trans (congrArg some hres)) (by rcases hb with hb | hb <;> rw [hb] <;> rfl) dX5_isKind_7
theorem c_X5_isKind {l : Launch} {E : En} {mk : Mem → Mem} (hmk : MK mk sdM) (x0 : Int32)  {σ : Mem} {r : Int32} {τ : Mem} (h : f_X5_isKind x0 σ = some (r, τ)) : Met l yX5_isKind (Cond.code yX5_isKind cX5_isKind 1 (some .boolean) :: wt) rm_X5_isKind (PW E mk [.int x0] σ) (QI E mk r τ) 0 0 (WA E) :=
  met_i (fun E => [.int x0]) (by decide) hmk (Nat.le_of_ble_eq_true rfl) (fun X o hr => w_X5_isKind rfl o hr x0  h)
set_option maxRecDepth 100000 in
set_option maxHeartbeats 4000000 in
theorem w_X5_comes_L10 {X : Cx} {l : Launch} {r : Int32} {σr : Mem} {res : Int32 × Mem} (hres : res = (r, σr)) (o : OK X cX5_comes RX5 sdM 5 rm_X5_comes l) (hr : RI X .int r σr)   : ∀ (n : Nat) (y1 : Int32) (y2 : Int32) (y3 : Int32) (y4 : Int32) (σ : Mem), f_X5_comes_L10  n y1 y2 y3 y4 σ = some res → G X σ 10 [(0, .ref (eA (xE X) 50)), (1, .int y1), (2, .int y2), (3, .int y3), (4, .int y4)] [] := by
  intro n
  induction n with
  | zero => intro y1 y2 y3 y4 σ  h; cases h
  | succ n ih =>
    intro y1 y2 y3 y4 σ  h
    rw [f_X5_comes_L10_s] at h
    refine g_iload o (q := 12) 4 rfl dX5_comes_10 rfl ?_
    refine g_bipush o (v := 6) (q := 14) (by decide) dX5_comes_12 rfl ?_
    refine g_icmp_ge o (tgt := 35) (q := 17) dX5_comes_14 (by decide) rfl h (fun h => ?_) (fun h => ?_)
    · refine g_aload_n o (q := 36) 0 rfl rfl dX5_comes_35 rfl ?_
      refine gf_X5_0 o (q := 39) kM_50 lk_X5_9 dX5_comes_36 rfl ?_
      refine g_iload_n o (q := 40) 3 rfl rfl dX5_comes_39 rfl ?_
      refine g_iconst o (v := 0) (q := 41) (by decide) dX5_comes_40 rfl ?_
      refine g_csi o (q := 44) (As := [.int y3, .int 0]) (rest := [.ref (eA (xE X) 51)]) kv_X5_curtainAt lk_X5_85 rfl (fun _ _ hc => c_X5_curtainAt o.mk y3 0 hc) dX5_comes_41 rfl ⟨rfl, rfl, Nat.le_of_ble_eq_true rfl, Nat.le_of_ble_eq_true rfl⟩ (Nat.le_of_ble_eq_true rfl) rfl h (fun r25 σ24 h => ?_)
      refine g_iload_n o (q := 45) 1 rfl rfl dX5_comes_44 rfl ?_
      refine g_iast o (q := 46) kM_51 dX5_comes_45 rfl h (fun j26 σ27 h => ?_)
      refine g_aload_n o (q := 47) 0 rfl rfl dX5_comes_46 rfl ?_
      refine gf_X5_0 o (q := 50) kM_50 lk_X5_9 dX5_comes_47 rfl ?_
      refine g_iload_n o (q := 51) 3 rfl rfl dX5_comes_50 rfl ?_
      refine g_iconst o (v := 1) (q := 52) (by decide) dX5_comes_51 rfl ?_
      refine g_csi o (q := 55) (As := [.int y3, .int 1]) (rest := [.ref (eA (xE X) 51)]) kv_X5_curtainAt lk_X5_85 rfl (fun _ _ hc => c_X5_curtainAt o.mk y3 1 hc) dX5_comes_52 rfl ⟨rfl, rfl, Nat.le_of_ble_eq_true rfl, Nat.le_of_ble_eq_true rfl⟩ (Nat.le_of_ble_eq_true rfl) rfl h (fun r29 σ28 h => ?_)
      refine g_bipush o (v := 60) (q := 57) (by decide) dX5_comes_55 rfl ?_
      refine g_iast o (q := 58) kM_51 dX5_comes_57 rfl h (fun j30 σ31 h => ?_)
      refine g_aload_n o (q := 59) 0 rfl rfl dX5_comes_58 rfl ?_
      refine gf_X5_0 o (q := 62) kM_50 lk_X5_9 dX5_comes_59 rfl ?_
      refine g_iload_n o (q := 63) 3 rfl rfl dX5_comes_62 rfl ?_
      refine g_iconst o (v := 2) (q := 64) (by decide) dX5_comes_63 rfl ?_
      refine g_csi o (q := 67) (As := [.int y3, .int 2]) (rest := [.ref (eA (xE X) 51)]) kv_X5_curtainAt lk_X5_85 rfl (fun _ _ hc => c_X5_curtainAt o.mk y3 2 hc) dX5_comes_64 rfl ⟨rfl, rfl, Nat.le_of_ble_eq_true rfl, Nat.le_of_ble_eq_true rfl⟩ (Nat.le_of_ble_eq_true rfl) rfl h (fun r33 σ32 h => ?_)
      refine g_iload_n o (q := 68) 2 rfl rfl dX5_comes_67 rfl ?_
      refine g_iast o (q := 69) kM_51 dX5_comes_68 rfl h (fun j34 σ35 h => ?_)
      refine g_aload_n o (q := 70) 0 rfl rfl dX5_comes_69 rfl ?_
      refine gf_X5_0 o (q := 73) kM_50 lk_X5_9 dX5_comes_70 rfl ?_
      refine g_iload_n o (q := 74) 3 rfl rfl dX5_comes_73 rfl ?_
      refine g_iconst o (v := 3) (q := 75) (by decide) dX5_comes_74 rfl ?_
      refine g_csi o (q := 78) (As := [.int y3, .int 3]) (rest := [.ref (eA (xE X) 51)]) kv_X5_curtainAt lk_X5_85 rfl (fun _ _ hc => c_X5_curtainAt o.mk y3 3 hc) dX5_comes_75 rfl ⟨rfl, rfl, Nat.le_of_ble_eq_true rfl, Nat.le_of_ble_eq_true rfl⟩ (Nat.le_of_ble_eq_true rfl) rfl h (fun r37 σ36 h => ?_)
      refine g_bipush o (v := 20) (q := 80) (by decide) dX5_comes_78 rfl ?_
      refine g_iast o (q := 81) kM_51 dX5_comes_80 rfl h (fun j38 σ39 h => ?_)
      refine g_aload_n o (q := 82) 0 rfl rfl dX5_comes_81 rfl ?_
      refine gf_X5_0 o (q := 85) kM_50 lk_X5_9 dX5_comes_82 rfl ?_
      refine g_iconst o (v := 1) (q := 86) (by decide) dX5_comes_85 rfl ?_
      refine g_dup2 o (q := 87) rfl rfl dX5_comes_86 rfl ?_
      refine g_iald o (q := 88) kM_51 dX5_comes_87 rfl h (fun j40 hjj40 h => ?_)
      refine g_iconst o (v := 1) (q := 89) (by decide) dX5_comes_88 rfl ?_
      refine g_iadd o (q := 90) dX5_comes_89 rfl ?_
      refine g_iast o (q := 91) kM_51 dX5_comes_90 rfl h (fun j41 σ42 h => ?_)
      refine g_iload_n o (q := 92) 3 rfl rfl dX5_comes_91 rfl ?_
      exact g_iret o hr (h.trans (congrArg some hres)) rfl dX5_comes_92
    · refine g_aload_n o (q := 18) 0 rfl rfl dX5_comes_17 rfl ?_
      refine gf_X5_0 o (q := 21) kM_50 lk_X5_9 dX5_comes_18 rfl ?_
      refine g_iload_n o (q := 22) 3 rfl rfl dX5_comes_21 rfl ?_
      refine g_iload o (q := 24) 4 rfl dX5_comes_22 rfl ?_
      refine g_csi o (q := 27) (As := [.int y3, .int y4]) (rest := [.ref (eA (xE X) 51)]) kv_X5_curtainAt lk_X5_85 rfl (fun _ _ hc => c_X5_curtainAt o.mk y3 y4 hc) dX5_comes_24 rfl ⟨rfl, rfl, Nat.le_of_ble_eq_true rfl, Nat.le_of_ble_eq_true rfl⟩ (Nat.le_of_ble_eq_true rfl) rfl h (fun r44 σ43 h => ?_)
      refine g_iconst o (v := 0) (q := 28) (by decide) dX5_comes_27 rfl ?_
      refine g_iast o (q := 29) kM_51 dX5_comes_28 rfl h (fun j45 σ46 h => ?_)
      refine g_iinc o (q := 32) (dn := 1) dX5_comes_29 rfl 4 rfl (by decide) (by decide) h (fun x47 => [(4, .int x47), (0, .ref (eA (xE X) 50)), (1, .int y1), (2, .int y2), (3, .int y3)]) (fun _ => rfl) (fun x47 h => ?_)
      refine g_goto o (tgt := 10) dX5_comes_32 (by decide) ?_
      refine g_sub (lv' := [(0, .ref (eA (xE X) 50)), (1, .int y1), (2, .int y2), (3, .int y3), (4, .int x47)]) [1, 2, 3, 4, 0] rfl ?_
      exact ih y1 y2 y3 x47 σ46  h
set_option maxRecDepth 100000 in
set_option maxHeartbeats 4000000 in
theorem w_X5_comes {X : Cx} {l : Launch} {r : Int32} {σr : Mem} {res : Int32 × Mem} (hres : res = (r, σr)) (o : OK X cX5_comes RX5 sdM 5 rm_X5_comes l) (hr : RI X .int r σr) (x1 : Int32) (x2 : Int32)  {σ : Mem} (h : f_X5_comes x1 x2 σ = some res) : G X σ 0 [(0, .ref (eA (xE X) 50)), (1, .int x1), (2, .int x2)] [] := by
  unfold f_X5_comes at h
  refine g_aload_n o (q := 1) 0 rfl rfl dX5_comes_0 rfl ?_
  refine gf_X5_0 o (q := 4) kM_50 lk_X5_9 dX5_comes_1 rfl ?_
  refine g_iconst o (v := 1) (q := 5) (by decide) dX5_comes_4 rfl ?_
  refine g_iald o (q := 6) kM_51 dX5_comes_5 rfl h (fun j21 hjj21 h => ?_)
  refine g_istore_n o (q := 7) dX5_comes_6 rfl rfl (by decide) h (fun x22 => [(3, .int x22), (0, .ref (eA (xE X) 50)), (1, .int x1), (2, .int x2)]) (fun _ => rfl) (fun x22 h => ?_)
  refine g_iconst o (v := 0) (q := 8) (by decide) dX5_comes_7 rfl ?_
  refine g_istore o (q := 10) dX5_comes_8 rfl (by decide) h (fun x23 => [(4, .int x23), (3, .int x22), (0, .ref (eA (xE X) 50)), (1, .int x1), (2, .int x2)]) (fun _ => rfl) (fun x23 h => ?_)
  refine g_sub (lv' := [(0, .ref (eA (xE X) 50)), (1, .int x1), (2, .int x2), (3, .int x22), (4, .int x23)]) [2, 3, 4, 1, 0] rfl ?_
  exact w_X5_comes_L10 hres o hr  FU x1 x2 x22 x23 σ  h
theorem c_X5_comes {l : Launch} {E : En} {mk : Mem → Mem} (hmk : MK mk sdM) (x1 : Int32) (x2 : Int32)  {σ : Mem} {r : Int32} {τ : Mem} (h : f_X5_comes x1 x2 σ = some (r, τ)) : Met l yX5_comes (Cond.code yX5_comes cX5_comes 5 (some .int) :: wt) rm_X5_comes (PW E mk [.ref (eA E 50), .int x1, .int x2] σ) (QI E mk r τ) 0 0 (WA E) :=
  met_i (fun E => [.ref (eA E 50), .int x1, .int x2]) (by decide) hmk (Nat.le_of_ble_eq_true rfl) (fun X o hr => w_X5_comes rfl o hr x1 x2  h)
set_option maxRecDepth 100000 in
set_option maxHeartbeats 4000000 in
theorem w_X5_curtain_J14 {X : Cx} {l : Launch} {r : Int32} {σr : Mem} {res : Int32 × Mem} (hres : res = (r, σr)) (o : OK X cX5_curtain RX5 sdM 3 rm_X5_curtain l) (hr : RI X .int r σr)     {σ : Mem} (h : f_X5_curtain_J14   σ = some res) : G X σ 14 [(0, .ref (eA (xE X) 50))] [] := by
  unfold f_X5_curtain_J14 at h
  refine g_aload_n o (q := 15) 0 rfl rfl dX5_curtain_14 rfl ?_
  refine g_ldc o (q := 17) lk_X5_60 dX5_curtain_15 rfl ?_
  refine g_cvi o (q := 20) (As := [.int (-1000001)]) (rest := []) kv_X5_finding lk_X5_66 kM_50 (by decide) rfl rfl rfl (fun _ _ hc => c_X5_finding o.mk (-1000001) hc) dX5_curtain_17 rfl ⟨rfl, rfl, Nat.le_of_ble_eq_true rfl, Nat.le_of_ble_eq_true rfl⟩ (Nat.le_of_ble_eq_true rfl) rfl h (fun r24 σ23 h => ?_)
  exact g_iret o hr (h.trans (congrArg some hres)) rfl dX5_curtain_20
set_option maxRecDepth 100000 in
set_option maxHeartbeats 4000000 in
theorem w_X5_curtain {X : Cx} {l : Launch} {r : Int32} {σr : Mem} {res : Int32 × Mem} (hres : res = (r, σr)) (o : OK X cX5_curtain RX5 sdM 3 rm_X5_curtain l) (hr : RI X .int r σr) (x1 : Int32) (x2 : Int32)  {σ : Mem} (h : f_X5_curtain x1 x2 σ = some res) : G X σ 0 [(0, .ref (eA (xE X) 50)), (1, .int x1), (2, .int x2)] [] := by
  unfold f_X5_curtain at h
  refine g_iload_n o (q := 1) 1 rfl rfl dX5_curtain_0 rfl ?_
  refine g_csi o (q := 4) (As := [.int x1]) (rest := []) kv_X5_isKind lk_X5_88 rfl (fun _ _ hc => c_X5_isKind o.mk x1 hc) dX5_curtain_1 rfl ⟨rfl, rfl, Nat.le_of_ble_eq_true rfl, Nat.le_of_ble_eq_true rfl⟩ (Nat.le_of_ble_eq_true rfl) rfl h (fun r22 σ21 h => ?_)
  refine g_if_eq o (tgt := 14) (q := 7) dX5_curtain_4 (by decide) rfl h (fun h => ?_) (fun h => ?_)
  · refine g_sub (lv' := [(0, .ref (eA (xE X) 50))]) [0] rfl ?_
    exact w_X5_curtain_J14 hres o hr   h
  · refine g_iload_n o (q := 8) 2 rfl rfl dX5_curtain_7 rfl ?_
    refine g_csi o (q := 11) (As := [.int x2]) (rest := []) kv_X5_isSet lk_X5_91 rfl (fun _ _ hc => c_X5_isSet o.mk x2 hc) dX5_curtain_8 rfl ⟨rfl, rfl, Nat.le_of_ble_eq_true rfl, Nat.le_of_ble_eq_true rfl⟩ (Nat.le_of_ble_eq_true rfl) rfl h (fun r26 σ25 h => ?_)
    refine g_if_ne o (tgt := 21) (q := 14) dX5_curtain_11 (by decide) rfl h (fun h => ?_) (fun h => ?_)
    · refine g_aload_n o (q := 22) 0 rfl rfl dX5_curtain_21 rfl ?_
      refine gf_X5_0 o (q := 25) kM_50 lk_X5_9 dX5_curtain_22 rfl ?_
      refine g_iconst o (v := 1) (q := 26) (by decide) dX5_curtain_25 rfl ?_
      refine g_iald o (q := 27) kM_51 dX5_curtain_26 rfl h (fun j27 hjj27 h => ?_)
      refine g_bipush o (v := 8) (q := 29) (by decide) dX5_curtain_27 rfl ?_
      refine g_icmp_ne o (tgt := 41) (q := 32) dX5_curtain_29 (by decide) rfl h (fun h => ?_) (fun h => ?_)
      · refine g_aload_n o (q := 42) 0 rfl rfl dX5_curtain_41 rfl ?_
        refine g_iload_n o (q := 43) 1 rfl rfl dX5_curtain_42 rfl ?_
        refine g_iload_n o (q := 44) 2 rfl rfl dX5_curtain_43 rfl ?_
        refine g_cvi o (q := 47) (As := [.int x1, .int x2]) (rest := []) kv_X5_comes lk_X5_95 kM_50 (by decide) rfl rfl rfl (fun _ _ hc => c_X5_comes o.mk x1 x2 hc) dX5_curtain_44 rfl ⟨rfl, rfl, Nat.le_of_ble_eq_true rfl, Nat.le_of_ble_eq_true rfl⟩ (Nat.le_of_ble_eq_true rfl) rfl h (fun r29 σ28 h => ?_)
        exact g_iret o hr (h.trans (congrArg some hres)) rfl dX5_curtain_47
      · refine g_aload_n o (q := 33) 0 rfl rfl dX5_curtain_32 rfl ?_
        refine g_ldc o (q := 35) lk_X5_94 dX5_curtain_33 rfl ?_
        refine g_cvi o (q := 38) (As := [.int (-1000002)]) (rest := []) kv_X5_finding lk_X5_66 kM_50 (by decide) rfl rfl rfl (fun _ _ hc => c_X5_finding o.mk (-1000002) hc) dX5_curtain_35 rfl ⟨rfl, rfl, Nat.le_of_ble_eq_true rfl, Nat.le_of_ble_eq_true rfl⟩ (Nat.le_of_ble_eq_true rfl) rfl h (fun r31 σ30 h => ?_)
        refine g_goto o (tgt := 47) dX5_curtain_38 (by decide) ?_
        exact g_iret o hr (h.trans (congrArg some hres)) rfl dX5_curtain_47
    · refine g_sub (lv' := [(0, .ref (eA (xE X) 50))]) [0] rfl ?_
      exact w_X5_curtain_J14 hres o hr   h
theorem c_X5_curtain {l : Launch} {E : En} {mk : Mem → Mem} (hmk : MK mk sdM) (x1 : Int32) (x2 : Int32)  {σ : Mem} {r : Int32} {τ : Mem} (h : f_X5_curtain x1 x2 σ = some (r, τ)) : Met l yX5_curtain (Cond.code yX5_curtain cX5_curtain 3 (some .int) :: wt) rm_X5_curtain (PW E mk [.ref (eA E 50), .int x1, .int x2] σ) (QI E mk r τ) 0 0 (WA E) :=
  met_i (fun E => [.ref (eA E 50), .int x1, .int x2]) (by decide) hmk (Nat.le_of_ble_eq_true rfl) (fun X o hr => w_X5_curtain rfl o hr x1 x2  h)
set_option maxRecDepth 100000 in
set_option maxHeartbeats 4000000 in
theorem w_X5_gladdens {X : Cx} {l : Launch} {r : Int32} {σr : Mem} {res : Int32 × Mem} (hres : res = (r, σr)) (o : OK X cX5_gladdens RX5 sdM 2 rm_X5_gladdens l) (hr : RI X .int r σr) (x1 : Int32)  {σ : Mem} (h : f_X5_gladdens x1 σ = some res) : G X σ 0 [(0, .ref (eA (xE X) 50)), (1, .int x1)] [] := by
  unfold f_X5_gladdens at h
  refine g_aload_n o (q := 1) 0 rfl rfl dX5_gladdens_0 rfl ?_
  refine g_iload_n o (q := 2) 1 rfl rfl dX5_gladdens_1 rfl ?_
  refine g_iconst o (v := 0) (q := 3) (by decide) dX5_gladdens_2 rfl ?_
  refine g_cvi o (q := 6) (As := [.int x1, .int 0]) (rest := []) kv_X5_curtainIs lk_X5_98 kM_50 (by decide) rfl rfl rfl (fun _ _ hc => c_X5_curtainIs o.mk x1 0 hc) dX5_gladdens_3 rfl ⟨rfl, rfl, Nat.le_of_ble_eq_true rfl, Nat.le_of_ble_eq_true rfl⟩ (Nat.le_of_ble_eq_true rfl) rfl h (fun r22 σ21 h => ?_)
  refine g_swIn o (tgt := 44) (off := 38) 1 dX5_gladdens_6 (by decide) (by decide) (by decide +kernel) (by decide) h (fun h => ?_) (fun c1 h => ?_)
  · refine g_bipush o (v := 10) (q := 46) (by decide) dX5_gladdens_44 rfl ?_
    exact g_iret o hr (h.trans (congrArg some hres)) rfl dX5_gladdens_46
  refine g_swIn o (tgt := 50) (off := 44) 2 dX5_gladdens_6 (by decide) (by decide) (by decide +kernel) (by decide) h (fun h => ?_) (fun c2 h => ?_)
  · refine g_iconst o (v := 4) (q := 51) (by decide) dX5_gladdens_50 rfl ?_
    exact g_iret o hr (h.trans (congrArg some hres)) rfl dX5_gladdens_51
  refine g_swIn o (tgt := 50) (off := 44) 3 dX5_gladdens_6 (by decide) (by decide) (by decide +kernel) (by decide) h (fun h => ?_) (fun c3 h => ?_)
  · refine g_iconst o (v := 4) (q := 51) (by decide) dX5_gladdens_50 rfl ?_
    exact g_iret o hr (h.trans (congrArg some hres)) rfl dX5_gladdens_51
  refine g_swIn o (tgt := 52) (off := 46) 4 dX5_gladdens_6 (by decide) (by decide) (by decide +kernel) (by decide) h (fun h => ?_) (fun c4 h => ?_)
  · refine g_iconst o (v := 4) (q := 53) (by decide) dX5_gladdens_52 rfl ?_
    refine g_aload_n o (q := 54) 0 rfl rfl dX5_gladdens_53 rfl ?_
    refine g_iload_n o (q := 55) 1 rfl rfl dX5_gladdens_54 rfl ?_
    refine g_iconst o (v := 2) (q := 56) (by decide) dX5_gladdens_55 rfl ?_
    refine g_cvi o (q := 59) (As := [.int x1, .int 2]) (rest := [.int 4]) kv_X5_curtainIs lk_X5_98 kM_50 (by decide) rfl rfl rfl (fun _ _ hc => c_X5_curtainIs o.mk x1 2 hc) dX5_gladdens_56 rfl ⟨rfl, rfl, Nat.le_of_ble_eq_true rfl, Nat.le_of_ble_eq_true rfl⟩ (Nat.le_of_ble_eq_true rfl) rfl h (fun r24 σ23 h => ?_)
    refine g_csi o (q := 62) (As := [.int r24]) (rest := [.int 4]) kv_X5_bits lk_X5_101 rfl (fun _ _ hc => c_X5_bits o.mk r24 hc) dX5_gladdens_59 rfl ⟨rfl, rfl, Nat.le_of_ble_eq_true rfl, Nat.le_of_ble_eq_true rfl⟩ (Nat.le_of_ble_eq_true rfl) rfl h (fun r26 σ25 h => ?_)
    refine g_iadd o (q := 63) dX5_gladdens_62 rfl ?_
    exact g_iret o hr (h.trans (congrArg some hres)) rfl dX5_gladdens_63
  refine g_swIn o (tgt := 64) (off := 58) 5 dX5_gladdens_6 (by decide) (by decide) (by decide +kernel) (by decide) h (fun h => ?_) (fun c5 h => ?_)
  · refine g_iconst o (v := 0) (q := 65) (by decide) dX5_gladdens_64 rfl ?_
    exact g_iret o hr (h.trans (congrArg some hres)) rfl dX5_gladdens_65
  refine g_swIn o (tgt := 47) (off := 41) 6 dX5_gladdens_6 (by decide) (by decide) (by decide +kernel) (by decide) h (fun h => ?_) (fun c6 h => ?_)
  · refine g_bipush o (v := 8) (q := 49) (by decide) dX5_gladdens_47 rfl ?_
    exact g_iret o hr (h.trans (congrArg some hres)) rfl dX5_gladdens_49
  refine g_swOut o (tgt := 66) dX5_gladdens_6 (sw_out (by decide) (by decide) (fun k h1 h2 => by rcases (show k = 1 ∨ k = 2 ∨ k = 3 ∨ k = 4 ∨ k = 5 ∨ k = 6 by omega) with rfl | rfl | rfl | rfl | rfl | rfl <;> assumption)) (by decide) ?_
  refine g_iconst o (v := 5) (q := 67) (by decide) dX5_gladdens_66 rfl ?_
  exact g_iret o hr (h.trans (congrArg some hres)) rfl dX5_gladdens_67
theorem c_X5_gladdens {l : Launch} {E : En} {mk : Mem → Mem} (hmk : MK mk sdM) (x1 : Int32)  {σ : Mem} {r : Int32} {τ : Mem} (h : f_X5_gladdens x1 σ = some (r, τ)) : Met l yX5_gladdens (Cond.code yX5_gladdens cX5_gladdens 2 (some .int) :: wt) rm_X5_gladdens (PW E mk [.ref (eA E 50), .int x1] σ) (QI E mk r τ) 0 0 (WA E) :=
  met_i (fun E => [.ref (eA E 50), .int x1]) (by decide) hmk (Nat.le_of_ble_eq_true rfl) (fun X o hr => w_X5_gladdens rfl o hr x1  h)
set_option maxRecDepth 100000 in
set_option maxHeartbeats 4000000 in
theorem w_X5_tires {X : Cx} {l : Launch} {r : Int32} {σr : Mem} {res : Int32 × Mem} (hres : res = (r, σr)) (o : OK X cX5_tires RX5 sdM 3 rm_X5_tires l) (hr : RI X .int r σr) (x1 : Int32) (x2 : Int32)  {σ : Mem} (h : f_X5_tires x1 x2 σ = some res) : G X σ 0 [(0, .ref (eA (xE X) 50)), (1, .int x1), (2, .int x2)] [] := by
  unfold f_X5_tires at h
  refine g_aload_n o (q := 1) 0 rfl rfl dX5_tires_0 rfl ?_
  refine g_iload_n o (q := 2) 1 rfl rfl dX5_tires_1 rfl ?_
  refine g_iconst o (v := 0) (q := 3) (by decide) dX5_tires_2 rfl ?_
  refine g_cvi o (q := 6) (As := [.int x1, .int 0]) (rest := []) kv_X5_curtainIs lk_X5_98 kM_50 (by decide) rfl rfl rfl (fun _ _ hc => c_X5_curtainIs o.mk x1 0 hc) dX5_tires_3 rfl ⟨rfl, rfl, Nat.le_of_ble_eq_true rfl, Nat.le_of_ble_eq_true rfl⟩ (Nat.le_of_ble_eq_true rfl) rfl h (fun r22 σ21 h => ?_)
  refine g_swIn o (tgt := 44) (off := 38) 1 dX5_tires_6 (by decide) (by decide) (by decide +kernel) (by decide) h (fun h => ?_) (fun c1 h => ?_)
  · refine g_bipush o (v := 6) (q := 46) (by decide) dX5_tires_44 rfl ?_
    exact g_iret o hr (h.trans (congrArg some hres)) rfl dX5_tires_46
  refine g_swIn o (tgt := 63) (off := 57) 2 dX5_tires_6 (by decide) (by decide) (by decide +kernel) (by decide) h (fun h => ?_) (fun c2 h => ?_)
  · refine g_iconst o (v := 2) (q := 64) (by decide) dX5_tires_63 rfl ?_
    exact g_iret o hr (h.trans (congrArg some hres)) rfl dX5_tires_64
  refine g_swIn o (tgt := 65) (off := 59) 3 dX5_tires_6 (by decide) (by decide) (by decide +kernel) (by decide) h (fun h => ?_) (fun c3 h => ?_)
  · refine g_iconst o (v := 2) (q := 66) (by decide) dX5_tires_65 rfl ?_
    refine g_iload_n o (q := 67) 2 rfl rfl dX5_tires_66 rfl ?_
    refine g_iconst o (v := 1) (q := 68) (by decide) dX5_tires_67 rfl ?_
    refine g_iand o (q := 69) dX5_tires_68 rfl ?_
    refine g_iadd o (q := 70) dX5_tires_69 rfl ?_
    exact g_iret o hr (h.trans (congrArg some hres)) rfl dX5_tires_70
  refine g_swIn o (tgt := 71) (off := 65) 4 dX5_tires_6 (by decide) (by decide) (by decide +kernel) (by decide) h (fun h => ?_) (fun c4 h => ?_)
  · refine g_iconst o (v := 1) (q := 72) (by decide) dX5_tires_71 rfl ?_
    refine g_iload_n o (q := 73) 2 rfl rfl dX5_tires_72 rfl ?_
    refine g_iconst o (v := 1) (q := 74) (by decide) dX5_tires_73 rfl ?_
    refine g_iand o (q := 75) dX5_tires_74 rfl ?_
    refine g_iadd o (q := 76) dX5_tires_75 rfl ?_
    exact g_iret o hr (h.trans (congrArg some hres)) rfl dX5_tires_76
  refine g_swIn o (tgt := 77) (off := 71) 5 dX5_tires_6 (by decide) (by decide) (by decide +kernel) (by decide) h (fun h => ?_) (fun c5 h => ?_)
  · refine g_iconst o (v := 0) (q := 78) (by decide) dX5_tires_77 rfl ?_
    exact g_iret o hr (h.trans (congrArg some hres)) rfl dX5_tires_78
  refine g_swIn o (tgt := 47) (off := 41) 6 dX5_tires_6 (by decide) (by decide) (by decide +kernel) (by decide) h (fun h => ?_) (fun c6 h => ?_)
  · refine g_aload_n o (q := 48) 0 rfl rfl dX5_tires_47 rfl ?_
    refine g_iload_n o (q := 49) 1 rfl rfl dX5_tires_48 rfl ?_
    refine g_iconst o (v := 3) (q := 50) (by decide) dX5_tires_49 rfl ?_
    refine g_cvi o (q := 53) (As := [.int x1, .int 3]) (rest := []) kv_X5_curtainIs lk_X5_98 kM_50 (by decide) rfl rfl rfl (fun _ _ hc => c_X5_curtainIs o.mk x1 3 hc) dX5_tires_50 rfl ⟨rfl, rfl, Nat.le_of_ble_eq_true rfl, Nat.le_of_ble_eq_true rfl⟩ (Nat.le_of_ble_eq_true rfl) rfl h (fun r24 σ23 h => ?_)
    refine g_if_ne o (tgt := 60) (q := 56) dX5_tires_53 (by decide) rfl h (fun h => ?_) (fun h => ?_)
    · refine g_bipush o (v := 6) (q := 62) (by decide) dX5_tires_60 rfl ?_
      exact g_iret o hr (h.trans (congrArg some hres)) rfl dX5_tires_62
    · refine g_iconst o (v := 0) (q := 57) (by decide) dX5_tires_56 rfl ?_
      refine g_goto o (tgt := 62) dX5_tires_57 (by decide) ?_
      exact g_iret o hr (h.trans (congrArg some hres)) rfl dX5_tires_62
  refine g_swOut o (tgt := 79) dX5_tires_6 (sw_out (by decide) (by decide) (fun k h1 h2 => by rcases (show k = 1 ∨ k = 2 ∨ k = 3 ∨ k = 4 ∨ k = 5 ∨ k = 6 by omega) with rfl | rfl | rfl | rfl | rfl | rfl <;> assumption)) (by decide) ?_
  refine g_iconst o (v := 4) (q := 80) (by decide) dX5_tires_79 rfl ?_
  exact g_iret o hr (h.trans (congrArg some hres)) rfl dX5_tires_80
theorem c_X5_tires {l : Launch} {E : En} {mk : Mem → Mem} (hmk : MK mk sdM) (x1 : Int32) (x2 : Int32)  {σ : Mem} {r : Int32} {τ : Mem} (h : f_X5_tires x1 x2 σ = some (r, τ)) : Met l yX5_tires (Cond.code yX5_tires cX5_tires 3 (some .int) :: wt) rm_X5_tires (PW E mk [.ref (eA E 50), .int x1, .int x2] σ) (QI E mk r τ) 0 0 (WA E) :=
  met_i (fun E => [.ref (eA E 50), .int x1, .int x2]) (by decide) hmk (Nat.le_of_ble_eq_true rfl) (fun X o hr => w_X5_tires rfl o hr x1 x2  h)
set_option maxRecDepth 100000 in
set_option maxHeartbeats 4000000 in
theorem w_X5_bears {X : Cx} {l : Launch} {r : Int32} {σr : Mem} {res : Int32 × Mem} (hres : res = (r, σr)) (o : OK X cX5_bears RX5 sdM 2 rm_X5_bears l) (hr : RI X .int r σr) (x1 : Int32)  {σ : Mem} (h : f_X5_bears x1 σ = some res) : G X σ 0 [(0, .ref (eA (xE X) 50)), (1, .int x1)] [] := by
  unfold f_X5_bears at h
  refine g_aload_n o (q := 1) 0 rfl rfl dX5_bears_0 rfl ?_
  refine g_iload_n o (q := 2) 1 rfl rfl dX5_bears_1 rfl ?_
  refine g_iconst o (v := 0) (q := 3) (by decide) dX5_bears_2 rfl ?_
  refine g_cvi o (q := 6) (As := [.int x1, .int 0]) (rest := []) kv_X5_curtainIs lk_X5_98 kM_50 (by decide) rfl rfl rfl (fun _ _ hc => c_X5_curtainIs o.mk x1 0 hc) dX5_bears_3 rfl ⟨rfl, rfl, Nat.le_of_ble_eq_true rfl, Nat.le_of_ble_eq_true rfl⟩ (Nat.le_of_ble_eq_true rfl) rfl h (fun r22 σ21 h => ?_)
  refine g_swIn o (tgt := 44) (off := 38) 1 dX5_bears_6 (by decide) (by decide) (by decide +kernel) (by decide) h (fun h => ?_) (fun c1 h => ?_)
  · refine g_bipush o (v := 40) (q := 46) (by decide) dX5_bears_44 rfl ?_
    exact g_iret o hr (h.trans (congrArg some hres)) rfl dX5_bears_46
  refine g_swIn o (tgt := 47) (off := 41) 2 dX5_bears_6 (by decide) (by decide) (by decide +kernel) (by decide) h (fun h => ?_) (fun c2 h => ?_)
  · refine g_bipush o (v := 20) (q := 49) (by decide) dX5_bears_47 rfl ?_
    exact g_iret o hr (h.trans (congrArg some hres)) rfl dX5_bears_49
  refine g_swIn o (tgt := 47) (off := 41) 3 dX5_bears_6 (by decide) (by decide) (by decide +kernel) (by decide) h (fun h => ?_) (fun c3 h => ?_)
  · refine g_bipush o (v := 20) (q := 49) (by decide) dX5_bears_47 rfl ?_
    exact g_iret o hr (h.trans (congrArg some hres)) rfl dX5_bears_49
  refine g_swIn o (tgt := 44) (off := 38) 4 dX5_bears_6 (by decide) (by decide) (by decide +kernel) (by decide) h (fun h => ?_) (fun c4 h => ?_)
  · refine g_bipush o (v := 40) (q := 46) (by decide) dX5_bears_44 rfl ?_
    exact g_iret o hr (h.trans (congrArg some hres)) rfl dX5_bears_46
  refine g_swIn o (tgt := 50) (off := 44) 5 dX5_bears_6 (by decide) (by decide) (by decide +kernel) (by decide) h (fun h => ?_) (fun c5 h => ?_)
  · refine g_iconst o (v := 0) (q := 51) (by decide) dX5_bears_50 rfl ?_
    exact g_iret o hr (h.trans (congrArg some hres)) rfl dX5_bears_51
  refine g_swIn o (tgt := 44) (off := 38) 6 dX5_bears_6 (by decide) (by decide) (by decide +kernel) (by decide) h (fun h => ?_) (fun c6 h => ?_)
  · refine g_bipush o (v := 40) (q := 46) (by decide) dX5_bears_44 rfl ?_
    exact g_iret o hr (h.trans (congrArg some hres)) rfl dX5_bears_46
  refine g_swOut o (tgt := 52) dX5_bears_6 (sw_out (by decide) (by decide) (fun k h1 h2 => by rcases (show k = 1 ∨ k = 2 ∨ k = 3 ∨ k = 4 ∨ k = 5 ∨ k = 6 by omega) with rfl | rfl | rfl | rfl | rfl | rfl <;> assumption)) (by decide) ?_
  refine g_bipush o (v := 30) (q := 54) (by decide) dX5_bears_52 rfl ?_
  exact g_iret o hr (h.trans (congrArg some hres)) rfl dX5_bears_54
theorem c_X5_bears {l : Launch} {E : En} {mk : Mem → Mem} (hmk : MK mk sdM) (x1 : Int32)  {σ : Mem} {r : Int32} {τ : Mem} (h : f_X5_bears x1 σ = some (r, τ)) : Met l yX5_bears (Cond.code yX5_bears cX5_bears 2 (some .int) :: wt) rm_X5_bears (PW E mk [.ref (eA E 50), .int x1] σ) (QI E mk r τ) 0 0 (WA E) :=
  met_i (fun E => [.ref (eA E 50), .int x1]) (by decide) hmk (Nat.le_of_ble_eq_true rfl) (fun X o hr => w_X5_bears rfl o hr x1  h)
set_option maxRecDepth 100000 in
set_option maxHeartbeats 4000000 in
theorem w_X5_falls {X : Cx} {l : Launch} {r : Int32} {σr : Mem} {res : Int32 × Mem} (hres : res = (r, σr)) (o : OK X cX5_falls RX5 sdM 2 rm_X5_falls l) (hr : RI X .int r σr) (x1 : Int32)  {σ : Mem} (h : f_X5_falls x1 σ = some res) : G X σ 0 [(0, .ref (eA (xE X) 50)), (1, .int x1)] [] := by
  unfold f_X5_falls at h
  refine g_aload_n o (q := 1) 0 rfl rfl dX5_falls_0 rfl ?_
  refine g_iload_n o (q := 2) 1 rfl rfl dX5_falls_1 rfl ?_
  refine g_iconst o (v := 0) (q := 3) (by decide) dX5_falls_2 rfl ?_
  refine g_cvi o (q := 6) (As := [.int x1, .int 0]) (rest := []) kv_X5_curtainIs lk_X5_98 kM_50 (by decide) rfl rfl rfl (fun _ _ hc => c_X5_curtainIs o.mk x1 0 hc) dX5_falls_3 rfl ⟨rfl, rfl, Nat.le_of_ble_eq_true rfl, Nat.le_of_ble_eq_true rfl⟩ (Nat.le_of_ble_eq_true rfl) rfl h (fun r22 σ21 h => ?_)
  refine g_swIn o (tgt := 44) (off := 38) 1 dX5_falls_6 (by decide) (by decide) (by decide +kernel) (by decide) h (fun h => ?_) (fun c1 h => ?_)
  · refine g_iconst o (v := 2) (q := 45) (by decide) dX5_falls_44 rfl ?_
    exact g_iret o hr (h.trans (congrArg some hres)) rfl dX5_falls_45
  refine g_swIn o (tgt := 63) (off := 57) 2 dX5_falls_6 (by decide) (by decide) (by decide +kernel) (by decide) h (fun h => ?_) (fun c2 h => ?_)
  · refine g_bipush o (v := 6) (q := 65) (by decide) dX5_falls_63 rfl ?_
    exact g_iret o hr (h.trans (congrArg some hres)) rfl dX5_falls_65
  refine g_swIn o (tgt := 66) (off := 60) 3 dX5_falls_6 (by decide) (by decide) (by decide +kernel) (by decide) h (fun h => ?_) (fun c3 h => ?_)
  · refine g_bipush o (v := 20) (q := 68) (by decide) dX5_falls_66 rfl ?_
    exact g_iret o hr (h.trans (congrArg some hres)) rfl dX5_falls_68
  refine g_swIn o (tgt := 69) (off := 63) 4 dX5_falls_6 (by decide) (by decide) (by decide +kernel) (by decide) h (fun h => ?_) (fun c4 h => ?_)
  · refine g_iconst o (v := 5) (q := 70) (by decide) dX5_falls_69 rfl ?_
    exact g_iret o hr (h.trans (congrArg some hres)) rfl dX5_falls_70
  refine g_swIn o (tgt := 71) (off := 65) 5 dX5_falls_6 (by decide) (by decide) (by decide +kernel) (by decide) h (fun h => ?_) (fun c5 h => ?_)
  · refine g_iconst o (v := 1) (q := 72) (by decide) dX5_falls_71 rfl ?_
    exact g_iret o hr (h.trans (congrArg some hres)) rfl dX5_falls_72
  refine g_swIn o (tgt := 46) (off := 40) 6 dX5_falls_6 (by decide) (by decide) (by decide +kernel) (by decide) h (fun h => ?_) (fun c6 h => ?_)
  · refine g_aload_n o (q := 47) 0 rfl rfl dX5_falls_46 rfl ?_
    refine gf_X5_0 o (q := 50) kM_50 lk_X5_9 dX5_falls_47 rfl ?_
    refine g_iconst o (v := 3) (q := 51) (by decide) dX5_falls_50 rfl ?_
    refine g_iald o (q := 52) kM_51 dX5_falls_51 rfl h (fun j23 hjj23 h => ?_)
    refine g_iconst o (v := 1) (q := 53) (by decide) dX5_falls_52 rfl ?_
    refine g_icmp_ne o (tgt := 61) (q := 56) dX5_falls_53 (by decide) rfl h (fun h => ?_) (fun h => ?_)
    · refine g_iconst o (v := 2) (q := 62) (by decide) dX5_falls_61 rfl ?_
      exact g_iret o hr (h.trans (congrArg some hres)) rfl dX5_falls_62
    · refine g_bipush o (v := 8) (q := 58) (by decide) dX5_falls_56 rfl ?_
      refine g_goto o (tgt := 62) dX5_falls_58 (by decide) ?_
      exact g_iret o hr (h.trans (congrArg some hres)) rfl dX5_falls_62
  refine g_swOut o (tgt := 73) dX5_falls_6 (sw_out (by decide) (by decide) (fun k h1 h2 => by rcases (show k = 1 ∨ k = 2 ∨ k = 3 ∨ k = 4 ∨ k = 5 ∨ k = 6 by omega) with rfl | rfl | rfl | rfl | rfl | rfl <;> assumption)) (by decide) ?_
  refine g_iconst o (v := 4) (q := 74) (by decide) dX5_falls_73 rfl ?_
  exact g_iret o hr (h.trans (congrArg some hres)) rfl dX5_falls_74
theorem c_X5_falls {l : Launch} {E : En} {mk : Mem → Mem} (hmk : MK mk sdM) (x1 : Int32)  {σ : Mem} {r : Int32} {τ : Mem} (h : f_X5_falls x1 σ = some (r, τ)) : Met l yX5_falls (Cond.code yX5_falls cX5_falls 2 (some .int) :: wt) rm_X5_falls (PW E mk [.ref (eA E 50), .int x1] σ) (QI E mk r τ) 0 0 (WA E) :=
  met_i (fun E => [.ref (eA E 50), .int x1]) (by decide) hmk (Nat.le_of_ble_eq_true rfl) (fun X o hr => w_X5_falls rfl o hr x1  h)
set_option maxRecDepth 100000 in
set_option maxHeartbeats 4000000 in
theorem w_X5_rises {X : Cx} {l : Launch} {r : Int32} {σr : Mem} {res : Int32 × Mem} (hres : res = (r, σr)) (o : OK X cX5_rises RX5 sdM 2 rm_X5_rises l) (hr : RI X .int r σr) (x1 : Int32)  {σ : Mem} (h : f_X5_rises x1 σ = some res) : G X σ 0 [(0, .ref (eA (xE X) 50)), (1, .int x1)] [] := by
  unfold f_X5_rises at h
  refine g_aload_n o (q := 1) 0 rfl rfl dX5_rises_0 rfl ?_
  refine g_iload_n o (q := 2) 1 rfl rfl dX5_rises_1 rfl ?_
  refine g_iconst o (v := 0) (q := 3) (by decide) dX5_rises_2 rfl ?_
  refine g_cvi o (q := 6) (As := [.int x1, .int 0]) (rest := []) kv_X5_curtainIs lk_X5_98 kM_50 (by decide) rfl rfl rfl (fun _ _ hc => c_X5_curtainIs o.mk x1 0 hc) dX5_rises_3 rfl ⟨rfl, rfl, Nat.le_of_ble_eq_true rfl, Nat.le_of_ble_eq_true rfl⟩ (Nat.le_of_ble_eq_true rfl) rfl h (fun r22 σ21 h => ?_)
  refine g_swIn o (tgt := 44) (off := 38) 1 dX5_rises_6 (by decide) (by decide) (by decide +kernel) (by decide) h (fun h => ?_) (fun c1 h => ?_)
  · refine g_iconst o (v := 1) (q := 45) (by decide) dX5_rises_44 rfl ?_
    exact g_iret o hr (h.trans (congrArg some hres)) rfl dX5_rises_45
  refine g_swIn o (tgt := 46) (off := 40) 2 dX5_rises_6 (by decide) (by decide) (by decide +kernel) (by decide) h (fun h => ?_) (fun c2 h => ?_)
  · refine g_iconst o (v := 3) (q := 47) (by decide) dX5_rises_46 rfl ?_
    exact g_iret o hr (h.trans (congrArg some hres)) rfl dX5_rises_47
  refine g_swIn o (tgt := 48) (off := 42) 3 dX5_rises_6 (by decide) (by decide) (by decide +kernel) (by decide) h (fun h => ?_) (fun c3 h => ?_)
  · refine g_bipush o (v := 6) (q := 50) (by decide) dX5_rises_48 rfl ?_
    exact g_iret o hr (h.trans (congrArg some hres)) rfl dX5_rises_50
  refine g_swIn o (tgt := 48) (off := 42) 4 dX5_rises_6 (by decide) (by decide) (by decide +kernel) (by decide) h (fun h => ?_) (fun c4 h => ?_)
  · refine g_bipush o (v := 6) (q := 50) (by decide) dX5_rises_48 rfl ?_
    exact g_iret o hr (h.trans (congrArg some hres)) rfl dX5_rises_50
  refine g_swIn o (tgt := 44) (off := 38) 5 dX5_rises_6 (by decide) (by decide) (by decide +kernel) (by decide) h (fun h => ?_) (fun c5 h => ?_)
  · refine g_iconst o (v := 1) (q := 45) (by decide) dX5_rises_44 rfl ?_
    exact g_iret o hr (h.trans (congrArg some hres)) rfl dX5_rises_45
  refine g_swIn o (tgt := 44) (off := 38) 6 dX5_rises_6 (by decide) (by decide) (by decide +kernel) (by decide) h (fun h => ?_) (fun c6 h => ?_)
  · refine g_iconst o (v := 1) (q := 45) (by decide) dX5_rises_44 rfl ?_
    exact g_iret o hr (h.trans (congrArg some hres)) rfl dX5_rises_45
  refine g_swOut o (tgt := 51) dX5_rises_6 (sw_out (by decide) (by decide) (fun k h1 h2 => by rcases (show k = 1 ∨ k = 2 ∨ k = 3 ∨ k = 4 ∨ k = 5 ∨ k = 6 by omega) with rfl | rfl | rfl | rfl | rfl | rfl <;> assumption)) (by decide) ?_
  refine g_iconst o (v := 2) (q := 52) (by decide) dX5_rises_51 rfl ?_
  exact g_iret o hr (h.trans (congrArg some hres)) rfl dX5_rises_52
theorem c_X5_rises {l : Launch} {E : En} {mk : Mem → Mem} (hmk : MK mk sdM) (x1 : Int32)  {σ : Mem} {r : Int32} {τ : Mem} (h : f_X5_rises x1 σ = some (r, τ)) : Met l yX5_rises (Cond.code yX5_rises cX5_rises 2 (some .int) :: wt) rm_X5_rises (PW E mk [.ref (eA E 50), .int x1] σ) (QI E mk r τ) 0 0 (WA E) :=
  met_i (fun E => [.ref (eA E 50), .int x1]) (by decide) hmk (Nat.le_of_ble_eq_true rfl) (fun X o hr => w_X5_rises rfl o hr x1  h)
