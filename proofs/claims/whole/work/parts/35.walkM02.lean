set_option maxRecDepth 100000 in
set_option maxHeartbeats 4000000 in
theorem w_X5_wearyOnes_J36 {X : Cx} {l : Launch} {r : Int32} {σr : Mem} {res : Int32 × Mem} (hres : res = (r, σr)) (o : OK X cX5_wearyOnes RX5 sdM 3 rm_X5_wearyOnes l) (hr : RI X .int r σr) {k4 : Int32 → Int32 → Mem → Option (Int32 × Mem)} (hk4 : ∀ (y1 : Int32) (y2 : Int32) (σ : Mem), k4 y1 y2 σ = some res → G X σ 4 [(0, .ref (eA (xE X) 50)), (1, .int y1), (2, .int y2)] []) {y2 : Int32} {s0 : Int32} {s1 : Int32}  {σ : Mem} (h : f_X5_wearyOnes_J36 k4 y2 s0 s1 σ = some res) : G X σ 36 [(0, .ref (eA (xE X) 50)), (2, .int y2)] [.int s1, .int s0] := by
  unfold f_X5_wearyOnes_J36 at h
  refine g_ior o (q := 37) dX5_wearyOnes_36 rfl ?_
  refine g_istore_n o (q := 38) dX5_wearyOnes_37 rfl rfl (by decide) h (fun x28 => [(1, .int x28), (0, .ref (eA (xE X) 50)), (2, .int y2)]) (fun _ => rfl) (fun x28 h => ?_)
  refine g_iinc o (q := 41) (dn := 1) dX5_wearyOnes_38 rfl 2 rfl (by decide) (by decide) h (fun x29 => [(2, .int x29), (1, .int x28), (0, .ref (eA (xE X) 50))]) (fun _ => rfl) (fun x29 h => ?_)
  refine g_goto o (tgt := 4) dX5_wearyOnes_41 (by decide) ?_
  refine g_sub (lv' := [(0, .ref (eA (xE X) 50)), (1, .int x28), (2, .int x29)]) [2, 1, 0] rfl ?_
  exact hk4 x28 x29 σ  h
set_option maxRecDepth 100000 in
set_option maxHeartbeats 4000000 in
theorem w_X5_wearyOnes_L4 {X : Cx} {l : Launch} {r : Int32} {σr : Mem} {res : Int32 × Mem} (hres : res = (r, σr)) (o : OK X cX5_wearyOnes RX5 sdM 3 rm_X5_wearyOnes l) (hr : RI X .int r σr)   : ∀ (n : Nat) (y1 : Int32) (y2 : Int32) (σ : Mem), f_X5_wearyOnes_L4  n y1 y2 σ = some res → G X σ 4 [(0, .ref (eA (xE X) 50)), (1, .int y1), (2, .int y2)] [] := by
  intro n
  induction n with
  | zero => intro y1 y2 σ  h; cases h
  | succ n ih =>
    intro y1 y2 σ  h
    rw [f_X5_wearyOnes_L4_s] at h
    refine g_iload_n o (q := 5) 2 rfl rfl dX5_wearyOnes_4 rfl ?_
    refine g_aload_n o (q := 6) 0 rfl rfl dX5_wearyOnes_5 rfl ?_
    refine gf_X5_0 o (q := 9) kM_50 lk_X5_9 dX5_wearyOnes_6 rfl ?_
    refine g_iconst o (v := 1) (q := 10) (by decide) dX5_wearyOnes_9 rfl ?_
    refine g_iald o (q := 11) kM_51 dX5_wearyOnes_10 rfl h (fun j23 hjj23 h => ?_)
    refine g_icmp_ge o (tgt := 44) (q := 14) dX5_wearyOnes_11 (by decide) rfl h (fun h => ?_) (fun h => ?_)
    · refine g_iload_n o (q := 45) 1 rfl rfl dX5_wearyOnes_44 rfl ?_
      exact g_iret o hr (h.trans (congrArg some hres)) rfl dX5_wearyOnes_45
    · refine g_iload_n o (q := 15) 1 rfl rfl dX5_wearyOnes_14 rfl ?_
      refine g_aload_n o (q := 16) 0 rfl rfl dX5_wearyOnes_15 rfl ?_
      refine g_iload_n o (q := 17) 2 rfl rfl dX5_wearyOnes_16 rfl ?_
      refine g_iconst o (v := 1) (q := 18) (by decide) dX5_wearyOnes_17 rfl ?_
      refine g_cvi o (q := 21) (As := [.int y2, .int 1]) (rest := [.int y1]) kv_X5_curtainIs lk_X5_98 kM_50 (by decide) rfl rfl rfl (fun _ _ hc => c_X5_curtainIs o.mk y2 1 hc) dX5_wearyOnes_18 rfl ⟨rfl, rfl, Nat.le_of_ble_eq_true rfl, Nat.le_of_ble_eq_true rfl⟩ (Nat.le_of_ble_eq_true rfl) rfl h (fun r25 σ24 h => ?_)
      refine g_aload_n o (q := 22) 0 rfl rfl dX5_wearyOnes_21 rfl ?_
      refine g_iload_n o (q := 23) 2 rfl rfl dX5_wearyOnes_22 rfl ?_
      refine g_cvi o (q := 26) (As := [.int y2]) (rest := [.int r25, .int y1]) kv_X5_bears lk_X5_114 kM_50 (by decide) rfl rfl rfl (fun _ _ hc => c_X5_bears o.mk y2 hc) dX5_wearyOnes_23 rfl ⟨rfl, rfl, Nat.le_of_ble_eq_true rfl, Nat.le_of_ble_eq_true rfl⟩ (Nat.le_of_ble_eq_true rfl) rfl h (fun r27 σ26 h => ?_)
      refine g_icmp_ge o (tgt := 35) (q := 29) dX5_wearyOnes_26 (by decide) rfl h (fun h => ?_) (fun h => ?_)
      · refine g_iconst o (v := 0) (q := 36) (by decide) dX5_wearyOnes_35 rfl ?_
        refine g_sub (lv' := [(0, .ref (eA (xE X) 50)), (2, .int y2)]) [0, 2] rfl ?_
        exact w_X5_wearyOnes_J36 hres o hr ih  h
      · refine g_iconst o (v := 1) (q := 30) (by decide) dX5_wearyOnes_29 rfl ?_
        refine g_iload_n o (q := 31) 2 rfl rfl dX5_wearyOnes_30 rfl ?_
        refine g_ishl o (q := 32) dX5_wearyOnes_31 rfl ?_
        refine g_goto o (tgt := 36) dX5_wearyOnes_32 (by decide) ?_
        refine g_sub (lv' := [(0, .ref (eA (xE X) 50)), (2, .int y2)]) [0, 2] rfl ?_
        exact w_X5_wearyOnes_J36 hres o hr ih  h
set_option maxRecDepth 100000 in
set_option maxHeartbeats 4000000 in
theorem w_X5_wearyOnes {X : Cx} {l : Launch} {r : Int32} {σr : Mem} {res : Int32 × Mem} (hres : res = (r, σr)) (o : OK X cX5_wearyOnes RX5 sdM 3 rm_X5_wearyOnes l) (hr : RI X .int r σr)   {σ : Mem} (h : f_X5_wearyOnes  σ = some res) : G X σ 0 [(0, .ref (eA (xE X) 50))] [] := by
  unfold f_X5_wearyOnes at h
  refine g_iconst o (v := 0) (q := 1) (by decide) dX5_wearyOnes_0 rfl ?_
  refine g_istore_n o (q := 2) dX5_wearyOnes_1 rfl rfl (by decide) h (fun x21 => [(1, .int x21), (0, .ref (eA (xE X) 50))]) (fun _ => rfl) (fun x21 h => ?_)
  refine g_iconst o (v := 0) (q := 3) (by decide) dX5_wearyOnes_2 rfl ?_
  refine g_istore_n o (q := 4) dX5_wearyOnes_3 rfl rfl (by decide) h (fun x22 => [(2, .int x22), (1, .int x21), (0, .ref (eA (xE X) 50))]) (fun _ => rfl) (fun x22 h => ?_)
  refine g_sub (lv' := [(0, .ref (eA (xE X) 50)), (1, .int x21), (2, .int x22)]) [2, 1, 0] rfl ?_
  exact w_X5_wearyOnes_L4 hres o hr  FU x21 x22 σ  h
theorem c_X5_wearyOnes {l : Launch} {E : En} {mk : Mem → Mem} (hmk : MK mk sdM)   {σ : Mem} {r : Int32} {τ : Mem} (h : f_X5_wearyOnes  σ = some (r, τ)) : Met l yX5_wearyOnes (Cond.code yX5_wearyOnes cX5_wearyOnes 3 (some .int) :: wt) rm_X5_wearyOnes (PW E mk [.ref (eA E 50)] σ) (QI E mk r τ) 0 0 (WA E) :=
  met_i (fun E => [.ref (eA E 50)]) (by decide) hmk (Nat.le_of_ble_eq_true rfl) (fun X o hr => w_X5_wearyOnes rfl o hr   h)
set_option maxRecDepth 100000 in
set_option maxHeartbeats 4000000 in
theorem w_X5_moods_L4 {X : Cx} {l : Launch} {r : Int32} {σr : Mem} {res : Int32 × Mem} (hres : res = (r, σr)) (o : OK X cX5_moods RX5 sdM 3 rm_X5_moods l) (hr : RI X .int r σr)   : ∀ (n : Nat) (y1 : Int32) (y2 : Int32) (σ : Mem), f_X5_moods_L4  n y1 y2 σ = some res → G X σ 4 [(0, .ref (eA (xE X) 50)), (1, .int y1), (2, .int y2)] [] := by
  intro n
  induction n with
  | zero => intro y1 y2 σ  h; cases h
  | succ n ih =>
    intro y1 y2 σ  h
    rw [f_X5_moods_L4_s] at h
    refine g_iload_n o (q := 5) 2 rfl rfl dX5_moods_4 rfl ?_
    refine g_aload_n o (q := 6) 0 rfl rfl dX5_moods_5 rfl ?_
    refine gf_X5_0 o (q := 9) kM_50 lk_X5_9 dX5_moods_6 rfl ?_
    refine g_iconst o (v := 1) (q := 10) (by decide) dX5_moods_9 rfl ?_
    refine g_iald o (q := 11) kM_51 dX5_moods_10 rfl h (fun j23 hjj23 h => ?_)
    refine g_icmp_ge o (tgt := 29) (q := 14) dX5_moods_11 (by decide) rfl h (fun h => ?_) (fun h => ?_)
    · refine g_iload_n o (q := 30) 1 rfl rfl dX5_moods_29 rfl ?_
      exact g_iret o hr (h.trans (congrArg some hres)) rfl dX5_moods_30
    · refine g_iload_n o (q := 15) 1 rfl rfl dX5_moods_14 rfl ?_
      refine g_aload_n o (q := 16) 0 rfl rfl dX5_moods_15 rfl ?_
      refine g_iload_n o (q := 17) 2 rfl rfl dX5_moods_16 rfl ?_
      refine g_iconst o (v := 1) (q := 18) (by decide) dX5_moods_17 rfl ?_
      refine g_cvi o (q := 21) (As := [.int y2, .int 1]) (rest := [.int y1]) kv_X5_curtainIs lk_X5_98 kM_50 (by decide) rfl rfl rfl (fun _ _ hc => c_X5_curtainIs o.mk y2 1 hc) dX5_moods_18 rfl ⟨rfl, rfl, Nat.le_of_ble_eq_true rfl, Nat.le_of_ble_eq_true rfl⟩ (Nat.le_of_ble_eq_true rfl) rfl h (fun r25 σ24 h => ?_)
      refine g_iadd o (q := 22) dX5_moods_21 rfl ?_
      refine g_istore_n o (q := 23) dX5_moods_22 rfl rfl (by decide) h (fun x26 => [(1, .int x26), (0, .ref (eA (xE X) 50)), (2, .int y2)]) (fun _ => rfl) (fun x26 h => ?_)
      refine g_iinc o (q := 26) (dn := 1) dX5_moods_23 rfl 2 rfl (by decide) (by decide) h (fun x27 => [(2, .int x27), (1, .int x26), (0, .ref (eA (xE X) 50))]) (fun _ => rfl) (fun x27 h => ?_)
      refine g_goto o (tgt := 4) dX5_moods_26 (by decide) ?_
      refine g_sub (lv' := [(0, .ref (eA (xE X) 50)), (1, .int x26), (2, .int x27)]) [2, 1, 0] rfl ?_
      exact ih x26 x27 σ24  h
set_option maxRecDepth 100000 in
set_option maxHeartbeats 4000000 in
theorem w_X5_moods {X : Cx} {l : Launch} {r : Int32} {σr : Mem} {res : Int32 × Mem} (hres : res = (r, σr)) (o : OK X cX5_moods RX5 sdM 3 rm_X5_moods l) (hr : RI X .int r σr)   {σ : Mem} (h : f_X5_moods  σ = some res) : G X σ 0 [(0, .ref (eA (xE X) 50))] [] := by
  unfold f_X5_moods at h
  refine g_iconst o (v := 0) (q := 1) (by decide) dX5_moods_0 rfl ?_
  refine g_istore_n o (q := 2) dX5_moods_1 rfl rfl (by decide) h (fun x21 => [(1, .int x21), (0, .ref (eA (xE X) 50))]) (fun _ => rfl) (fun x21 h => ?_)
  refine g_iconst o (v := 0) (q := 3) (by decide) dX5_moods_2 rfl ?_
  refine g_istore_n o (q := 4) dX5_moods_3 rfl rfl (by decide) h (fun x22 => [(2, .int x22), (1, .int x21), (0, .ref (eA (xE X) 50))]) (fun _ => rfl) (fun x22 h => ?_)
  refine g_sub (lv' := [(0, .ref (eA (xE X) 50)), (1, .int x21), (2, .int x22)]) [2, 1, 0] rfl ?_
  exact w_X5_moods_L4 hres o hr  FU x21 x22 σ  h
theorem c_X5_moods {l : Launch} {E : En} {mk : Mem → Mem} (hmk : MK mk sdM)   {σ : Mem} {r : Int32} {τ : Mem} (h : f_X5_moods  σ = some (r, τ)) : Met l yX5_moods (Cond.code yX5_moods cX5_moods 3 (some .int) :: wt) rm_X5_moods (PW E mk [.ref (eA E 50)] σ) (QI E mk r τ) 0 0 (WA E) :=
  met_i (fun E => [.ref (eA E 50)]) (by decide) hmk (Nat.le_of_ble_eq_true rfl) (fun X o hr => w_X5_moods rfl o hr   h)
set_option maxRecDepth 100000 in
set_option maxHeartbeats 4000000 in
theorem w_X5_liked_L4 {X : Cx} {l : Launch} {r : Int32} {σr : Mem} {res : Int32 × Mem} (hres : res = (r, σr)) (o : OK X cX5_liked RX5 sdM 3 rm_X5_liked l) (hr : RI X .int r σr)   : ∀ (n : Nat) (y1 : Int32) (y2 : Int32) (σ : Mem), f_X5_liked_L4  n y1 y2 σ = some res → G X σ 4 [(0, .ref (eA (xE X) 50)), (1, .int y1), (2, .int y2)] [] := by
  intro n
  induction n with
  | zero => intro y1 y2 σ  h; cases h
  | succ n ih =>
    intro y1 y2 σ  h
    rw [f_X5_liked_L4_s] at h
    refine g_iload_n o (q := 5) 2 rfl rfl dX5_liked_4 rfl ?_
    refine g_aload_n o (q := 6) 0 rfl rfl dX5_liked_5 rfl ?_
    refine gf_X5_0 o (q := 9) kM_50 lk_X5_9 dX5_liked_6 rfl ?_
    refine g_iconst o (v := 1) (q := 10) (by decide) dX5_liked_9 rfl ?_
    refine g_iald o (q := 11) kM_51 dX5_liked_10 rfl h (fun j23 hjj23 h => ?_)
    refine g_icmp_ge o (tgt := 29) (q := 14) dX5_liked_11 (by decide) rfl h (fun h => ?_) (fun h => ?_)
    · refine g_iload_n o (q := 30) 1 rfl rfl dX5_liked_29 rfl ?_
      exact g_iret o hr (h.trans (congrArg some hres)) rfl dX5_liked_30
    · refine g_iload_n o (q := 15) 1 rfl rfl dX5_liked_14 rfl ?_
      refine g_aload_n o (q := 16) 0 rfl rfl dX5_liked_15 rfl ?_
      refine g_iload_n o (q := 17) 2 rfl rfl dX5_liked_16 rfl ?_
      refine g_iconst o (v := 2) (q := 18) (by decide) dX5_liked_17 rfl ?_
      refine g_cvi o (q := 21) (As := [.int y2, .int 2]) (rest := [.int y1]) kv_X5_curtainIs lk_X5_98 kM_50 (by decide) rfl rfl rfl (fun _ _ hc => c_X5_curtainIs o.mk y2 2 hc) dX5_liked_18 rfl ⟨rfl, rfl, Nat.le_of_ble_eq_true rfl, Nat.le_of_ble_eq_true rfl⟩ (Nat.le_of_ble_eq_true rfl) rfl h (fun r25 σ24 h => ?_)
      refine g_ior o (q := 22) dX5_liked_21 rfl ?_
      refine g_istore_n o (q := 23) dX5_liked_22 rfl rfl (by decide) h (fun x26 => [(1, .int x26), (0, .ref (eA (xE X) 50)), (2, .int y2)]) (fun _ => rfl) (fun x26 h => ?_)
      refine g_iinc o (q := 26) (dn := 1) dX5_liked_23 rfl 2 rfl (by decide) (by decide) h (fun x27 => [(2, .int x27), (1, .int x26), (0, .ref (eA (xE X) 50))]) (fun _ => rfl) (fun x27 h => ?_)
      refine g_goto o (tgt := 4) dX5_liked_26 (by decide) ?_
      refine g_sub (lv' := [(0, .ref (eA (xE X) 50)), (1, .int x26), (2, .int x27)]) [2, 1, 0] rfl ?_
      exact ih x26 x27 σ24  h
set_option maxRecDepth 100000 in
set_option maxHeartbeats 4000000 in
theorem w_X5_liked {X : Cx} {l : Launch} {r : Int32} {σr : Mem} {res : Int32 × Mem} (hres : res = (r, σr)) (o : OK X cX5_liked RX5 sdM 3 rm_X5_liked l) (hr : RI X .int r σr)   {σ : Mem} (h : f_X5_liked  σ = some res) : G X σ 0 [(0, .ref (eA (xE X) 50))] [] := by
  unfold f_X5_liked at h
  refine g_iconst o (v := 0) (q := 1) (by decide) dX5_liked_0 rfl ?_
  refine g_istore_n o (q := 2) dX5_liked_1 rfl rfl (by decide) h (fun x21 => [(1, .int x21), (0, .ref (eA (xE X) 50))]) (fun _ => rfl) (fun x21 h => ?_)
  refine g_iconst o (v := 0) (q := 3) (by decide) dX5_liked_2 rfl ?_
  refine g_istore_n o (q := 4) dX5_liked_3 rfl rfl (by decide) h (fun x22 => [(2, .int x22), (1, .int x21), (0, .ref (eA (xE X) 50))]) (fun _ => rfl) (fun x22 h => ?_)
  refine g_sub (lv' := [(0, .ref (eA (xE X) 50)), (1, .int x21), (2, .int x22)]) [2, 1, 0] rfl ?_
  exact w_X5_liked_L4 hres o hr  FU x21 x22 σ  h
theorem c_X5_liked {l : Launch} {E : En} {mk : Mem → Mem} (hmk : MK mk sdM)   {σ : Mem} {r : Int32} {τ : Mem} (h : f_X5_liked  σ = some (r, τ)) : Met l yX5_liked (Cond.code yX5_liked cX5_liked 3 (some .int) :: wt) rm_X5_liked (PW E mk [.ref (eA E 50)] σ) (QI E mk r τ) 0 0 (WA E) :=
  met_i (fun E => [.ref (eA E 50)]) (by decide) hmk (Nat.le_of_ble_eq_true rfl) (fun X o hr => w_X5_liked rfl o hr   h)
set_option maxRecDepth 100000 in
set_option maxHeartbeats 4000000 in
theorem w_X5_now {X : Cx} {l : Launch} {r : Int32} {σr : Mem} {res : Int32 × Mem} (hres : res = (r, σr)) (o : OK X cX5_now RX5 sdM 2 rm_X5_now l) (hr : RI X .int r σr) (x1 : Int32)  {σ : Mem} (h : f_X5_now x1 σ = some res) : G X σ 0 [(0, .ref (eA (xE X) 50)), (1, .int x1)] [] := by
  unfold f_X5_now at h
  refine g_iload_n o (q := 1) 1 rfl rfl dX5_now_0 rfl ?_
  refine g_swIn o (tgt := 48) (off := 47) 0 dX5_now_1 (by decide) (by decide) (by decide +kernel) (by decide) h (fun h => ?_) (fun c0 h => ?_)
  · refine g_aload_n o (q := 49) 0 rfl rfl dX5_now_48 rfl ?_
    refine gf_X5_0 o (q := 52) kM_50 lk_X5_9 dX5_now_49 rfl ?_
    refine g_iconst o (v := 0) (q := 53) (by decide) dX5_now_52 rfl ?_
    refine g_iald o (q := 54) kM_51 dX5_now_53 rfl h (fun j21 hjj21 h => ?_)
    exact g_iret o hr (h.trans (congrArg some hres)) rfl dX5_now_54
  refine g_swIn o (tgt := 55) (off := 54) 1 dX5_now_1 (by decide) (by decide) (by decide +kernel) (by decide) h (fun h => ?_) (fun c1 h => ?_)
  · refine g_aload_n o (q := 56) 0 rfl rfl dX5_now_55 rfl ?_
    refine gf_X5_0 o (q := 59) kM_50 lk_X5_9 dX5_now_56 rfl ?_
    refine g_iconst o (v := 4) (q := 60) (by decide) dX5_now_59 rfl ?_
    refine g_iald o (q := 61) kM_51 dX5_now_60 rfl h (fun j22 hjj22 h => ?_)
    exact g_iret o hr (h.trans (congrArg some hres)) rfl dX5_now_61
  refine g_swIn o (tgt := 62) (off := 61) 2 dX5_now_1 (by decide) (by decide) (by decide +kernel) (by decide) h (fun h => ?_) (fun c2 h => ?_)
  · refine g_aload_n o (q := 63) 0 rfl rfl dX5_now_62 rfl ?_
    refine gf_X5_0 o (q := 66) kM_50 lk_X5_9 dX5_now_63 rfl ?_
    refine g_iconst o (v := 5) (q := 67) (by decide) dX5_now_66 rfl ?_
    refine g_iald o (q := 68) kM_51 dX5_now_67 rfl h (fun j23 hjj23 h => ?_)
    exact g_iret o hr (h.trans (congrArg some hres)) rfl dX5_now_68
  refine g_swIn o (tgt := 69) (off := 68) 3 dX5_now_1 (by decide) (by decide) (by decide +kernel) (by decide) h (fun h => ?_) (fun c3 h => ?_)
  · refine g_aload_n o (q := 70) 0 rfl rfl dX5_now_69 rfl ?_
    refine g_cvi o (q := 73) (As := []) (rest := []) kv_X5_downOnes lk_X5_170 kM_50 (by decide) rfl rfl rfl (fun _ _ hc => c_X5_downOnes o.mk  hc) dX5_now_70 rfl ⟨rfl, rfl, Nat.le_of_ble_eq_true rfl, Nat.le_of_ble_eq_true rfl⟩ (Nat.le_of_ble_eq_true rfl) rfl h (fun r25 σ24 h => ?_)
    exact g_iret o hr (h.trans (congrArg some hres)) rfl dX5_now_73
  refine g_swIn o (tgt := 74) (off := 73) 4 dX5_now_1 (by decide) (by decide) (by decide +kernel) (by decide) h (fun h => ?_) (fun c4 h => ?_)
  · refine g_aload_n o (q := 75) 0 rfl rfl dX5_now_74 rfl ?_
    refine g_cvi o (q := 78) (As := []) (rest := []) kv_X5_wearyOnes lk_X5_173 kM_50 (by decide) rfl rfl rfl (fun _ _ hc => c_X5_wearyOnes o.mk  hc) dX5_now_75 rfl ⟨rfl, rfl, Nat.le_of_ble_eq_true rfl, Nat.le_of_ble_eq_true rfl⟩ (Nat.le_of_ble_eq_true rfl) rfl h (fun r27 σ26 h => ?_)
    exact g_iret o hr (h.trans (congrArg some hres)) rfl dX5_now_78
  refine g_swIn o (tgt := 79) (off := 78) 5 dX5_now_1 (by decide) (by decide) (by decide +kernel) (by decide) h (fun h => ?_) (fun c5 h => ?_)
  · refine g_aload_n o (q := 80) 0 rfl rfl dX5_now_79 rfl ?_
    refine g_cvi o (q := 83) (As := []) (rest := []) kv_X5_moods lk_X5_176 kM_50 (by decide) rfl rfl rfl (fun _ _ hc => c_X5_moods o.mk  hc) dX5_now_80 rfl ⟨rfl, rfl, Nat.le_of_ble_eq_true rfl, Nat.le_of_ble_eq_true rfl⟩ (Nat.le_of_ble_eq_true rfl) rfl h (fun r29 σ28 h => ?_)
    exact g_iret o hr (h.trans (congrArg some hres)) rfl dX5_now_83
  refine g_swIn o (tgt := 84) (off := 83) 6 dX5_now_1 (by decide) (by decide) (by decide +kernel) (by decide) h (fun h => ?_) (fun c6 h => ?_)
  · refine g_aload_n o (q := 85) 0 rfl rfl dX5_now_84 rfl ?_
    refine g_cvi o (q := 88) (As := []) (rest := []) kv_X5_liked lk_X5_179 kM_50 (by decide) rfl rfl rfl (fun _ _ hc => c_X5_liked o.mk  hc) dX5_now_85 rfl ⟨rfl, rfl, Nat.le_of_ble_eq_true rfl, Nat.le_of_ble_eq_true rfl⟩ (Nat.le_of_ble_eq_true rfl) rfl h (fun r31 σ30 h => ?_)
    exact g_iret o hr (h.trans (congrArg some hres)) rfl dX5_now_88
  refine g_swIn o (tgt := 89) (off := 88) 7 dX5_now_1 (by decide) (by decide) (by decide +kernel) (by decide) h (fun h => ?_) (fun c7 h => ?_)
  · refine g_aload_n o (q := 90) 0 rfl rfl dX5_now_89 rfl ?_
    refine gf_X5_0 o (q := 93) kM_50 lk_X5_9 dX5_now_90 rfl ?_
    refine g_iconst o (v := 3) (q := 94) (by decide) dX5_now_93 rfl ?_
    refine g_iald o (q := 95) kM_51 dX5_now_94 rfl h (fun j32 hjj32 h => ?_)
    exact g_iret o hr (h.trans (congrArg some hres)) rfl dX5_now_95
  refine g_swOut o (tgt := 96) dX5_now_1 (sw_out (by decide) (by decide) (fun k h1 h2 => by rcases (show k = 0 ∨ k = 1 ∨ k = 2 ∨ k = 3 ∨ k = 4 ∨ k = 5 ∨ k = 6 ∨ k = 7 by omega) with rfl | rfl | rfl | rfl | rfl | rfl | rfl | rfl <;> assumption)) (by decide) ?_
  refine g_aload_n o (q := 97) 0 rfl rfl dX5_now_96 rfl ?_
  refine g_ldc o (q := 99) lk_X5_60 dX5_now_97 rfl ?_
  refine g_cvi o (q := 102) (As := [.int (-1000001)]) (rest := []) kv_X5_finding lk_X5_66 kM_50 (by decide) rfl rfl rfl (fun _ _ hc => c_X5_finding o.mk (-1000001) hc) dX5_now_99 rfl ⟨rfl, rfl, Nat.le_of_ble_eq_true rfl, Nat.le_of_ble_eq_true rfl⟩ (Nat.le_of_ble_eq_true rfl) rfl h (fun r34 σ33 h => ?_)
  exact g_iret o hr (h.trans (congrArg some hres)) rfl dX5_now_102
theorem c_X5_now {l : Launch} {E : En} {mk : Mem → Mem} (hmk : MK mk sdM) (x1 : Int32)  {σ : Mem} {r : Int32} {τ : Mem} (h : f_X5_now x1 σ = some (r, τ)) : Met l yX5_now (Cond.code yX5_now cX5_now 2 (some .int) :: wt) rm_X5_now (PW E mk [.ref (eA E 50), .int x1] σ) (QI E mk r τ) 0 0 (WA E) :=
  met_i (fun E => [.ref (eA E 50), .int x1]) (by decide) hmk (Nat.le_of_ble_eq_true rfl) (fun X o hr => w_X5_now rfl o hr x1  h)
set_option maxRecDepth 100000 in
set_option maxHeartbeats 4000000 in
theorem w_X5_behind {X : Cx} {l : Launch} {r : Int32} {σr : Mem} {res : Int32 × Mem} (hres : res = (r, σr)) (o : OK X cX5_behind RX5 sdM 3 rm_X5_behind l) (hr : RI X .int r σr) (x1 : Int32) (x2 : Int32)  {σ : Mem} (h : f_X5_behind x1 x2 σ = some res) : G X σ 0 [(0, .ref (eA (xE X) 50)), (1, .int x1), (2, .int x2)] [] := by
  unfold f_X5_behind at h
  refine g_aload_n o (q := 1) 0 rfl rfl dX5_behind_0 rfl ?_
  refine gf_X5_0 o (q := 4) kM_50 lk_X5_9 dX5_behind_1 rfl ?_
  refine g_aload_n o (q := 5) 0 rfl rfl dX5_behind_4 rfl ?_
  refine gf_X5_2 o (q := 8) kM_50 lk_X5_16 dX5_behind_5 rfl ?_
  refine g_csv o (q := 11) (As := [.ref (eA (xE X) 51), .ref (eA (xE X) 53)]) (rest := []) kv_X5_copyRow lk_X5_61 rfl (fun _ _ hc => c_X5_copyRow o.mk 51 53 kM_51 kM_53 hc) dX5_behind_8 rfl ⟨rfl, rfl, Nat.le_of_ble_eq_true rfl, Nat.le_of_ble_eq_true rfl⟩ (Nat.le_of_ble_eq_true rfl) rfl h (fun _u21 σ21 h => ?_)
  refine g_aload_n o (q := 12) 0 rfl rfl dX5_behind_11 rfl ?_
  refine g_iload_n o (q := 13) 2 rfl rfl dX5_behind_12 rfl ?_
  refine g_cvv o (q := 16) (As := [.int x2]) (rest := []) kv_X5_beatsGo lk_X5_167 kM_50 (by decide) rfl rfl rfl (fun _ _ hc => c_X5_beatsGo o.mk x2 hc) dX5_behind_13 rfl ⟨rfl, rfl, Nat.le_of_ble_eq_true rfl, Nat.le_of_ble_eq_true rfl⟩ (Nat.le_of_ble_eq_true rfl) rfl h (fun _u22 σ22 h => ?_)
  refine g_aload_n o (q := 17) 0 rfl rfl dX5_behind_16 rfl ?_
  refine g_aload_n o (q := 18) 0 rfl rfl dX5_behind_17 rfl ?_
  refine gf_X5_0 o (q := 21) kM_50 lk_X5_9 dX5_behind_18 rfl ?_
  refine g_iload_n o (q := 22) 1 rfl rfl dX5_behind_21 rfl ?_
  refine g_iald o (q := 23) kM_51 dX5_behind_22 rfl h (fun j23 hjj23 h => ?_)
  refine g_cvi o (q := 26) (As := [.int (σ22 51 j23)]) (rest := []) kv_X5_putBack lk_X5_182 kM_50 (by decide) rfl rfl rfl (fun _ _ hc => c_X5_putBack o.mk (σ22 51 j23) hc) dX5_behind_23 rfl ⟨rfl, rfl, Nat.le_of_ble_eq_true rfl, Nat.le_of_ble_eq_true rfl⟩ (Nat.le_of_ble_eq_true rfl) rfl h (fun r25 σ24 h => ?_)
  exact g_iret o hr (h.trans (congrArg some hres)) rfl dX5_behind_26
theorem c_X5_behind {l : Launch} {E : En} {mk : Mem → Mem} (hmk : MK mk sdM) (x1 : Int32) (x2 : Int32)  {σ : Mem} {r : Int32} {τ : Mem} (h : f_X5_behind x1 x2 σ = some (r, τ)) : Met l yX5_behind (Cond.code yX5_behind cX5_behind 3 (some .int) :: wt) rm_X5_behind (PW E mk [.ref (eA E 50), .int x1, .int x2] σ) (QI E mk r τ) 0 0 (WA E) :=
  met_i (fun E => [.ref (eA E 50), .int x1, .int x2]) (by decide) hmk (Nat.le_of_ble_eq_true rfl) (fun X o hr => w_X5_behind rfl o hr x1 x2  h)
set_option maxRecDepth 100000 in
set_option maxHeartbeats 4000000 in
theorem w_X5_ahead_J51 {X : Cx} {l : Launch} {r : Int32} {σr : Mem} {res : Int32 × Mem} (hres : res = (r, σr)) (o : OK X cX5_ahead RX5 sdM 5 rm_X5_ahead l) (hr : RI X .int r σr)     {σ : Mem} (h : f_X5_ahead_J51   σ = some res) : G X σ 51 [(0, .ref (eA (xE X) 50))] [] := by
  unfold f_X5_ahead_J51 at h
  refine g_aload_n o (q := 52) 0 rfl rfl dX5_ahead_51 rfl ?_
  refine g_ldc o (q := 54) lk_X5_60 dX5_ahead_52 rfl ?_
  refine g_cvi o (q := 57) (As := [.int (-1000001)]) (rest := []) kv_X5_finding lk_X5_66 kM_50 (by decide) rfl rfl rfl (fun _ _ hc => c_X5_finding o.mk (-1000001) hc) dX5_ahead_54 rfl ⟨rfl, rfl, Nat.le_of_ble_eq_true rfl, Nat.le_of_ble_eq_true rfl⟩ (Nat.le_of_ble_eq_true rfl) rfl h (fun r25 σ24 h => ?_)
  exact g_iret o hr (h.trans (congrArg some hres)) rfl dX5_ahead_57
set_option maxRecDepth 100000 in
set_option maxHeartbeats 4000000 in
theorem w_X5_ahead_J26 {X : Cx} {l : Launch} {r : Int32} {σr : Mem} {res : Int32 × Mem} (hres : res = (r, σr)) (o : OK X cX5_ahead RX5 sdM 5 rm_X5_ahead l) (hr : RI X .int r σr)   {y1 : Int32} {y2 : Int32} {y3 : Int32} {s0 : Int32}  {σ : Mem} (h : f_X5_ahead_J26  y1 y2 y3 s0 σ = some res) : G X σ 26 [(0, .ref (eA (xE X) 50)), (1, .int y1), (2, .int y2), (3, .int y3)] [.int s0] := by
  unfold f_X5_ahead_J26 at h
  refine g_istore o (q := 28) dX5_ahead_26 rfl (by decide) h (fun x21 => [(4, .int x21), (0, .ref (eA (xE X) 50)), (1, .int y1), (2, .int y2), (3, .int y3)]) (fun _ => rfl) (fun x21 h => ?_)
  refine g_aload_n o (q := 29) 1 rfl rfl dX5_ahead_28 rfl ?_
  refine g_iload_n o (q := 30) 2 rfl rfl dX5_ahead_29 rfl ?_
  refine g_cvi o (q := 33) (As := [.int y1]) (rest := []) kv_X5_isCurtain lk_X5_123 kM_50 (by decide) rfl rfl rfl (fun _ _ hc => c_X5_isCurtain o.mk y1 hc) dX5_ahead_30 rfl ⟨rfl, rfl, Nat.le_of_ble_eq_true rfl, Nat.le_of_ble_eq_true rfl⟩ (Nat.le_of_ble_eq_true rfl) rfl h (fun r23 σ22 h => ?_)
  refine g_if_eq o (tgt := 51) (q := 36) dX5_ahead_33 (by decide) rfl h (fun h => ?_) (fun h => ?_)
  · refine g_sub (lv' := [(0, .ref (eA (xE X) 50))]) [1] rfl ?_
    exact w_X5_ahead_J51 hres o hr   h
  · refine g_iload o (q := 38) 0 rfl dX5_ahead_36 rfl ?_
    refine g_if_eq o (tgt := 51) (q := 41) dX5_ahead_38 (by decide) rfl h (fun h => ?_) (fun h => ?_)
    · refine g_sub (lv' := [(0, .ref (eA (xE X) 50))]) [1] rfl ?_
      exact w_X5_ahead_J51 hres o hr   h
    · refine g_iload_n o (q := 42) 4 rfl rfl dX5_ahead_41 rfl ?_
      refine g_iconst o (v := 0) (q := 43) (by decide) dX5_ahead_42 rfl ?_
      refine g_bipush o (v := 100) (q := 45) (by decide) dX5_ahead_43 rfl ?_
      refine g_csi o (q := 48) (As := [.int y3, .int 0, .int 100]) (rest := []) kv_X5_within lk_X5_70 rfl (fun _ _ hc => c_X5_within o.mk y3 0 100 hc) dX5_ahead_45 rfl ⟨rfl, rfl, Nat.le_of_ble_eq_true rfl, Nat.le_of_ble_eq_true rfl⟩ (Nat.le_of_ble_eq_true rfl) rfl h (fun r27 σ26 h => ?_)
      refine g_if_ne o (tgt := 58) (q := 51) dX5_ahead_48 (by decide) rfl h (fun h => ?_) (fun h => ?_)
      · refine g_aload_n o (q := 59) 1 rfl rfl dX5_ahead_58 rfl ?_
        refine gf_X5_0 o (q := 62) kM_50 lk_X5_9 dX5_ahead_59 rfl ?_
        refine g_aload_n o (q := 63) 1 rfl rfl dX5_ahead_62 rfl ?_
        refine gf_X5_2 o (q := 66) kM_50 lk_X5_16 dX5_ahead_63 rfl ?_
        refine g_csv o (q := 69) (As := [.ref (eA (xE X) 51), .ref (eA (xE X) 53)]) (rest := []) kv_X5_copyRow lk_X5_61 rfl (fun _ _ hc => c_X5_copyRow o.mk 51 53 kM_51 kM_53 hc) dX5_ahead_66 rfl ⟨rfl, rfl, Nat.le_of_ble_eq_true rfl, Nat.le_of_ble_eq_true rfl⟩ (Nat.le_of_ble_eq_true rfl) rfl h (fun _u28 σ28 h => ?_)
        refine g_aload_n o (q := 70) 1 rfl rfl dX5_ahead_69 rfl ?_
        refine g_iload_n o (q := 71) 4 rfl rfl dX5_ahead_70 rfl ?_
        refine g_cvv o (q := 74) (As := [.int y3]) (rest := []) kv_X5_beatsGo lk_X5_167 kM_50 (by decide) rfl rfl rfl (fun _ _ hc => c_X5_beatsGo o.mk y3 hc) dX5_ahead_71 rfl ⟨rfl, rfl, Nat.le_of_ble_eq_true rfl, Nat.le_of_ble_eq_true rfl⟩ (Nat.le_of_ble_eq_true rfl) rfl h (fun _u29 σ29 h => ?_)
        refine g_aload_n o (q := 75) 1 rfl rfl dX5_ahead_74 rfl ?_
        refine g_aload_n o (q := 76) 1 rfl rfl dX5_ahead_75 rfl ?_
        refine g_iload_n o (q := 77) 2 rfl rfl dX5_ahead_76 rfl ?_
        refine g_iload_n o (q := 78) 3 rfl rfl dX5_ahead_77 rfl ?_
        refine g_cvi o (q := 81) (As := [.int y1, .int y2]) (rest := [.ref (eA (xE X) 50)]) kv_X5_told lk_X5_126 kM_50 (by decide) rfl rfl rfl (fun _ _ hc => c_X5_told o.mk y1 y2 hc) dX5_ahead_78 rfl ⟨rfl, rfl, Nat.le_of_ble_eq_true rfl, Nat.le_of_ble_eq_true rfl⟩ (Nat.le_of_ble_eq_true rfl) rfl h (fun r31 σ30 h => ?_)
        refine g_cvi o (q := 84) (As := [.int r31]) (rest := []) kv_X5_putBack lk_X5_182 kM_50 (by decide) rfl rfl rfl (fun _ _ hc => c_X5_putBack o.mk r31 hc) dX5_ahead_81 rfl ⟨rfl, rfl, Nat.le_of_ble_eq_true rfl, Nat.le_of_ble_eq_true rfl⟩ (Nat.le_of_ble_eq_true rfl) rfl h (fun r33 σ32 h => ?_)
        exact g_iret o hr (h.trans (congrArg some hres)) rfl dX5_ahead_84
      · refine g_sub (lv' := [(0, .ref (eA (xE X) 50))]) [1] rfl ?_
        exact w_X5_ahead_J51 hres o hr   h
set_option maxRecDepth 100000 in
set_option maxHeartbeats 4000000 in
theorem w_X5_ahead_J21 {X : Cx} {l : Launch} {r : Int32} {σr : Mem} {res : Int32 × Mem} (hres : res = (r, σr)) (o : OK X cX5_ahead RX5 sdM 5 rm_X5_ahead l) (hr : RI X .int r σr)   {y1 : Int32} {y2 : Int32} {y3 : Int32}  {σ : Mem} (h : f_X5_ahead_J21  y1 y2 y3 σ = some res) : G X σ 21 [(0, .ref (eA (xE X) 50)), (1, .int y1), (2, .int y2), (3, .int y3)] [] := by
  unfold f_X5_ahead_J21 at h
  refine g_iconst o (v := 1) (q := 22) (by decide) dX5_ahead_21 rfl ?_
  refine g_goto o (tgt := 26) dX5_ahead_22 (by decide) ?_
  exact w_X5_ahead_J26 hres o hr   h
set_option maxRecDepth 100000 in
set_option maxHeartbeats 4000000 in
theorem w_X5_ahead {X : Cx} {l : Launch} {r : Int32} {σr : Mem} {res : Int32 × Mem} (hres : res = (r, σr)) (o : OK X cX5_ahead RX5 sdM 5 rm_X5_ahead l) (hr : RI X .int r σr) (x1 : Int32) (x2 : Int32) (x3 : Int32)  {σ : Mem} (h : f_X5_ahead x1 x2 x3 σ = some res) : G X σ 0 [(0, .ref (eA (xE X) 50)), (1, .int x1), (2, .int x2), (3, .int x3)] [] := by
  unfold f_X5_ahead at h
  refine g_iload_n o (q := 1) 2 rfl rfl dX5_ahead_0 rfl ?_
  refine g_iconst o (v := 1) (q := 2) (by decide) dX5_ahead_1 rfl ?_
  refine g_icmp_eq o (tgt := 21) (q := 5) dX5_ahead_2 (by decide) rfl h (fun h => ?_) (fun h => ?_)
  · exact w_X5_ahead_J21 hres o hr   h
  · refine g_iload_n o (q := 6) 2 rfl rfl dX5_ahead_5 rfl ?_
    refine g_iconst o (v := 3) (q := 7) (by decide) dX5_ahead_6 rfl ?_
    refine g_icmp_eq o (tgt := 21) (q := 10) dX5_ahead_7 (by decide) rfl h (fun h => ?_) (fun h => ?_)
    · exact w_X5_ahead_J21 hres o hr   h
    · refine g_iload_n o (q := 11) 2 rfl rfl dX5_ahead_10 rfl ?_
      refine g_iconst o (v := 5) (q := 12) (by decide) dX5_ahead_11 rfl ?_
      refine g_icmp_eq o (tgt := 21) (q := 15) dX5_ahead_12 (by decide) rfl h (fun h => ?_) (fun h => ?_)
      · exact w_X5_ahead_J21 hres o hr   h
      · refine g_iload_n o (q := 16) 2 rfl rfl dX5_ahead_15 rfl ?_
        refine g_bipush o (v := 8) (q := 18) (by decide) dX5_ahead_16 rfl ?_
        refine g_icmp_ne o (tgt := 25) (q := 21) dX5_ahead_18 (by decide) rfl h (fun h => ?_) (fun h => ?_)
        · refine g_iconst o (v := 0) (q := 26) (by decide) dX5_ahead_25 rfl ?_
          exact w_X5_ahead_J26 hres o hr   h
        · exact w_X5_ahead_J21 hres o hr   h
theorem c_X5_ahead {l : Launch} {E : En} {mk : Mem → Mem} (hmk : MK mk sdM) (x1 : Int32) (x2 : Int32) (x3 : Int32)  {σ : Mem} {r : Int32} {τ : Mem} (h : f_X5_ahead x1 x2 x3 σ = some (r, τ)) : Met l yX5_ahead (Cond.code yX5_ahead cX5_ahead 5 (some .int) :: wt) rm_X5_ahead (PW E mk [.ref (eA E 50), .int x1, .int x2, .int x3] σ) (QI E mk r τ) 0 0 (WA E) :=
  met_i (fun E => [.ref (eA E 50), .int x1, .int x2, .int x3]) (by decide) hmk (Nat.le_of_ble_eq_true rfl) (fun X o hr => w_X5_ahead rfl o hr x1 x2 x3  h)
set_option maxRecDepth 100000 in
set_option maxHeartbeats 4000000 in
theorem w_X5_cut {X : Cx} {l : Launch} {r : Int32} {σr : Mem} {res : Int32 × Mem} (hres : res = (r, σr)) (o : OK X cX5_cut RX5 sdM 2 rm_X5_cut l) (hr : RI X .int r σr) (x1 : Int32)  {σ : Mem} (h : f_X5_cut x1 σ = some res) : G X σ 0 [(0, .ref (eA (xE X) 50)), (1, .int x1)] [] := by
  unfold f_X5_cut at h
  refine g_iload_n o (q := 1) 1 rfl rfl dX5_cut_0 rfl ?_
  refine g_iconst o (v := 0) (q := 2) (by decide) dX5_cut_1 rfl ?_
  refine g_bipush o (v := 100) (q := 4) (by decide) dX5_cut_2 rfl ?_
  refine g_csi o (q := 7) (As := [.int x1, .int 0, .int 100]) (rest := []) kv_X5_within lk_X5_70 rfl (fun _ _ hc => c_X5_within o.mk x1 0 100 hc) dX5_cut_4 rfl ⟨rfl, rfl, Nat.le_of_ble_eq_true rfl, Nat.le_of_ble_eq_true rfl⟩ (Nat.le_of_ble_eq_true rfl) rfl h (fun r22 σ21 h => ?_)
  refine g_if_eq o (tgt := 19) (q := 10) dX5_cut_7 (by decide) rfl h (fun h => ?_) (fun h => ?_)
  · refine g_aload_n o (q := 20) 0 rfl rfl dX5_cut_19 rfl ?_
    refine g_ldc o (q := 22) lk_X5_60 dX5_cut_20 rfl ?_
    refine g_cvi o (q := 25) (As := [.int (-1000001)]) (rest := []) kv_X5_finding lk_X5_66 kM_50 (by decide) rfl rfl rfl (fun _ _ hc => c_X5_finding o.mk (-1000001) hc) dX5_cut_22 rfl ⟨rfl, rfl, Nat.le_of_ble_eq_true rfl, Nat.le_of_ble_eq_true rfl⟩ (Nat.le_of_ble_eq_true rfl) rfl h (fun r24 σ23 h => ?_)
    exact g_iret o hr (h.trans (congrArg some hres)) rfl dX5_cut_25
  · refine g_aload_n o (q := 11) 0 rfl rfl dX5_cut_10 rfl ?_
    refine g_iconst o (v := 4) (q := 12) (by decide) dX5_cut_11 rfl ?_
    refine g_iload_n o (q := 13) 1 rfl rfl dX5_cut_12 rfl ?_
    refine g_cvi o (q := 16) (As := [.int 4, .int x1]) (rest := []) kv_X5_behind lk_X5_185 kM_50 (by decide) rfl rfl rfl (fun _ _ hc => c_X5_behind o.mk 4 x1 hc) dX5_cut_13 rfl ⟨rfl, rfl, Nat.le_of_ble_eq_true rfl, Nat.le_of_ble_eq_true rfl⟩ (Nat.le_of_ble_eq_true rfl) rfl h (fun r26 σ25 h => ?_)
    refine g_goto o (tgt := 25) dX5_cut_16 (by decide) ?_
    exact g_iret o hr (h.trans (congrArg some hres)) rfl dX5_cut_25
theorem c_X5_cut {l : Launch} {E : En} {mk : Mem → Mem} (hmk : MK mk sdM) (x1 : Int32)  {σ : Mem} {r : Int32} {τ : Mem} (h : f_X5_cut x1 σ = some (r, τ)) : Met l yX5_cut (Cond.code yX5_cut cX5_cut 2 (some .int) :: wt) rm_X5_cut (PW E mk [.ref (eA E 50), .int x1] σ) (QI E mk r τ) 0 0 (WA E) :=
  met_i (fun E => [.ref (eA E 50), .int x1]) (by decide) hmk (Nat.le_of_ble_eq_true rfl) (fun X o hr => w_X5_cut rfl o hr x1  h)
set_option maxRecDepth 100000 in
set_option maxHeartbeats 4000000 in
theorem w_X5_beatsTo_J67 {X : Cx} {l : Launch} {r : Int32} {σr : Mem} {res : Int32 × Mem} (hres : res = (r, σr)) (o : OK X cX5_beatsTo RX5 sdM 5 rm_X5_beatsTo l) (hr : RI X .int r σr)   {s1 : Int32}  {σ : Mem} (h : f_X5_beatsTo_J67  s1 σ = some res) : G X σ 67 [] [.int s1, .ref (eA (xE X) 50)] := by
  unfold f_X5_beatsTo_J67 at h
  refine g_cvi o (q := 70) (As := [.int s1]) (rest := []) kv_X5_putBack lk_X5_182 kM_50 (by decide) rfl rfl rfl (fun _ _ hc => c_X5_putBack o.mk s1 hc) dX5_beatsTo_67 rfl ⟨rfl, rfl, Nat.le_of_ble_eq_true rfl, Nat.le_of_ble_eq_true rfl⟩ (Nat.le_of_ble_eq_true rfl) rfl h (fun r27 σ26 h => ?_)
  exact g_iret o hr (h.trans (congrArg some hres)) rfl dX5_beatsTo_70
set_option maxRecDepth 100000 in
set_option maxHeartbeats 4000000 in
theorem w_X5_beatsTo_J46 {X : Cx} {l : Launch} {r : Int32} {σr : Mem} {res : Int32 × Mem} (hres : res = (r, σr)) (o : OK X cX5_beatsTo RX5 sdM 5 rm_X5_beatsTo l) (hr : RI X .int r σr)   {y1 : Int32} {y2 : Int32} {y3 : Int32} {y4 : Int32}  {σ : Mem} (h : f_X5_beatsTo_J46  y1 y2 y3 y4 σ = some res) : G X σ 46 [(0, .ref (eA (xE X) 50)), (1, .int y1), (2, .int y2), (3, .int y3), (4, .int y4)] [] := by
  unfold f_X5_beatsTo_J46 at h
  refine g_aload_n o (q := 47) 0 rfl rfl dX5_beatsTo_46 rfl ?_
  refine g_aload_n o (q := 48) 0 rfl rfl dX5_beatsTo_47 rfl ?_
  refine gf_X5_0 o (q := 51) kM_50 lk_X5_9 dX5_beatsTo_48 rfl ?_
  refine g_iload_n o (q := 52) 1 rfl rfl dX5_beatsTo_51 rfl ?_
  refine g_iald o (q := 53) kM_51 dX5_beatsTo_52 rfl h (fun j23 hjj23 h => ?_)
  refine g_iload_n o (q := 54) 2 rfl rfl dX5_beatsTo_53 rfl ?_
  refine g_iload_n o (q := 55) 3 rfl rfl dX5_beatsTo_54 rfl ?_
  refine g_csi o (q := 58) (As := [.int (σ 51 j23), .int y2, .int y3]) (rest := [.ref (eA (xE X) 50)]) kv_X5_within lk_X5_70 rfl (fun _ _ hc => c_X5_within o.mk (σ 51 j23) y2 y3 hc) dX5_beatsTo_55 rfl ⟨rfl, rfl, Nat.le_of_ble_eq_true rfl, Nat.le_of_ble_eq_true rfl⟩ (Nat.le_of_ble_eq_true rfl) rfl h (fun r25 σ24 h => ?_)
  refine g_if_eq o (tgt := 66) (q := 61) dX5_beatsTo_58 (by decide) rfl h (fun h => ?_) (fun h => ?_)
  · refine g_iconst o (v := (-1)) (q := 67) (by decide) dX5_beatsTo_66 rfl ?_
    refine g_sub (lv' := []) [] rfl ?_
    exact w_X5_beatsTo_J67 hres o hr   h
  · refine g_iload o (q := 63) 4 rfl dX5_beatsTo_61 rfl ?_
    refine g_goto o (tgt := 67) dX5_beatsTo_63 (by decide) ?_
    refine g_sub (lv' := []) [] rfl ?_
    exact w_X5_beatsTo_J67 hres o hr   h
set_option maxRecDepth 100000 in
set_option maxHeartbeats 4000000 in
theorem w_X5_beatsTo_L14 {X : Cx} {l : Launch} {r : Int32} {σr : Mem} {res : Int32 × Mem} (hres : res = (r, σr)) (o : OK X cX5_beatsTo RX5 sdM 5 rm_X5_beatsTo l) (hr : RI X .int r σr)   : ∀ (n : Nat) (y1 : Int32) (y2 : Int32) (y3 : Int32) (y4 : Int32) (σ : Mem), f_X5_beatsTo_L14  n y1 y2 y3 y4 σ = some res → G X σ 14 [(0, .ref (eA (xE X) 50)), (1, .int y1), (2, .int y2), (3, .int y3), (4, .int y4)] [] := by
  intro n
  induction n with
  | zero => intro y1 y2 y3 y4 σ  h; cases h
  | succ n ih =>
    intro y1 y2 y3 y4 σ  h
    rw [f_X5_beatsTo_L14_s] at h
    refine g_iload o (q := 16) 4 rfl dX5_beatsTo_14 rfl ?_
    refine g_sipush o (v := 200) (q := 19) (by decide) dX5_beatsTo_16 rfl ?_
    refine g_icmp_ge o (tgt := 46) (q := 22) dX5_beatsTo_19 (by decide) rfl h (fun h => ?_) (fun h => ?_)
    · exact w_X5_beatsTo_J46 hres o hr   h
    · refine g_aload_n o (q := 23) 0 rfl rfl dX5_beatsTo_22 rfl ?_
      refine gf_X5_0 o (q := 26) kM_50 lk_X5_9 dX5_beatsTo_23 rfl ?_
      refine g_iload_n o (q := 27) 1 rfl rfl dX5_beatsTo_26 rfl ?_
      refine g_iald o (q := 28) kM_51 dX5_beatsTo_27 rfl h (fun j28 hjj28 h => ?_)
      refine g_iload_n o (q := 29) 2 rfl rfl dX5_beatsTo_28 rfl ?_
      refine g_iload_n o (q := 30) 3 rfl rfl dX5_beatsTo_29 rfl ?_
      refine g_csi o (q := 33) (As := [.int (σ 51 j28), .int y2, .int y3]) (rest := []) kv_X5_within lk_X5_70 rfl (fun _ _ hc => c_X5_within o.mk (σ 51 j28) y2 y3 hc) dX5_beatsTo_30 rfl ⟨rfl, rfl, Nat.le_of_ble_eq_true rfl, Nat.le_of_ble_eq_true rfl⟩ (Nat.le_of_ble_eq_true rfl) rfl h (fun r30 σ29 h => ?_)
      refine g_if_ne o (tgt := 46) (q := 36) dX5_beatsTo_33 (by decide) rfl h (fun h => ?_) (fun h => ?_)
      · exact w_X5_beatsTo_J46 hres o hr   h
      · refine g_aload_n o (q := 37) 0 rfl rfl dX5_beatsTo_36 rfl ?_
        refine g_cvv o (q := 40) (As := []) (rest := []) kv_X5_beat lk_X5_164 kM_50 (by decide) rfl rfl rfl (fun _ _ hc => c_X5_beat o.mk  hc) dX5_beatsTo_37 rfl ⟨rfl, rfl, Nat.le_of_ble_eq_true rfl, Nat.le_of_ble_eq_true rfl⟩ (Nat.le_of_ble_eq_true rfl) rfl h (fun _u31 σ31 h => ?_)
        refine g_iinc o (q := 43) (dn := 1) dX5_beatsTo_40 rfl 4 rfl (by decide) (by decide) h (fun x32 => [(4, .int x32), (0, .ref (eA (xE X) 50)), (1, .int y1), (2, .int y2), (3, .int y3)]) (fun _ => rfl) (fun x32 h => ?_)
        refine g_goto o (tgt := 14) dX5_beatsTo_43 (by decide) ?_
        refine g_sub (lv' := [(0, .ref (eA (xE X) 50)), (1, .int y1), (2, .int y2), (3, .int y3), (4, .int x32)]) [1, 2, 3, 4, 0] rfl ?_
        exact ih y1 y2 y3 x32 σ31  h
set_option maxRecDepth 100000 in
set_option maxHeartbeats 4000000 in
theorem w_X5_beatsTo {X : Cx} {l : Launch} {r : Int32} {σr : Mem} {res : Int32 × Mem} (hres : res = (r, σr)) (o : OK X cX5_beatsTo RX5 sdM 5 rm_X5_beatsTo l) (hr : RI X .int r σr) (x1 : Int32) (x2 : Int32) (x3 : Int32)  {σ : Mem} (h : f_X5_beatsTo x1 x2 x3 σ = some res) : G X σ 0 [(0, .ref (eA (xE X) 50)), (1, .int x1), (2, .int x2), (3, .int x3)] [] := by
  unfold f_X5_beatsTo at h
  refine g_aload_n o (q := 1) 0 rfl rfl dX5_beatsTo_0 rfl ?_
  refine gf_X5_0 o (q := 4) kM_50 lk_X5_9 dX5_beatsTo_1 rfl ?_
  refine g_aload_n o (q := 5) 0 rfl rfl dX5_beatsTo_4 rfl ?_
  refine gf_X5_2 o (q := 8) kM_50 lk_X5_16 dX5_beatsTo_5 rfl ?_
  refine g_csv o (q := 11) (As := [.ref (eA (xE X) 51), .ref (eA (xE X) 53)]) (rest := []) kv_X5_copyRow lk_X5_61 rfl (fun _ _ hc => c_X5_copyRow o.mk 51 53 kM_51 kM_53 hc) dX5_beatsTo_8 rfl ⟨rfl, rfl, Nat.le_of_ble_eq_true rfl, Nat.le_of_ble_eq_true rfl⟩ (Nat.le_of_ble_eq_true rfl) rfl h (fun _u21 σ21 h => ?_)
  refine g_iconst o (v := 0) (q := 12) (by decide) dX5_beatsTo_11 rfl ?_
  refine g_istore o (q := 14) dX5_beatsTo_12 rfl (by decide) h (fun x22 => [(4, .int x22), (0, .ref (eA (xE X) 50)), (1, .int x1), (2, .int x2), (3, .int x3)]) (fun _ => rfl) (fun x22 h => ?_)
  refine g_sub (lv' := [(0, .ref (eA (xE X) 50)), (1, .int x1), (2, .int x2), (3, .int x3), (4, .int x22)]) [1, 2, 3, 4, 0] rfl ?_
  exact w_X5_beatsTo_L14 hres o hr  FU x1 x2 x3 x22 σ21  h
theorem c_X5_beatsTo {l : Launch} {E : En} {mk : Mem → Mem} (hmk : MK mk sdM) (x1 : Int32) (x2 : Int32) (x3 : Int32)  {σ : Mem} {r : Int32} {τ : Mem} (h : f_X5_beatsTo x1 x2 x3 σ = some (r, τ)) : Met l yX5_beatsTo (Cond.code yX5_beatsTo cX5_beatsTo 5 (some .int) :: wt) rm_X5_beatsTo (PW E mk [.ref (eA E 50), .int x1, .int x2, .int x3] σ) (QI E mk r τ) 0 0 (WA E) :=
  met_i (fun E => [.ref (eA E 50), .int x1, .int x2, .int x3]) (by decide) hmk (Nat.le_of_ble_eq_true rfl) (fun X o hr => w_X5_beatsTo rfl o hr x1 x2 x3  h)
set_option maxRecDepth 100000 in
set_option maxHeartbeats 4000000 in
theorem w_X5_down {X : Cx} {l : Launch} {r : Int32} {σr : Mem} {res : Int32 × Mem} (hres : res = (r, σr)) (o : OK X cX5_down RX5 sdM 2 rm_X5_down l) (hr : RI X .int r σr) (x1 : Int32)  {σ : Mem} (h : f_X5_down x1 σ = some res) : G X σ 0 [(0, .ref (eA (xE X) 50)), (1, .int x1)] [] := by
  unfold f_X5_down at h
  refine g_aload_n o (q := 1) 0 rfl rfl dX5_down_0 rfl ?_
  refine g_iload_n o (q := 2) 1 rfl rfl dX5_down_1 rfl ?_
  refine g_cvi o (q := 5) (As := [.int x1]) (rest := []) kv_X5_isCurtain lk_X5_123 kM_50 (by decide) rfl rfl rfl (fun _ _ hc => c_X5_isCurtain o.mk x1 hc) dX5_down_2 rfl ⟨rfl, rfl, Nat.le_of_ble_eq_true rfl, Nat.le_of_ble_eq_true rfl⟩ (Nat.le_of_ble_eq_true rfl) rfl h (fun r22 σ21 h => ?_)
  refine g_if_eq o (tgt := 26) (q := 8) dX5_down_5 (by decide) rfl h (fun h => ?_) (fun h => ?_)
  · refine g_aload_n o (q := 27) 0 rfl rfl dX5_down_26 rfl ?_
    refine g_ldc o (q := 29) lk_X5_60 dX5_down_27 rfl ?_
    refine g_cvi o (q := 32) (As := [.int (-1000001)]) (rest := []) kv_X5_finding lk_X5_66 kM_50 (by decide) rfl rfl rfl (fun _ _ hc => c_X5_finding o.mk (-1000001) hc) dX5_down_29 rfl ⟨rfl, rfl, Nat.le_of_ble_eq_true rfl, Nat.le_of_ble_eq_true rfl⟩ (Nat.le_of_ble_eq_true rfl) rfl h (fun r24 σ23 h => ?_)
    exact g_iret o hr (h.trans (congrArg some hres)) rfl dX5_down_32
  · refine g_aload_n o (q := 9) 0 rfl rfl dX5_down_8 rfl ?_
    refine g_aload_n o (q := 10) 0 rfl rfl dX5_down_9 rfl ?_
    refine g_iload_n o (q := 11) 1 rfl rfl dX5_down_10 rfl ?_
    refine g_iconst o (v := 3) (q := 12) (by decide) dX5_down_11 rfl ?_
    refine g_csi o (q := 15) (As := [.int x1, .int 3]) (rest := [.ref (eA (xE X) 50), .ref (eA (xE X) 50)]) kv_X5_curtainAt lk_X5_85 rfl (fun _ _ hc => c_X5_curtainAt o.mk x1 3 hc) dX5_down_12 rfl ⟨rfl, rfl, Nat.le_of_ble_eq_true rfl, Nat.le_of_ble_eq_true rfl⟩ (Nat.le_of_ble_eq_true rfl) rfl h (fun r26 σ25 h => ?_)
    refine g_iconst o (v := 0) (q := 16) (by decide) dX5_down_15 rfl ?_
    refine g_iconst o (v := 0) (q := 17) (by decide) dX5_down_16 rfl ?_
    refine g_cvi o (q := 20) (As := [.int r26, .int 0, .int 0]) (rest := [.ref (eA (xE X) 50)]) kv_X5_beatsTo lk_X5_188 kM_50 (by decide) rfl rfl rfl (fun _ _ hc => c_X5_beatsTo o.mk r26 0 0 hc) dX5_down_17 rfl ⟨rfl, rfl, Nat.le_of_ble_eq_true rfl, Nat.le_of_ble_eq_true rfl⟩ (Nat.le_of_ble_eq_true rfl) rfl h (fun r28 σ27 h => ?_)
    refine g_cvi o (q := 23) (As := [.int r28]) (rest := []) kv_X5_orNone lk_X5_192 kM_50 (by decide) rfl rfl rfl (fun _ _ hc => c_X5_orNone o.mk r28 hc) dX5_down_20 rfl ⟨rfl, rfl, Nat.le_of_ble_eq_true rfl, Nat.le_of_ble_eq_true rfl⟩ (Nat.le_of_ble_eq_true rfl) rfl h (fun r30 σ29 h => ?_)
    refine g_goto o (tgt := 32) dX5_down_23 (by decide) ?_
    exact g_iret o hr (h.trans (congrArg some hres)) rfl dX5_down_32
theorem c_X5_down {l : Launch} {E : En} {mk : Mem → Mem} (hmk : MK mk sdM) (x1 : Int32)  {σ : Mem} {r : Int32} {τ : Mem} (h : f_X5_down x1 σ = some (r, τ)) : Met l yX5_down (Cond.code yX5_down cX5_down 2 (some .int) :: wt) rm_X5_down (PW E mk [.ref (eA E 50), .int x1] σ) (QI E mk r τ) 0 0 (WA E) :=
  met_i (fun E => [.ref (eA E 50), .int x1]) (by decide) hmk (Nat.le_of_ble_eq_true rfl) (fun X o hr => w_X5_down rfl o hr x1  h)
set_option maxRecDepth 100000 in
set_option maxHeartbeats 4000000 in
theorem w_X5_up {X : Cx} {l : Launch} {r : Int32} {σr : Mem} {res : Int32 × Mem} (hres : res = (r, σr)) (o : OK X cX5_up RX5 sdM 2 rm_X5_up l) (hr : RI X .int r σr) (x1 : Int32)  {σ : Mem} (h : f_X5_up x1 σ = some res) : G X σ 0 [(0, .ref (eA (xE X) 50)), (1, .int x1)] [] := by
  unfold f_X5_up at h
  refine g_aload_n o (q := 1) 0 rfl rfl dX5_up_0 rfl ?_
  refine g_iload_n o (q := 2) 1 rfl rfl dX5_up_1 rfl ?_
  refine g_cvi o (q := 5) (As := [.int x1]) (rest := []) kv_X5_isCurtain lk_X5_123 kM_50 (by decide) rfl rfl rfl (fun _ _ hc => c_X5_isCurtain o.mk x1 hc) dX5_up_2 rfl ⟨rfl, rfl, Nat.le_of_ble_eq_true rfl, Nat.le_of_ble_eq_true rfl⟩ (Nat.le_of_ble_eq_true rfl) rfl h (fun r22 σ21 h => ?_)
  refine g_if_eq o (tgt := 28) (q := 8) dX5_up_5 (by decide) rfl h (fun h => ?_) (fun h => ?_)
  · refine g_aload_n o (q := 29) 0 rfl rfl dX5_up_28 rfl ?_
    refine g_ldc o (q := 31) lk_X5_60 dX5_up_29 rfl ?_
    refine g_cvi o (q := 34) (As := [.int (-1000001)]) (rest := []) kv_X5_finding lk_X5_66 kM_50 (by decide) rfl rfl rfl (fun _ _ hc => c_X5_finding o.mk (-1000001) hc) dX5_up_31 rfl ⟨rfl, rfl, Nat.le_of_ble_eq_true rfl, Nat.le_of_ble_eq_true rfl⟩ (Nat.le_of_ble_eq_true rfl) rfl h (fun r24 σ23 h => ?_)
    exact g_iret o hr (h.trans (congrArg some hres)) rfl dX5_up_34
  · refine g_aload_n o (q := 9) 0 rfl rfl dX5_up_8 rfl ?_
    refine g_aload_n o (q := 10) 0 rfl rfl dX5_up_9 rfl ?_
    refine g_iload_n o (q := 11) 1 rfl rfl dX5_up_10 rfl ?_
    refine g_iconst o (v := 3) (q := 12) (by decide) dX5_up_11 rfl ?_
    refine g_csi o (q := 15) (As := [.int x1, .int 3]) (rest := [.ref (eA (xE X) 50), .ref (eA (xE X) 50)]) kv_X5_curtainAt lk_X5_85 rfl (fun _ _ hc => c_X5_curtainAt o.mk x1 3 hc) dX5_up_12 rfl ⟨rfl, rfl, Nat.le_of_ble_eq_true rfl, Nat.le_of_ble_eq_true rfl⟩ (Nat.le_of_ble_eq_true rfl) rfl h (fun r26 σ25 h => ?_)
    refine g_bipush o (v := 20) (q := 17) (by decide) dX5_up_15 rfl ?_
    refine g_bipush o (v := 20) (q := 19) (by decide) dX5_up_17 rfl ?_
    refine g_cvi o (q := 22) (As := [.int r26, .int 20, .int 20]) (rest := [.ref (eA (xE X) 50)]) kv_X5_beatsTo lk_X5_188 kM_50 (by decide) rfl rfl rfl (fun _ _ hc => c_X5_beatsTo o.mk r26 20 20 hc) dX5_up_19 rfl ⟨rfl, rfl, Nat.le_of_ble_eq_true rfl, Nat.le_of_ble_eq_true rfl⟩ (Nat.le_of_ble_eq_true rfl) rfl h (fun r28 σ27 h => ?_)
    refine g_cvi o (q := 25) (As := [.int r28]) (rest := []) kv_X5_orNone lk_X5_192 kM_50 (by decide) rfl rfl rfl (fun _ _ hc => c_X5_orNone o.mk r28 hc) dX5_up_22 rfl ⟨rfl, rfl, Nat.le_of_ble_eq_true rfl, Nat.le_of_ble_eq_true rfl⟩ (Nat.le_of_ble_eq_true rfl) rfl h (fun r30 σ29 h => ?_)
    refine g_goto o (tgt := 34) dX5_up_25 (by decide) ?_
    exact g_iret o hr (h.trans (congrArg some hres)) rfl dX5_up_34
theorem c_X5_up {l : Launch} {E : En} {mk : Mem → Mem} (hmk : MK mk sdM) (x1 : Int32)  {σ : Mem} {r : Int32} {τ : Mem} (h : f_X5_up x1 σ = some (r, τ)) : Met l yX5_up (Cond.code yX5_up cX5_up 2 (some .int) :: wt) rm_X5_up (PW E mk [.ref (eA E 50), .int x1] σ) (QI E mk r τ) 0 0 (WA E) :=
  met_i (fun E => [.ref (eA E 50), .int x1]) (by decide) hmk (Nat.le_of_ble_eq_true rfl) (fun X o hr => w_X5_up rfl o hr x1  h)
set_option maxRecDepth 100000 in
set_option maxHeartbeats 4000000 in
theorem w_X5_weary_J36 {X : Cx} {l : Launch} {r : Int32} {σr : Mem} {res : Int32 × Mem} (hres : res = (r, σr)) (o : OK X cX5_weary RX5 sdM 3 rm_X5_weary l) (hr : RI X .int r σr)     {σ : Mem} (h : f_X5_weary_J36   σ = some res) : G X σ 36 [(0, .ref (eA (xE X) 50))] [] := by
  unfold f_X5_weary_J36 at h
  refine g_aload_n o (q := 37) 0 rfl rfl dX5_weary_36 rfl ?_
  refine g_ldc o (q := 39) lk_X5_60 dX5_weary_37 rfl ?_
  refine g_cvi o (q := 42) (As := [.int (-1000001)]) (rest := []) kv_X5_finding lk_X5_66 kM_50 (by decide) rfl rfl rfl (fun _ _ hc => c_X5_finding o.mk (-1000001) hc) dX5_weary_39 rfl ⟨rfl, rfl, Nat.le_of_ble_eq_true rfl, Nat.le_of_ble_eq_true rfl⟩ (Nat.le_of_ble_eq_true rfl) rfl h (fun r24 σ23 h => ?_)
  exact g_iret o hr (h.trans (congrArg some hres)) rfl dX5_weary_42
set_option maxRecDepth 100000 in
set_option maxHeartbeats 4000000 in
theorem w_X5_weary {X : Cx} {l : Launch} {r : Int32} {σr : Mem} {res : Int32 × Mem} (hres : res = (r, σr)) (o : OK X cX5_weary RX5 sdM 3 rm_X5_weary l) (hr : RI X .int r σr) (x1 : Int32) (x2 : Int32)  {σ : Mem} (h : f_X5_weary x1 x2 σ = some res) : G X σ 0 [(0, .ref (eA (xE X) 50)), (1, .int x1), (2, .int x2)] [] := by
  unfold f_X5_weary at h
  refine g_aload_n o (q := 1) 0 rfl rfl dX5_weary_0 rfl ?_
  refine g_iload_n o (q := 2) 1 rfl rfl dX5_weary_1 rfl ?_
  refine g_cvi o (q := 5) (As := [.int x1]) (rest := []) kv_X5_isCurtain lk_X5_123 kM_50 (by decide) rfl rfl rfl (fun _ _ hc => c_X5_isCurtain o.mk x1 hc) dX5_weary_2 rfl ⟨rfl, rfl, Nat.le_of_ble_eq_true rfl, Nat.le_of_ble_eq_true rfl⟩ (Nat.le_of_ble_eq_true rfl) rfl h (fun r22 σ21 h => ?_)
  refine g_if_eq o (tgt := 36) (q := 8) dX5_weary_5 (by decide) rfl h (fun h => ?_) (fun h => ?_)
  · refine g_sub (lv' := [(0, .ref (eA (xE X) 50))]) [0] rfl ?_
    exact w_X5_weary_J36 hres o hr   h
  · refine g_iload_n o (q := 9) 2 rfl rfl dX5_weary_8 rfl ?_
    refine g_iconst o (v := 0) (q := 10) (by decide) dX5_weary_9 rfl ?_
    refine g_bipush o (v := 99) (q := 12) (by decide) dX5_weary_10 rfl ?_
    refine g_csi o (q := 15) (As := [.int x2, .int 0, .int 99]) (rest := []) kv_X5_within lk_X5_70 rfl (fun _ _ hc => c_X5_within o.mk x2 0 99 hc) dX5_weary_12 rfl ⟨rfl, rfl, Nat.le_of_ble_eq_true rfl, Nat.le_of_ble_eq_true rfl⟩ (Nat.le_of_ble_eq_true rfl) rfl h (fun r26 σ25 h => ?_)
    refine g_if_eq o (tgt := 36) (q := 18) dX5_weary_15 (by decide) rfl h (fun h => ?_) (fun h => ?_)
    · refine g_sub (lv' := [(0, .ref (eA (xE X) 50))]) [0] rfl ?_
      exact w_X5_weary_J36 hres o hr   h
    · refine g_aload_n o (q := 19) 0 rfl rfl dX5_weary_18 rfl ?_
      refine g_aload_n o (q := 20) 0 rfl rfl dX5_weary_19 rfl ?_
      refine g_iload_n o (q := 21) 1 rfl rfl dX5_weary_20 rfl ?_
      refine g_iconst o (v := 1) (q := 22) (by decide) dX5_weary_21 rfl ?_
      refine g_csi o (q := 25) (As := [.int x1, .int 1]) (rest := [.ref (eA (xE X) 50), .ref (eA (xE X) 50)]) kv_X5_curtainAt lk_X5_85 rfl (fun _ _ hc => c_X5_curtainAt o.mk x1 1 hc) dX5_weary_22 rfl ⟨rfl, rfl, Nat.le_of_ble_eq_true rfl, Nat.le_of_ble_eq_true rfl⟩ (Nat.le_of_ble_eq_true rfl) rfl h (fun r28 σ27 h => ?_)
      refine g_iconst o (v := 0) (q := 26) (by decide) dX5_weary_25 rfl ?_
      refine g_iload_n o (q := 27) 2 rfl rfl dX5_weary_26 rfl ?_
      refine g_cvi o (q := 30) (As := [.int r28, .int 0, .int x2]) (rest := [.ref (eA (xE X) 50)]) kv_X5_beatsTo lk_X5_188 kM_50 (by decide) rfl rfl rfl (fun _ _ hc => c_X5_beatsTo o.mk r28 0 x2 hc) dX5_weary_27 rfl ⟨rfl, rfl, Nat.le_of_ble_eq_true rfl, Nat.le_of_ble_eq_true rfl⟩ (Nat.le_of_ble_eq_true rfl) rfl h (fun r30 σ29 h => ?_)
      refine g_cvi o (q := 33) (As := [.int r30]) (rest := []) kv_X5_orNone lk_X5_192 kM_50 (by decide) rfl rfl rfl (fun _ _ hc => c_X5_orNone o.mk r30 hc) dX5_weary_30 rfl ⟨rfl, rfl, Nat.le_of_ble_eq_true rfl, Nat.le_of_ble_eq_true rfl⟩ (Nat.le_of_ble_eq_true rfl) rfl h (fun r32 σ31 h => ?_)
      refine g_goto o (tgt := 42) dX5_weary_33 (by decide) ?_
      exact g_iret o hr (h.trans (congrArg some hres)) rfl dX5_weary_42
theorem c_X5_weary {l : Launch} {E : En} {mk : Mem → Mem} (hmk : MK mk sdM) (x1 : Int32) (x2 : Int32)  {σ : Mem} {r : Int32} {τ : Mem} (h : f_X5_weary x1 x2 σ = some (r, τ)) : Met l yX5_weary (Cond.code yX5_weary cX5_weary 3 (some .int) :: wt) rm_X5_weary (PW E mk [.ref (eA E 50), .int x1, .int x2] σ) (QI E mk r τ) 0 0 (WA E) :=
  met_i (fun E => [.ref (eA E 50), .int x1, .int x2]) (by decide) hmk (Nat.le_of_ble_eq_true rfl) (fun X o hr => w_X5_weary rfl o hr x1 x2  h)
set_option maxRecDepth 100000 in
set_option maxHeartbeats 4000000 in
theorem w_X5_saved {X : Cx} {l : Launch} {r : Int32} {σr : Mem} {res : Int32 × Mem} (hres : res = (r, σr)) (o : OK X cX5_saved RX5 sdM 2 rm_X5_saved l) (hr : RI X .int r σr) (x1 : Int32)  {σ : Mem} (h : f_X5_saved x1 σ = some res) : G X σ 0 [(0, .ref (eA (xE X) 50)), (1, .int x1)] [] := by
  unfold f_X5_saved at h
  refine g_iload_n o (q := 1) 1 rfl rfl dX5_saved_0 rfl ?_
  refine g_iconst o (v := 0) (q := 2) (by decide) dX5_saved_1 rfl ?_
  refine g_sipush o (v := 900) (q := 5) (by decide) dX5_saved_2 rfl ?_
  refine g_csi o (q := 8) (As := [.int x1, .int 0, .int 900]) (rest := []) kv_X5_within lk_X5_70 rfl (fun _ _ hc => c_X5_within o.mk x1 0 900 hc) dX5_saved_5 rfl ⟨rfl, rfl, Nat.le_of_ble_eq_true rfl, Nat.le_of_ble_eq_true rfl⟩ (Nat.le_of_ble_eq_true rfl) rfl h (fun r22 σ21 h => ?_)
  refine g_if_eq o (tgt := 27) (q := 11) dX5_saved_8 (by decide) rfl h (fun h => ?_) (fun h => ?_)
  · refine g_aload_n o (q := 28) 0 rfl rfl dX5_saved_27 rfl ?_
    refine g_ldc o (q := 30) lk_X5_60 dX5_saved_28 rfl ?_
    refine g_cvi o (q := 33) (As := [.int (-1000001)]) (rest := []) kv_X5_finding lk_X5_66 kM_50 (by decide) rfl rfl rfl (fun _ _ hc => c_X5_finding o.mk (-1000001) hc) dX5_saved_30 rfl ⟨rfl, rfl, Nat.le_of_ble_eq_true rfl, Nat.le_of_ble_eq_true rfl⟩ (Nat.le_of_ble_eq_true rfl) rfl h (fun r24 σ23 h => ?_)
    exact g_iret o hr (h.trans (congrArg some hres)) rfl dX5_saved_33
  · refine g_aload_n o (q := 12) 0 rfl rfl dX5_saved_11 rfl ?_
    refine g_aload_n o (q := 13) 0 rfl rfl dX5_saved_12 rfl ?_
    refine g_iconst o (v := 5) (q := 14) (by decide) dX5_saved_13 rfl ?_
    refine g_iload_n o (q := 15) 1 rfl rfl dX5_saved_14 rfl ?_
    refine g_sipush o (v := 900) (q := 18) (by decide) dX5_saved_15 rfl ?_
    refine g_cvi o (q := 21) (As := [.int 5, .int x1, .int 900]) (rest := [.ref (eA (xE X) 50)]) kv_X5_beatsTo lk_X5_188 kM_50 (by decide) rfl rfl rfl (fun _ _ hc => c_X5_beatsTo o.mk 5 x1 900 hc) dX5_saved_18 rfl ⟨rfl, rfl, Nat.le_of_ble_eq_true rfl, Nat.le_of_ble_eq_true rfl⟩ (Nat.le_of_ble_eq_true rfl) rfl h (fun r26 σ25 h => ?_)
    refine g_cvi o (q := 24) (As := [.int r26]) (rest := []) kv_X5_orNone lk_X5_192 kM_50 (by decide) rfl rfl rfl (fun _ _ hc => c_X5_orNone o.mk r26 hc) dX5_saved_21 rfl ⟨rfl, rfl, Nat.le_of_ble_eq_true rfl, Nat.le_of_ble_eq_true rfl⟩ (Nat.le_of_ble_eq_true rfl) rfl h (fun r28 σ27 h => ?_)
    refine g_goto o (tgt := 33) dX5_saved_24 (by decide) ?_
    exact g_iret o hr (h.trans (congrArg some hres)) rfl dX5_saved_33
theorem c_X5_saved {l : Launch} {E : En} {mk : Mem → Mem} (hmk : MK mk sdM) (x1 : Int32)  {σ : Mem} {r : Int32} {τ : Mem} (h : f_X5_saved x1 σ = some (r, τ)) : Met l yX5_saved (Cond.code yX5_saved cX5_saved 2 (some .int) :: wt) rm_X5_saved (PW E mk [.ref (eA E 50), .int x1] σ) (QI E mk r τ) 0 0 (WA E) :=
  met_i (fun E => [.ref (eA E 50), .int x1]) (by decide) hmk (Nat.le_of_ble_eq_true rfl) (fun X o hr => w_X5_saved rfl o hr x1  h)
set_option maxRecDepth 100000 in
set_option maxHeartbeats 4000000 in
theorem w_X5_isThought {X : Cx} {l : Launch} {r : Int32} {σr : Mem} {res : Int32 × Mem} (hres : res = (r, σr)) (o : OK X cX5_isThought RX5 sdM 1 rm_X5_isThought l) (hr : RI X .boolean r σr) (x0 : Int32)  {σ : Mem} (h : f_X5_isThought x0 σ = some res) : G X σ 0 [(0, .int x0)] [] := by
  unfold f_X5_isThought at h
  refine g_iload_n o (q := 1) 0 rfl rfl dX5_isThought_0 rfl ?_
  refine g_iconst o (v := 0) (q := 2) (by decide) dX5_isThought_1 rfl ?_
  refine g_bipush o (v := 60) (q := 4) (by decide) dX5_isThought_2 rfl ?_
  refine g_csi o (q := 7) (As := [.int x0, .int 0, .int 60]) (rest := []) kv_X5_within lk_X5_70 rfl (fun _ _ hc => c_X5_within o.mk x0 0 60 hc) dX5_isThought_4 rfl ⟨rfl, rfl, Nat.le_of_ble_eq_true rfl, Nat.le_of_ble_eq_true rfl⟩ (Nat.le_of_ble_eq_true rfl) rfl h (fun r22 σ21 h => ?_)
  obtain ⟨hb, h⟩ := vB_some h
  exact g_iret o hr (h.trans (congrArg some hres)) (by rcases hb with hb | hb <;> rw [hb] <;> rfl) dX5_isThought_7
theorem c_X5_isThought {l : Launch} {E : En} {mk : Mem → Mem} (hmk : MK mk sdM) (x0 : Int32)  {σ : Mem} {r : Int32} {τ : Mem} (h : f_X5_isThought x0 σ = some (r, τ)) : Met l yX5_isThought (Cond.code yX5_isThought cX5_isThought 1 (some .boolean) :: wt) rm_X5_isThought (PW E mk [.int x0] σ) (QI E mk r τ) 0 0 (WA E) :=
  met_i (fun E => [.int x0]) (by decide) hmk (Nat.le_of_ble_eq_true rfl) (fun X o hr => w_X5_isThought rfl o hr x0  h)
set_option maxRecDepth 100000 in
set_option maxHeartbeats 4000000 in
theorem w_X5_sceneFor_J14 {X : Cx} {l : Launch} {r : Int32} {σr : Mem} {res : Int32 × Mem} (hres : res = (r, σr)) (o : OK X cX5_sceneFor RX5 sdM 8 rm_X5_sceneFor l) (hr : RI X .int r σr)     {σ : Mem} (h : f_X5_sceneFor_J14   σ = some res) : G X σ 14 [(0, .ref (eA (xE X) 50))] [] := by
  unfold f_X5_sceneFor_J14 at h
  refine g_aload_n o (q := 15) 0 rfl rfl dX5_sceneFor_14 rfl ?_
  refine g_ldc o (q := 17) lk_X5_60 dX5_sceneFor_15 rfl ?_
  refine g_cvi o (q := 20) (As := [.int (-1000001)]) (rest := []) kv_X5_finding lk_X5_66 kM_50 (by decide) rfl rfl rfl (fun _ _ hc => c_X5_finding o.mk (-1000001) hc) dX5_sceneFor_17 rfl ⟨rfl, rfl, Nat.le_of_ble_eq_true rfl, Nat.le_of_ble_eq_true rfl⟩ (Nat.le_of_ble_eq_true rfl) rfl h (fun r24 σ23 h => ?_)
  exact g_iret o hr (h.trans (congrArg some hres)) rfl dX5_sceneFor_20
set_option maxRecDepth 100000 in
set_option maxHeartbeats 4000000 in
theorem w_X5_sceneFor_J82 {X : Cx} {l : Launch} {r : Int32} {σr : Mem} {res : Int32 × Mem} (hres : res = (r, σr)) (o : OK X cX5_sceneFor RX5 sdM 8 rm_X5_sceneFor l) (hr : RI X .int r σr) {k41 : Int32 → Int32 → Int32 → Int32 → Int32 → Int32 → Mem → Option (Int32 × Mem)} (hk41 : ∀ (y1 : Int32) (y2 : Int32) (y3 : Int32) (y4 : Int32) (y5 : Int32) (y6 : Int32) (σ : Mem), k41 y1 y2 y3 y4 y5 y6 σ = some res → G X σ 41 [(0, .ref (eA (xE X) 50)), (1, .int y1), (2, .int y2), (3, .int y3), (4, .int y4), (5, .int y5), (6, .int y6)] []) {y1 : Int32} {y2 : Int32} {y3 : Int32} {y4 : Int32} {y5 : Int32} {y6 : Int32}  {σ : Mem} (h : f_X5_sceneFor_J82 k41 y1 y2 y3 y4 y5 y6 σ = some res) : G X σ 82 [(0, .ref (eA (xE X) 50)), (1, .int y1), (2, .int y2), (3, .int y3), (4, .int y4), (5, .int y5), (6, .int y6)] [] := by
  unfold f_X5_sceneFor_J82 at h
  refine g_iinc o (q := 85) (dn := 1) dX5_sceneFor_82 rfl 6 rfl (by decide) (by decide) h (fun x39 => [(6, .int x39), (0, .ref (eA (xE X) 50)), (1, .int y1), (2, .int y2), (3, .int y3), (4, .int y4), (5, .int y5)]) (fun _ => rfl) (fun x39 h => ?_)
  refine g_goto o (tgt := 41) dX5_sceneFor_85 (by decide) ?_
  refine g_sub (lv' := [(0, .ref (eA (xE X) 50)), (1, .int y1), (2, .int y2), (3, .int y3), (4, .int y4), (5, .int y5), (6, .int x39)]) [1, 2, 3, 4, 5, 6, 0] rfl ?_
  exact hk41 y1 y2 y3 y4 y5 x39 σ  h
set_option maxRecDepth 100000 in
set_option maxHeartbeats 4000000 in
theorem w_X5_sceneFor_L41 {X : Cx} {l : Launch} {r : Int32} {σr : Mem} {res : Int32 × Mem} (hres : res = (r, σr)) (o : OK X cX5_sceneFor RX5 sdM 8 rm_X5_sceneFor l) (hr : RI X .int r σr)   : ∀ (n : Nat) (y1 : Int32) (y2 : Int32) (y3 : Int32) (y4 : Int32) (y5 : Int32) (y6 : Int32) (σ : Mem), f_X5_sceneFor_L41  n y1 y2 y3 y4 y5 y6 σ = some res → G X σ 41 [(0, .ref (eA (xE X) 50)), (1, .int y1), (2, .int y2), (3, .int y3), (4, .int y4), (5, .int y5), (6, .int y6)] [] := by
  intro n
  induction n with
  | zero => intro y1 y2 y3 y4 y5 y6 σ  h; cases h
  | succ n ih =>
    intro y1 y2 y3 y4 y5 y6 σ  h
    rw [f_X5_sceneFor_L41_s] at h
    refine g_iload o (q := 43) 6 rfl dX5_sceneFor_41 rfl ?_
    refine g_bipush o (v := 12) (q := 45) (by decide) dX5_sceneFor_43 rfl ?_
    refine g_icmp_ge o (tgt := 88) (q := 48) dX5_sceneFor_45 (by decide) rfl h (fun h => ?_) (fun h => ?_)
    · refine g_aload_n o (q := 89) 0 rfl rfl dX5_sceneFor_88 rfl ?_
      refine gf_X5_0 o (q := 92) kM_50 lk_X5_9 dX5_sceneFor_89 rfl ?_
      refine g_bipush o (v := 6) (q := 94) (by decide) dX5_sceneFor_92 rfl ?_
      refine g_iload_n o (q := 95) 1 rfl rfl dX5_sceneFor_94 rfl ?_
      refine g_iadd o (q := 96) dX5_sceneFor_95 rfl ?_
      refine g_iload_n o (q := 97) 3 rfl rfl dX5_sceneFor_96 rfl ?_
      refine g_iast o (q := 98) kM_51 dX5_sceneFor_97 rfl h (fun j32 σ33 h => ?_)
      refine g_iload o (q := 100) 4 rfl dX5_sceneFor_98 rfl ?_
      exact g_iret o hr (h.trans (congrArg some hres)) rfl dX5_sceneFor_100
    · refine g_aload_n o (q := 49) 0 rfl rfl dX5_sceneFor_48 rfl ?_
      refine gf_X5_0 o (q := 52) kM_50 lk_X5_9 dX5_sceneFor_49 rfl ?_
      refine g_bipush o (v := 6) (q := 54) (by decide) dX5_sceneFor_52 rfl ?_
      refine g_iload_n o (q := 55) 1 rfl rfl dX5_sceneFor_54 rfl ?_
      refine g_iadd o (q := 56) dX5_sceneFor_55 rfl ?_
      refine g_iload o (q := 58) 6 rfl dX5_sceneFor_56 rfl ?_
      refine g_iast o (q := 59) kM_51 dX5_sceneFor_58 rfl h (fun j34 σ35 h => ?_)
      refine g_aload_n o (q := 60) 0 rfl rfl dX5_sceneFor_59 rfl ?_
      refine g_iconst o (v := 4) (q := 61) (by decide) dX5_sceneFor_60 rfl ?_
      refine g_iload_n o (q := 62) 2 rfl rfl dX5_sceneFor_61 rfl ?_
      refine g_cvi o (q := 65) (As := [.int 4, .int y2]) (rest := []) kv_X5_behind lk_X5_185 kM_50 (by decide) rfl rfl rfl (fun _ _ hc => c_X5_behind o.mk 4 y2 hc) dX5_sceneFor_62 rfl ⟨rfl, rfl, Nat.le_of_ble_eq_true rfl, Nat.le_of_ble_eq_true rfl⟩ (Nat.le_of_ble_eq_true rfl) rfl h (fun r37 σ36 h => ?_)
      refine g_istore o (q := 67) dX5_sceneFor_65 rfl (by decide) h (fun x38 => [(7, .int x38), (0, .ref (eA (xE X) 50)), (1, .int y1), (2, .int y2), (3, .int y3), (4, .int y4), (5, .int y5), (6, .int y6)]) (fun _ => rfl) (fun x38 h => ?_)
      refine g_iload o (q := 69) 0 rfl dX5_sceneFor_67 rfl ?_
      refine g_iload o (q := 71) 6 rfl dX5_sceneFor_69 rfl ?_
      refine g_icmp_ge o (tgt := 82) (q := 74) dX5_sceneFor_71 (by decide) rfl h (fun h => ?_) (fun h => ?_)
      · refine g_sub (lv' := [(0, .ref (eA (xE X) 50)), (1, .int y1), (2, .int y2), (3, .int y3), (4, .int y4), (5, .int y5), (6, .int y6)]) [1, 2, 3, 4, 5, 6, 7] rfl ?_
        exact w_X5_sceneFor_J82 hres o hr ih  h
      · refine g_iload o (q := 76) 7 rfl dX5_sceneFor_74 rfl ?_
        refine g_istore o (q := 78) dX5_sceneFor_76 rfl (by decide) h (fun x40 => [(4, .int x40), (7, .int x38), (0, .ref (eA (xE X) 50)), (1, .int y1), (2, .int y2), (3, .int y3), (5, .int y5), (6, .int y6)]) (fun _ => rfl) (fun x40 h => ?_)
        refine g_iload o (q := 80) 1 rfl dX5_sceneFor_78 rfl ?_
        refine g_istore o (q := 82) dX5_sceneFor_80 rfl (by decide) h (fun x41 => [(5, .int x41), (4, .int x40), (7, .int x38), (0, .ref (eA (xE X) 50)), (1, .int y1), (2, .int y2), (3, .int y3), (6, .int y6)]) (fun _ => rfl) (fun x41 h => ?_)
        refine g_sub (lv' := [(0, .ref (eA (xE X) 50)), (1, .int y1), (2, .int y2), (3, .int y3), (4, .int x40), (5, .int x41), (6, .int y6)]) [3, 4, 5, 6, 1, 0, 7] rfl ?_
        exact w_X5_sceneFor_J82 hres o hr ih  h
set_option maxRecDepth 100000 in
set_option maxHeartbeats 4000000 in
theorem w_X5_sceneFor {X : Cx} {l : Launch} {r : Int32} {σr : Mem} {res : Int32 × Mem} (hres : res = (r, σr)) (o : OK X cX5_sceneFor RX5 sdM 8 rm_X5_sceneFor l) (hr : RI X .int r σr) (x1 : Int32) (x2 : Int32)  {σ : Mem} (h : f_X5_sceneFor x1 x2 σ = some res) : G X σ 0 [(0, .ref (eA (xE X) 50)), (1, .int x1), (2, .int x2)] [] := by
  unfold f_X5_sceneFor at h
  refine g_iload_n o (q := 1) 1 rfl rfl dX5_sceneFor_0 rfl ?_
  refine g_csi o (q := 4) (As := [.int x1]) (rest := []) kv_X5_isPlace lk_X5_78 rfl (fun _ _ hc => c_X5_isPlace o.mk x1 hc) dX5_sceneFor_1 rfl ⟨rfl, rfl, Nat.le_of_ble_eq_true rfl, Nat.le_of_ble_eq_true rfl⟩ (Nat.le_of_ble_eq_true rfl) rfl h (fun r22 σ21 h => ?_)
  refine g_if_eq o (tgt := 14) (q := 7) dX5_sceneFor_4 (by decide) rfl h (fun h => ?_) (fun h => ?_)
  · refine g_sub (lv' := [(0, .ref (eA (xE X) 50))]) [0] rfl ?_
    exact w_X5_sceneFor_J14 hres o hr   h
  · refine g_iload_n o (q := 8) 2 rfl rfl dX5_sceneFor_7 rfl ?_
    refine g_csi o (q := 11) (As := [.int x2]) (rest := []) kv_X5_isThought lk_X5_195 rfl (fun _ _ hc => c_X5_isThought o.mk x2 hc) dX5_sceneFor_8 rfl ⟨rfl, rfl, Nat.le_of_ble_eq_true rfl, Nat.le_of_ble_eq_true rfl⟩ (Nat.le_of_ble_eq_true rfl) rfl h (fun r26 σ25 h => ?_)
    refine g_if_ne o (tgt := 21) (q := 14) dX5_sceneFor_11 (by decide) rfl h (fun h => ?_) (fun h => ?_)
    · refine g_aload_n o (q := 22) 0 rfl rfl dX5_sceneFor_21 rfl ?_
      refine gf_X5_0 o (q := 25) kM_50 lk_X5_9 dX5_sceneFor_22 rfl ?_
      refine g_bipush o (v := 6) (q := 27) (by decide) dX5_sceneFor_25 rfl ?_
      refine g_iload_n o (q := 28) 1 rfl rfl dX5_sceneFor_27 rfl ?_
      refine g_iadd o (q := 29) dX5_sceneFor_28 rfl ?_
      refine g_iald o (q := 30) kM_51 dX5_sceneFor_29 rfl h (fun j27 hjj27 h => ?_)
      refine g_istore_n o (q := 31) dX5_sceneFor_30 rfl rfl (by decide) h (fun x28 => [(3, .int x28), (0, .ref (eA (xE X) 50)), (1, .int x1), (2, .int x2)]) (fun _ => rfl) (fun x28 h => ?_)
      refine g_iconst o (v := 0) (q := 32) (by decide) dX5_sceneFor_31 rfl ?_
      refine g_istore o (q := 34) dX5_sceneFor_32 rfl (by decide) h (fun x29 => [(4, .int x29), (3, .int x28), (0, .ref (eA (xE X) 50)), (1, .int x1), (2, .int x2)]) (fun _ => rfl) (fun x29 h => ?_)
      refine g_ldc o (q := 36) lk_X5_198 dX5_sceneFor_34 rfl ?_
      refine g_istore o (q := 38) dX5_sceneFor_36 rfl (by decide) h (fun x30 => [(5, .int x30), (4, .int x29), (3, .int x28), (0, .ref (eA (xE X) 50)), (1, .int x1), (2, .int x2)]) (fun _ => rfl) (fun x30 h => ?_)
      refine g_iconst o (v := 0) (q := 39) (by decide) dX5_sceneFor_38 rfl ?_
      refine g_istore o (q := 41) dX5_sceneFor_39 rfl (by decide) h (fun x31 => [(6, .int x31), (5, .int x30), (4, .int x29), (3, .int x28), (0, .ref (eA (xE X) 50)), (1, .int x1), (2, .int x2)]) (fun _ => rfl) (fun x31 h => ?_)
      refine g_sub (lv' := [(0, .ref (eA (xE X) 50)), (1, .int x1), (2, .int x2), (3, .int x28), (4, .int x29), (5, .int x30), (6, .int x31)]) [4, 5, 6, 3, 2, 1, 0] rfl ?_
      exact w_X5_sceneFor_L41 hres o hr  FU x1 x2 x28 x29 x30 x31 σ25  h
    · refine g_sub (lv' := [(0, .ref (eA (xE X) 50))]) [0] rfl ?_
      exact w_X5_sceneFor_J14 hres o hr   h
theorem c_X5_sceneFor {l : Launch} {E : En} {mk : Mem → Mem} (hmk : MK mk sdM) (x1 : Int32) (x2 : Int32)  {σ : Mem} {r : Int32} {τ : Mem} (h : f_X5_sceneFor x1 x2 σ = some (r, τ)) : Met l yX5_sceneFor (Cond.code yX5_sceneFor cX5_sceneFor 8 (some .int) :: wt) rm_X5_sceneFor (PW E mk [.ref (eA E 50), .int x1, .int x2] σ) (QI E mk r τ) 0 0 (WA E) :=
  met_i (fun E => [.ref (eA E 50), .int x1, .int x2]) (by decide) hmk (Nat.le_of_ble_eq_true rfl) (fun X o hr => w_X5_sceneFor rfl o hr x1 x2  h)
