set_option maxRecDepth 100000 in
set_option maxHeartbeats 4000000 in
theorem w_J6_bitCount_0f7a4 {X : Cx} {l : Launch} {sd : Nat → Prop} {r : Int32} {σr : Mem} {res : Int32 × Mem} (hres : res = (r, σr)) (o : OK X cJ6_bitCount_0f7a4 RJ6 sd 1 rm_J6_bitCount_0f7a4 l) (hr : RI X .int r σr) (x0 : Int32)  {σ : Mem} (h : f_J6_bitCount_0f7a4 x0 σ = some res) : G X σ 0 [(0, .int x0)] [] := by
  unfold f_J6_bitCount_0f7a4 at h
  refine g_iload_n o (q := 1) 0 rfl rfl dJ6_bitCount_0f7a4_0 rfl ?_
  refine g_iload_n o (q := 2) 0 rfl rfl dJ6_bitCount_0f7a4_1 rfl ?_
  refine g_iconst o (v := 1) (q := 3) (by decide) dJ6_bitCount_0f7a4_2 rfl ?_
  refine g_iushr o (q := 4) dJ6_bitCount_0f7a4_3 rfl ?_
  refine g_ldcw o (q := 7) lk_J6_265 dJ6_bitCount_0f7a4_4 rfl ?_
  refine g_iand o (q := 8) dJ6_bitCount_0f7a4_7 rfl ?_
  refine g_isub o (q := 9) dJ6_bitCount_0f7a4_8 rfl ?_
  refine g_istore_n o (q := 10) dJ6_bitCount_0f7a4_9 rfl rfl (by decide) h (fun x21 => [(0, .int x21)]) (fun _ => rfl) (fun x21 h => ?_)
  refine g_iload_n o (q := 11) 0 rfl rfl dJ6_bitCount_0f7a4_10 rfl ?_
  refine g_ldcw o (q := 14) lk_J6_266 dJ6_bitCount_0f7a4_11 rfl ?_
  refine g_iand o (q := 15) dJ6_bitCount_0f7a4_14 rfl ?_
  refine g_iload_n o (q := 16) 0 rfl rfl dJ6_bitCount_0f7a4_15 rfl ?_
  refine g_iconst o (v := 2) (q := 17) (by decide) dJ6_bitCount_0f7a4_16 rfl ?_
  refine g_iushr o (q := 18) dJ6_bitCount_0f7a4_17 rfl ?_
  refine g_ldcw o (q := 21) lk_J6_266 dJ6_bitCount_0f7a4_18 rfl ?_
  refine g_iand o (q := 22) dJ6_bitCount_0f7a4_21 rfl ?_
  refine g_iadd o (q := 23) dJ6_bitCount_0f7a4_22 rfl ?_
  refine g_istore_n o (q := 24) dJ6_bitCount_0f7a4_23 rfl rfl (by decide) h (fun x22 => [(0, .int x22)]) (fun _ => rfl) (fun x22 h => ?_)
  refine g_iload_n o (q := 25) 0 rfl rfl dJ6_bitCount_0f7a4_24 rfl ?_
  refine g_iload_n o (q := 26) 0 rfl rfl dJ6_bitCount_0f7a4_25 rfl ?_
  refine g_iconst o (v := 4) (q := 27) (by decide) dJ6_bitCount_0f7a4_26 rfl ?_
  refine g_iushr o (q := 28) dJ6_bitCount_0f7a4_27 rfl ?_
  refine g_iadd o (q := 29) dJ6_bitCount_0f7a4_28 rfl ?_
  refine g_ldcw o (q := 32) lk_J6_267 dJ6_bitCount_0f7a4_29 rfl ?_
  refine g_iand o (q := 33) dJ6_bitCount_0f7a4_32 rfl ?_
  refine g_istore_n o (q := 34) dJ6_bitCount_0f7a4_33 rfl rfl (by decide) h (fun x23 => [(0, .int x23)]) (fun _ => rfl) (fun x23 h => ?_)
  refine g_iload_n o (q := 35) 0 rfl rfl dJ6_bitCount_0f7a4_34 rfl ?_
  refine g_iload_n o (q := 36) 0 rfl rfl dJ6_bitCount_0f7a4_35 rfl ?_
  refine g_bipush o (v := 8) (q := 38) (by decide) dJ6_bitCount_0f7a4_36 rfl ?_
  refine g_iushr o (q := 39) dJ6_bitCount_0f7a4_38 rfl ?_
  refine g_iadd o (q := 40) dJ6_bitCount_0f7a4_39 rfl ?_
  refine g_istore_n o (q := 41) dJ6_bitCount_0f7a4_40 rfl rfl (by decide) h (fun x24 => [(0, .int x24)]) (fun _ => rfl) (fun x24 h => ?_)
  refine g_iload_n o (q := 42) 0 rfl rfl dJ6_bitCount_0f7a4_41 rfl ?_
  refine g_iload_n o (q := 43) 0 rfl rfl dJ6_bitCount_0f7a4_42 rfl ?_
  refine g_bipush o (v := 16) (q := 45) (by decide) dJ6_bitCount_0f7a4_43 rfl ?_
  refine g_iushr o (q := 46) dJ6_bitCount_0f7a4_45 rfl ?_
  refine g_iadd o (q := 47) dJ6_bitCount_0f7a4_46 rfl ?_
  refine g_istore_n o (q := 48) dJ6_bitCount_0f7a4_47 rfl rfl (by decide) h (fun x25 => [(0, .int x25)]) (fun _ => rfl) (fun x25 h => ?_)
  refine g_iload_n o (q := 49) 0 rfl rfl dJ6_bitCount_0f7a4_48 rfl ?_
  refine g_bipush o (v := 63) (q := 51) (by decide) dJ6_bitCount_0f7a4_49 rfl ?_
  refine g_iand o (q := 52) dJ6_bitCount_0f7a4_51 rfl ?_
  exact g_iret o hr (h.trans (congrArg some hres)) rfl dJ6_bitCount_0f7a4_52
theorem c_J6_bitCount_0f7a4 {l : Launch} {E : En} {mk : Mem → Mem} {sd : Nat → Prop} (hmk : MK mk sd) (x0 : Int32)  {σ : Mem} {r : Int32} {τ : Mem} (h : f_J6_bitCount_0f7a4 x0 σ = some (r, τ)) : Met l yJ6_bitCount_0f7a4 (Cond.code yJ6_bitCount_0f7a4 cJ6_bitCount_0f7a4 1 (some .int) :: wt) rm_J6_bitCount_0f7a4 (PW E mk [.int x0] σ) (QI E mk r τ) 0 0 (WA E) :=
  met_i (fun E => [.int x0]) (by decide) hmk (Nat.le_of_ble_eq_true rfl) (fun X o hr => w_J6_bitCount_0f7a4 rfl o hr x0  h)
set_option maxRecDepth 100000 in
set_option maxHeartbeats 4000000 in
theorem w_X0_beNew {X : Cx} {l : Launch} {u : Unit} {σr : Mem} {res : Unit × Mem} (hres : res = (u, σr)) (o : OK X cX0_beNew RX0 sdC 2 rm_X0_beNew l) (hr : RV X σr) (a0 : Nat) (x1 : Int32) (h0 : kd sdC a0 0) {σ : Mem} (h : f_X0_beNew a0 x1 σ = some res) : G X σ 0 [(0, .ref (eA (xE X) a0)), (1, .int x1)] [] := by
  unfold f_X0_beNew at h
  refine g_aload_n o (q := 1) 0 rfl rfl dX0_beNew_0 rfl ?_
  refine g_iload_n o (q := 2) 1 rfl rfl dX0_beNew_1 rfl ?_
  refine gp_X0_0 o (q := 5) h0 lk_X0_9 dX0_beNew_2 rfl h (fun σ21 h => ?_)
  refine g_aload_n o (q := 6) 0 rfl rfl dX0_beNew_5 rfl ?_
  refine g_bipush o (v := 60) (q := 8) (by decide) dX0_beNew_6 rfl ?_
  refine gp_X0_1 o (q := 11) h0 lk_X0_15 dX0_beNew_8 rfl h (fun σ22 h => ?_)
  refine g_aload_n o (q := 12) 0 rfl rfl dX0_beNew_11 rfl ?_
  refine g_iconst o (v := 0) (q := 13) (by decide) dX0_beNew_12 rfl ?_
  refine gp_X0_2 o (q := 16) h0 lk_X0_18 dX0_beNew_13 rfl h (fun σ23 h => ?_)
  refine g_aload_n o (q := 17) 0 rfl rfl dX0_beNew_16 rfl ?_
  refine g_bipush o (v := 20) (q := 19) (by decide) dX0_beNew_17 rfl ?_
  refine gp_X0_3 o (q := 22) h0 lk_X0_21 dX0_beNew_19 rfl h (fun σ24 h => ?_)
  refine g_aload_n o (q := 23) 0 rfl rfl dX0_beNew_22 rfl ?_
  refine g_iconst o (v := 0) (q := 24) (by decide) dX0_beNew_23 rfl ?_
  refine gp_X0_4 o (q := 27) h0 lk_X0_24 dX0_beNew_24 rfl h (fun σ25 h => ?_)
  refine g_aload_n o (q := 28) 0 rfl rfl dX0_beNew_27 rfl ?_
  refine g_iconst o (v := 0) (q := 29) (by decide) dX0_beNew_28 rfl ?_
  refine gp_X0_5 o (q := 32) h0 lk_X0_27 dX0_beNew_29 rfl h (fun σ26 h => ?_)
  exact g_vret o hr (h.trans (congrArg some hres)) dX0_beNew_32
theorem c_X0_beNew {l : Launch} {E : En} {mk : Mem → Mem} (hmk : MK mk sdC) (a0 : Nat) (x1 : Int32) (h0 : kd sdC a0 0) {σ : Mem} {r : Unit} {τ : Mem} (h : f_X0_beNew a0 x1 σ = some (r, τ)) : Met l yX0_beNew (Cond.code yX0_beNew cX0_beNew 2 none :: wt) rm_X0_beNew (PW E mk [.ref (eA E a0), .int x1] σ) (QV E mk τ) 0 0 (WA E) :=
  met_v (fun E => [.ref (eA E a0), .int x1]) (by decide) hmk (Nat.le_of_ble_eq_true rfl) (fun X o hr => w_X0_beNew rfl o hr a0 x1 h0 h)
set_option maxRecDepth 100000 in
set_option maxHeartbeats 4000000 in
theorem w_X0_take {X : Cx} {l : Launch} {u : Unit} {σr : Mem} {res : Unit × Mem} (hres : res = (u, σr)) (o : OK X cX0_take RX0 sdC 2 rm_X0_take l) (hr : RV X σr) (a0 : Nat) (a1 : Nat) (h0 : kd sdC a0 0) (h1 : kd sdC a1 0) {σ : Mem} (h : f_X0_take a0 a1 σ = some res) : G X σ 0 [(0, .ref (eA (xE X) a0)), (1, .ref (eA (xE X) a1))] [] := by
  unfold f_X0_take at h
  refine g_aload_n o (q := 1) 0 rfl rfl dX0_take_0 rfl ?_
  refine g_aload_n o (q := 2) 1 rfl rfl dX0_take_1 rfl ?_
  refine gf_X0_0 o (q := 5) h1 lk_X0_9 dX0_take_2 rfl ?_
  refine gp_X0_0 o (q := 8) h0 lk_X0_9 dX0_take_5 rfl h (fun σ21 h => ?_)
  refine g_aload_n o (q := 9) 0 rfl rfl dX0_take_8 rfl ?_
  refine g_aload_n o (q := 10) 1 rfl rfl dX0_take_9 rfl ?_
  refine gf_X0_1 o (q := 13) h1 lk_X0_15 dX0_take_10 rfl ?_
  refine gp_X0_1 o (q := 16) h0 lk_X0_15 dX0_take_13 rfl h (fun σ22 h => ?_)
  refine g_aload_n o (q := 17) 0 rfl rfl dX0_take_16 rfl ?_
  refine g_aload_n o (q := 18) 1 rfl rfl dX0_take_17 rfl ?_
  refine gf_X0_2 o (q := 21) h1 lk_X0_18 dX0_take_18 rfl ?_
  refine gp_X0_2 o (q := 24) h0 lk_X0_18 dX0_take_21 rfl h (fun σ23 h => ?_)
  refine g_aload_n o (q := 25) 0 rfl rfl dX0_take_24 rfl ?_
  refine g_aload_n o (q := 26) 1 rfl rfl dX0_take_25 rfl ?_
  refine gf_X0_3 o (q := 29) h1 lk_X0_21 dX0_take_26 rfl ?_
  refine gp_X0_3 o (q := 32) h0 lk_X0_21 dX0_take_29 rfl h (fun σ24 h => ?_)
  refine g_aload_n o (q := 33) 0 rfl rfl dX0_take_32 rfl ?_
  refine g_aload_n o (q := 34) 1 rfl rfl dX0_take_33 rfl ?_
  refine gf_X0_4 o (q := 37) h1 lk_X0_24 dX0_take_34 rfl ?_
  refine gp_X0_4 o (q := 40) h0 lk_X0_24 dX0_take_37 rfl h (fun σ25 h => ?_)
  refine g_aload_n o (q := 41) 0 rfl rfl dX0_take_40 rfl ?_
  refine g_aload_n o (q := 42) 1 rfl rfl dX0_take_41 rfl ?_
  refine gf_X0_5 o (q := 45) h1 lk_X0_27 dX0_take_42 rfl ?_
  refine gp_X0_5 o (q := 48) h0 lk_X0_27 dX0_take_45 rfl h (fun σ26 h => ?_)
  exact g_vret o hr (h.trans (congrArg some hres)) dX0_take_48
theorem c_X0_take {l : Launch} {E : En} {mk : Mem → Mem} (hmk : MK mk sdC) (a0 : Nat) (a1 : Nat) (h0 : kd sdC a0 0) (h1 : kd sdC a1 0) {σ : Mem} {r : Unit} {τ : Mem} (h : f_X0_take a0 a1 σ = some (r, τ)) : Met l yX0_take (Cond.code yX0_take cX0_take 2 none :: wt) rm_X0_take (PW E mk [.ref (eA E a0), .ref (eA E a1)] σ) (QV E mk τ) 0 0 (WA E) :=
  met_v (fun E => [.ref (eA E a0), .ref (eA E a1)]) (by decide) hmk (Nat.le_of_ble_eq_true rfl) (fun X o hr => w_X0_take rfl o hr a0 a1 h0 h1 h)
set_option maxRecDepth 100000 in
set_option maxHeartbeats 4000000 in
theorem w_X0_gladdens {X : Cx} {l : Launch} {r : Int32} {σr : Mem} {res : Int32 × Mem} (hres : res = (r, σr)) (o : OK X cX0_gladdens RX0 sdC 1 rm_X0_gladdens l) (hr : RI X .int r σr) (a0 : Nat) (h0 : kd sdC a0 0) {σ : Mem} (h : f_X0_gladdens a0 σ = some res) : G X σ 0 [(0, .ref (eA (xE X) a0))] [] := by
  unfold f_X0_gladdens at h
  refine g_aload_n o (q := 1) 0 rfl rfl dX0_gladdens_0 rfl ?_
  refine gf_X0_0 o (q := 4) h0 lk_X0_9 dX0_gladdens_1 rfl ?_
  refine g_iconst o (v := 4) (q := 5) (by decide) dX0_gladdens_4 rfl ?_
  refine g_icmp_ne o (tgt := 27) (q := 8) dX0_gladdens_5 (by decide) rfl h (fun h => ?_) (fun h => ?_)
  · refine g_getsN o (q := 30) 0 (by decide) (by decide +kernel) dX0_gladdens_27 rfl ?_
    refine g_aload_n o (q := 31) 0 rfl rfl dX0_gladdens_30 rfl ?_
    refine gf_X0_0 o (q := 34) h0 lk_X0_9 dX0_gladdens_31 rfl ?_
    refine g_tild o (q := 35) 0 (by decide) rfl dX0_gladdens_34 rfl h (fun j21 hjj21 h => ?_)
    exact g_iret o hr (h.trans (congrArg some hres)) rfl dX0_gladdens_35
  · refine g_getsN o (q := 11) 0 (by decide) (by decide +kernel) dX0_gladdens_8 rfl ?_
    refine g_aload_n o (q := 12) 0 rfl rfl dX0_gladdens_11 rfl ?_
    refine gf_X0_0 o (q := 15) h0 lk_X0_9 dX0_gladdens_12 rfl ?_
    refine g_tild o (q := 16) 0 (by decide) rfl dX0_gladdens_15 rfl h (fun j22 hjj22 h => ?_)
    refine g_aload_n o (q := 17) 0 rfl rfl dX0_gladdens_16 rfl ?_
    refine gf_X0_2 o (q := 20) h0 lk_X0_18 dX0_gladdens_17 rfl ?_
    refine g_csi o (q := 23) (As := [.int (σ a0 2)]) (rest := [.int ((sTab 0).getD j22 0)]) kv_J6_bitCount_0f7a4 lk_X0_54 rfl (fun _ _ hc => c_J6_bitCount_0f7a4 o.mk (σ a0 2) hc) dX0_gladdens_20 rfl ⟨rfl, rfl, Nat.le_of_ble_eq_true rfl, Nat.le_of_ble_eq_true rfl⟩ (Nat.le_of_ble_eq_true rfl) rfl h (fun r24 σ23 h => ?_)
    refine g_iadd o (q := 24) dX0_gladdens_23 rfl ?_
    refine g_goto o (tgt := 35) dX0_gladdens_24 (by decide) ?_
    exact g_iret o hr (h.trans (congrArg some hres)) rfl dX0_gladdens_35
theorem c_X0_gladdens {l : Launch} {E : En} {mk : Mem → Mem} (hmk : MK mk sdC) (a0 : Nat) (h0 : kd sdC a0 0) {σ : Mem} {r : Int32} {τ : Mem} (h : f_X0_gladdens a0 σ = some (r, τ)) : Met l yX0_gladdens (Cond.code yX0_gladdens cX0_gladdens 1 (some .int) :: wt) rm_X0_gladdens (PW E mk [.ref (eA E a0)] σ) (QI E mk r τ) 0 0 (WA E) :=
  met_i (fun E => [.ref (eA E a0)]) (by decide) hmk (Nat.le_of_ble_eq_true rfl) (fun X o hr => w_X0_gladdens rfl o hr a0 h0 h)
set_option maxRecDepth 100000 in
set_option maxHeartbeats 4000000 in
theorem w_X0_tires_J34 {X : Cx} {l : Launch} {r : Int32} {σr : Mem} {res : Int32 × Mem} (hres : res = (r, σr)) (o : OK X cX0_tires RX0 sdC 2 rm_X0_tires l) (hr : RI X .int r σr)   {b0 : Nat} {y1 : Int32} (g0 : kd sdC b0 0) {σ : Mem} (h : f_X0_tires_J34  b0 y1 σ = some res) : G X σ 34 [(0, .ref (eA (xE X) b0)), (1, .int y1)] [] := by
  unfold f_X0_tires_J34 at h
  refine g_getsN o (q := 37) 1 (by decide) (by decide +kernel) dX0_tires_34 rfl ?_
  refine g_aload_n o (q := 38) 0 rfl rfl dX0_tires_37 rfl ?_
  refine gf_X0_0 o (q := 41) g0 lk_X0_9 dX0_tires_38 rfl ?_
  refine g_tild o (q := 42) 1 (by decide) rfl dX0_tires_41 rfl h (fun j21 hjj21 h => ?_)
  refine g_iload_n o (q := 43) 1 rfl rfl dX0_tires_42 rfl ?_
  refine g_iconst o (v := 1) (q := 44) (by decide) dX0_tires_43 rfl ?_
  refine g_iand o (q := 45) dX0_tires_44 rfl ?_
  refine g_iadd o (q := 46) dX0_tires_45 rfl ?_
  refine g_goto o (tgt := 57) dX0_tires_46 (by decide) ?_
  exact g_iret o hr (h.trans (congrArg some hres)) rfl dX0_tires_57
set_option maxRecDepth 100000 in
set_option maxHeartbeats 4000000 in
theorem w_X0_tires_J18 {X : Cx} {l : Launch} {r : Int32} {σr : Mem} {res : Int32 × Mem} (hres : res = (r, σr)) (o : OK X cX0_tires RX0 sdC 2 rm_X0_tires l) (hr : RI X .int r σr)   {b0 : Nat} {y1 : Int32} (g0 : kd sdC b0 0) {σ : Mem} (h : f_X0_tires_J18  b0 y1 σ = some res) : G X σ 18 [(0, .ref (eA (xE X) b0)), (1, .int y1)] [] := by
  unfold f_X0_tires_J18 at h
  refine g_aload_n o (q := 19) 0 rfl rfl dX0_tires_18 rfl ?_
  refine gf_X0_0 o (q := 22) g0 lk_X0_9 dX0_tires_19 rfl ?_
  refine g_iconst o (v := 3) (q := 23) (by decide) dX0_tires_22 rfl ?_
  refine g_icmp_eq o (tgt := 34) (q := 26) dX0_tires_23 (by decide) rfl h (fun h => ?_) (fun h => ?_)
  · exact w_X0_tires_J34 hres o hr  g0 h
  · refine g_aload_n o (q := 27) 0 rfl rfl dX0_tires_26 rfl ?_
    refine gf_X0_0 o (q := 30) g0 lk_X0_9 dX0_tires_27 rfl ?_
    refine g_iconst o (v := 4) (q := 31) (by decide) dX0_tires_30 rfl ?_
    refine g_icmp_ne o (tgt := 49) (q := 34) dX0_tires_31 (by decide) rfl h (fun h => ?_) (fun h => ?_)
    · refine g_getsN o (q := 52) 1 (by decide) (by decide +kernel) dX0_tires_49 rfl ?_
      refine g_aload_n o (q := 53) 0 rfl rfl dX0_tires_52 rfl ?_
      refine gf_X0_0 o (q := 56) g0 lk_X0_9 dX0_tires_53 rfl ?_
      refine g_tild o (q := 57) 1 (by decide) rfl dX0_tires_56 rfl h (fun j22 hjj22 h => ?_)
      exact g_iret o hr (h.trans (congrArg some hres)) rfl dX0_tires_57
    · exact w_X0_tires_J34 hres o hr  g0 h
set_option maxRecDepth 100000 in
set_option maxHeartbeats 4000000 in
theorem w_X0_tires {X : Cx} {l : Launch} {r : Int32} {σr : Mem} {res : Int32 × Mem} (hres : res = (r, σr)) (o : OK X cX0_tires RX0 sdC 2 rm_X0_tires l) (hr : RI X .int r σr) (a0 : Nat) (x1 : Int32) (h0 : kd sdC a0 0) {σ : Mem} (h : f_X0_tires a0 x1 σ = some res) : G X σ 0 [(0, .ref (eA (xE X) a0)), (1, .int x1)] [] := by
  unfold f_X0_tires at h
  refine g_aload_n o (q := 1) 0 rfl rfl dX0_tires_0 rfl ?_
  refine gf_X0_0 o (q := 4) h0 lk_X0_9 dX0_tires_1 rfl ?_
  refine g_bipush o (v := 6) (q := 6) (by decide) dX0_tires_4 rfl ?_
  refine g_icmp_ne o (tgt := 18) (q := 9) dX0_tires_6 (by decide) rfl h (fun h => ?_) (fun h => ?_)
  · exact w_X0_tires_J18 hres o hr  h0 h
  · refine g_aload_n o (q := 10) 0 rfl rfl dX0_tires_9 rfl ?_
    refine gf_X0_3 o (q := 13) h0 lk_X0_21 dX0_tires_10 rfl ?_
    refine g_if_ne o (tgt := 18) (q := 16) dX0_tires_13 (by decide) rfl h (fun h => ?_) (fun h => ?_)
    · exact w_X0_tires_J18 hres o hr  h0 h
    · refine g_iconst o (v := 0) (q := 17) (by decide) dX0_tires_16 rfl ?_
      exact g_iret o hr (h.trans (congrArg some hres)) rfl dX0_tires_17
theorem c_X0_tires {l : Launch} {E : En} {mk : Mem → Mem} (hmk : MK mk sdC) (a0 : Nat) (x1 : Int32) (h0 : kd sdC a0 0) {σ : Mem} {r : Int32} {τ : Mem} (h : f_X0_tires a0 x1 σ = some (r, τ)) : Met l yX0_tires (Cond.code yX0_tires cX0_tires 2 (some .int) :: wt) rm_X0_tires (PW E mk [.ref (eA E a0), .int x1] σ) (QI E mk r τ) 0 0 (WA E) :=
  met_i (fun E => [.ref (eA E a0), .int x1]) (by decide) hmk (Nat.le_of_ble_eq_true rfl) (fun X o hr => w_X0_tires rfl o hr a0 x1 h0 h)
set_option maxRecDepth 100000 in
set_option maxHeartbeats 4000000 in
theorem w_X0_bears {X : Cx} {l : Launch} {r : Int32} {σr : Mem} {res : Int32 × Mem} (hres : res = (r, σr)) (o : OK X cX0_bears RX0 sdC 1 rm_X0_bears l) (hr : RI X .int r σr) (a0 : Nat) (h0 : kd sdC a0 0) {σ : Mem} (h : f_X0_bears a0 σ = some res) : G X σ 0 [(0, .ref (eA (xE X) a0))] [] := by
  unfold f_X0_bears at h
  refine g_getsN o (q := 3) 2 (by decide) (by decide +kernel) dX0_bears_0 rfl ?_
  refine g_aload_n o (q := 4) 0 rfl rfl dX0_bears_3 rfl ?_
  refine gf_X0_0 o (q := 7) h0 lk_X0_9 dX0_bears_4 rfl ?_
  refine g_tild o (q := 8) 2 (by decide) rfl dX0_bears_7 rfl h (fun j21 hjj21 h => ?_)
  exact g_iret o hr (h.trans (congrArg some hres)) rfl dX0_bears_8
theorem c_X0_bears {l : Launch} {E : En} {mk : Mem → Mem} (hmk : MK mk sdC) (a0 : Nat) (h0 : kd sdC a0 0) {σ : Mem} {r : Int32} {τ : Mem} (h : f_X0_bears a0 σ = some (r, τ)) : Met l yX0_bears (Cond.code yX0_bears cX0_bears 1 (some .int) :: wt) rm_X0_bears (PW E mk [.ref (eA E a0)] σ) (QI E mk r τ) 0 0 (WA E) :=
  met_i (fun E => [.ref (eA E a0)]) (by decide) hmk (Nat.le_of_ble_eq_true rfl) (fun X o hr => w_X0_bears rfl o hr a0 h0 h)
set_option maxRecDepth 100000 in
set_option maxHeartbeats 4000000 in
theorem w_X0_falls_J28 {X : Cx} {l : Launch} {r : Int32} {σr : Mem} {res : Int32 × Mem} (hres : res = (r, σr)) (o : OK X cX0_falls RX0 sdC 2 rm_X0_falls l) (hr : RI X .int r σr)   {b0 : Nat} (g0 : kd sdC b0 0) {σ : Mem} (h : f_X0_falls_J28  b0 σ = some res) : G X σ 28 [(0, .ref (eA (xE X) b0))] [] := by
  unfold f_X0_falls_J28 at h
  refine g_getsN o (q := 31) 3 (by decide) (by decide +kernel) dX0_falls_28 rfl ?_
  refine g_aload_n o (q := 32) 0 rfl rfl dX0_falls_31 rfl ?_
  refine gf_X0_0 o (q := 35) g0 lk_X0_9 dX0_falls_32 rfl ?_
  refine g_tild o (q := 36) 3 (by decide) rfl dX0_falls_35 rfl h (fun j21 hjj21 h => ?_)
  exact g_iret o hr (h.trans (congrArg some hres)) rfl dX0_falls_36
set_option maxRecDepth 100000 in
set_option maxHeartbeats 4000000 in
theorem w_X0_falls {X : Cx} {l : Launch} {r : Int32} {σr : Mem} {res : Int32 × Mem} (hres : res = (r, σr)) (o : OK X cX0_falls RX0 sdC 2 rm_X0_falls l) (hr : RI X .int r σr) (a0 : Nat) (x1 : Int32) (h0 : kd sdC a0 0) {σ : Mem} (h : f_X0_falls a0 x1 σ = some res) : G X σ 0 [(0, .ref (eA (xE X) a0)), (1, .int x1)] [] := by
  unfold f_X0_falls at h
  refine g_aload_n o (q := 1) 0 rfl rfl dX0_falls_0 rfl ?_
  refine gf_X0_0 o (q := 4) h0 lk_X0_9 dX0_falls_1 rfl ?_
  refine g_bipush o (v := 6) (q := 6) (by decide) dX0_falls_4 rfl ?_
  refine g_icmp_ne o (tgt := 28) (q := 9) dX0_falls_6 (by decide) rfl h (fun h => ?_) (fun h => ?_)
  · refine g_sub (lv' := [(0, .ref (eA (xE X) a0))]) [0] rfl ?_
    exact w_X0_falls_J28 hres o hr  h0 h
  · refine g_iload_n o (q := 10) 1 rfl rfl dX0_falls_9 rfl ?_
    refine g_iconst o (v := 1) (q := 11) (by decide) dX0_falls_10 rfl ?_
    refine g_icmp_ne o (tgt := 28) (q := 14) dX0_falls_11 (by decide) rfl h (fun h => ?_) (fun h => ?_)
    · refine g_sub (lv' := [(0, .ref (eA (xE X) a0))]) [0] rfl ?_
      exact w_X0_falls_J28 hres o hr  h0 h
    · refine g_getsN o (q := 17) 3 (by decide) (by decide +kernel) dX0_falls_14 rfl ?_
      refine g_aload_n o (q := 18) 0 rfl rfl dX0_falls_17 rfl ?_
      refine gf_X0_0 o (q := 21) h0 lk_X0_9 dX0_falls_18 rfl ?_
      refine g_tild o (q := 22) 3 (by decide) rfl dX0_falls_21 rfl h (fun j22 hjj22 h => ?_)
      refine g_bipush o (v := 6) (q := 24) (by decide) dX0_falls_22 rfl ?_
      refine g_iadd o (q := 25) dX0_falls_24 rfl ?_
      refine g_goto o (tgt := 36) dX0_falls_25 (by decide) ?_
      exact g_iret o hr (h.trans (congrArg some hres)) rfl dX0_falls_36
theorem c_X0_falls {l : Launch} {E : En} {mk : Mem → Mem} (hmk : MK mk sdC) (a0 : Nat) (x1 : Int32) (h0 : kd sdC a0 0) {σ : Mem} {r : Int32} {τ : Mem} (h : f_X0_falls a0 x1 σ = some (r, τ)) : Met l yX0_falls (Cond.code yX0_falls cX0_falls 2 (some .int) :: wt) rm_X0_falls (PW E mk [.ref (eA E a0), .int x1] σ) (QI E mk r τ) 0 0 (WA E) :=
  met_i (fun E => [.ref (eA E a0), .int x1]) (by decide) hmk (Nat.le_of_ble_eq_true rfl) (fun X o hr => w_X0_falls rfl o hr a0 x1 h0 h)
set_option maxRecDepth 100000 in
set_option maxHeartbeats 4000000 in
theorem w_X0_rises {X : Cx} {l : Launch} {r : Int32} {σr : Mem} {res : Int32 × Mem} (hres : res = (r, σr)) (o : OK X cX0_rises RX0 sdC 1 rm_X0_rises l) (hr : RI X .int r σr) (a0 : Nat) (h0 : kd sdC a0 0) {σ : Mem} (h : f_X0_rises a0 σ = some res) : G X σ 0 [(0, .ref (eA (xE X) a0))] [] := by
  unfold f_X0_rises at h
  refine g_getsN o (q := 3) 4 (by decide) (by decide +kernel) dX0_rises_0 rfl ?_
  refine g_aload_n o (q := 4) 0 rfl rfl dX0_rises_3 rfl ?_
  refine gf_X0_0 o (q := 7) h0 lk_X0_9 dX0_rises_4 rfl ?_
  refine g_tild o (q := 8) 4 (by decide) rfl dX0_rises_7 rfl h (fun j21 hjj21 h => ?_)
  exact g_iret o hr (h.trans (congrArg some hres)) rfl dX0_rises_8
theorem c_X0_rises {l : Launch} {E : En} {mk : Mem → Mem} (hmk : MK mk sdC) (a0 : Nat) (h0 : kd sdC a0 0) {σ : Mem} {r : Int32} {τ : Mem} (h : f_X0_rises a0 σ = some (r, τ)) : Met l yX0_rises (Cond.code yX0_rises cX0_rises 1 (some .int) :: wt) rm_X0_rises (PW E mk [.ref (eA E a0)] σ) (QI E mk r τ) 0 0 (WA E) :=
  met_i (fun E => [.ref (eA E a0)]) (by decide) hmk (Nat.le_of_ble_eq_true rfl) (fun X o hr => w_X0_rises rfl o hr a0 h0 h)
set_option maxRecDepth 100000 in
set_option maxHeartbeats 4000000 in
theorem w_X0_tell {X : Cx} {l : Launch} {r : Int32} {σr : Mem} {res : Int32 × Mem} (hres : res = (r, σr)) (o : OK X cX0_tell RX0 sdC 4 rm_X0_tell l) (hr : RI X .int r σr) (a0 : Nat) (x1 : Int32) (x2 : Int32) (x3 : Int32) (h0 : kd sdC a0 0) {σ : Mem} (h : f_X0_tell a0 x1 x2 x3 σ = some res) : G X σ 0 [(0, .ref (eA (xE X) a0)), (1, .int x1), (2, .int x2), (3, .int x3)] [] := by
  unfold f_X0_tell at h
  refine g_iload_n o (q := 1) 1 rfl rfl dX0_tell_0 rfl ?_
  refine g_swIn o (tgt := 56) (off := 55) 0 dX0_tell_1 (by decide) (by decide) (by decide +kernel) (by decide) h (fun h => ?_) (fun c0 h => ?_)
  · refine g_aload_n o (q := 57) 0 rfl rfl dX0_tell_56 rfl ?_
    refine gf_X0_0 o (q := 60) h0 lk_X0_9 dX0_tell_57 rfl ?_
    exact g_iret o hr (h.trans (congrArg some hres)) rfl dX0_tell_60
  refine g_swIn o (tgt := 61) (off := 60) 1 dX0_tell_1 (by decide) (by decide) (by decide +kernel) (by decide) h (fun h => ?_) (fun c1 h => ?_)
  · refine g_aload_n o (q := 62) 0 rfl rfl dX0_tell_61 rfl ?_
    refine gf_X0_1 o (q := 65) h0 lk_X0_15 dX0_tell_62 rfl ?_
    exact g_iret o hr (h.trans (congrArg some hres)) rfl dX0_tell_65
  refine g_swIn o (tgt := 66) (off := 65) 2 dX0_tell_1 (by decide) (by decide) (by decide +kernel) (by decide) h (fun h => ?_) (fun c2 h => ?_)
  · refine g_aload_n o (q := 67) 0 rfl rfl dX0_tell_66 rfl ?_
    refine gf_X0_2 o (q := 70) h0 lk_X0_18 dX0_tell_67 rfl ?_
    exact g_iret o hr (h.trans (congrArg some hres)) rfl dX0_tell_70
  refine g_swIn o (tgt := 71) (off := 70) 3 dX0_tell_1 (by decide) (by decide) (by decide +kernel) (by decide) h (fun h => ?_) (fun c3 h => ?_)
  · refine g_aload_n o (q := 72) 0 rfl rfl dX0_tell_71 rfl ?_
    refine gf_X0_3 o (q := 75) h0 lk_X0_21 dX0_tell_72 rfl ?_
    exact g_iret o hr (h.trans (congrArg some hres)) rfl dX0_tell_75
  refine g_swIn o (tgt := 76) (off := 75) 4 dX0_tell_1 (by decide) (by decide) (by decide +kernel) (by decide) h (fun h => ?_) (fun c4 h => ?_)
  · refine g_aload_n o (q := 77) 0 rfl rfl dX0_tell_76 rfl ?_
    refine gf_X0_4 o (q := 80) h0 lk_X0_24 dX0_tell_77 rfl ?_
    exact g_iret o hr (h.trans (congrArg some hres)) rfl dX0_tell_80
  refine g_swIn o (tgt := 81) (off := 80) 5 dX0_tell_1 (by decide) (by decide) (by decide +kernel) (by decide) h (fun h => ?_) (fun c5 h => ?_)
  · refine g_aload_n o (q := 82) 0 rfl rfl dX0_tell_81 rfl ?_
    refine gf_X0_5 o (q := 85) h0 lk_X0_27 dX0_tell_82 rfl ?_
    exact g_iret o hr (h.trans (congrArg some hres)) rfl dX0_tell_85
  refine g_swIn o (tgt := 86) (off := 85) 6 dX0_tell_1 (by decide) (by decide) (by decide +kernel) (by decide) h (fun h => ?_) (fun c6 h => ?_)
  · refine g_aload_n o (q := 87) 0 rfl rfl dX0_tell_86 rfl ?_
    refine g_cvi o (q := 90) (As := []) (rest := []) kv_X0_gladdens lk_X0_30 h0 (by decide) rfl rfl rfl (fun _ _ hc => c_X0_gladdens o.mk a0 h0 hc) dX0_tell_87 rfl ⟨rfl, rfl, Nat.le_of_ble_eq_true rfl, Nat.le_of_ble_eq_true rfl⟩ (Nat.le_of_ble_eq_true rfl) rfl h (fun r22 σ21 h => ?_)
    exact g_iret o hr (h.trans (congrArg some hres)) rfl dX0_tell_90
  refine g_swIn o (tgt := 91) (off := 90) 7 dX0_tell_1 (by decide) (by decide) (by decide +kernel) (by decide) h (fun h => ?_) (fun c7 h => ?_)
  · refine g_aload_n o (q := 92) 0 rfl rfl dX0_tell_91 rfl ?_
    refine g_iload_n o (q := 93) 2 rfl rfl dX0_tell_92 rfl ?_
    refine g_cvi o (q := 96) (As := [.int x2]) (rest := []) kv_X0_tires lk_X0_34 h0 (by decide) rfl rfl rfl (fun _ _ hc => c_X0_tires o.mk a0 x2 h0 hc) dX0_tell_93 rfl ⟨rfl, rfl, Nat.le_of_ble_eq_true rfl, Nat.le_of_ble_eq_true rfl⟩ (Nat.le_of_ble_eq_true rfl) rfl h (fun r24 σ23 h => ?_)
    exact g_iret o hr (h.trans (congrArg some hres)) rfl dX0_tell_96
  refine g_swIn o (tgt := 97) (off := 96) 8 dX0_tell_1 (by decide) (by decide) (by decide +kernel) (by decide) h (fun h => ?_) (fun c8 h => ?_)
  · refine g_aload_n o (q := 98) 0 rfl rfl dX0_tell_97 rfl ?_
    refine g_cvi o (q := 101) (As := []) (rest := []) kv_X0_bears lk_X0_38 h0 (by decide) rfl rfl rfl (fun _ _ hc => c_X0_bears o.mk a0 h0 hc) dX0_tell_98 rfl ⟨rfl, rfl, Nat.le_of_ble_eq_true rfl, Nat.le_of_ble_eq_true rfl⟩ (Nat.le_of_ble_eq_true rfl) rfl h (fun r26 σ25 h => ?_)
    exact g_iret o hr (h.trans (congrArg some hres)) rfl dX0_tell_101
  refine g_swIn o (tgt := 102) (off := 101) 9 dX0_tell_1 (by decide) (by decide) (by decide +kernel) (by decide) h (fun h => ?_) (fun c9 h => ?_)
  · refine g_aload_n o (q := 103) 0 rfl rfl dX0_tell_102 rfl ?_
    refine g_iload_n o (q := 104) 3 rfl rfl dX0_tell_103 rfl ?_
    refine g_cvi o (q := 107) (As := [.int x3]) (rest := []) kv_X0_falls lk_X0_41 h0 (by decide) rfl rfl rfl (fun _ _ hc => c_X0_falls o.mk a0 x3 h0 hc) dX0_tell_104 rfl ⟨rfl, rfl, Nat.le_of_ble_eq_true rfl, Nat.le_of_ble_eq_true rfl⟩ (Nat.le_of_ble_eq_true rfl) rfl h (fun r28 σ27 h => ?_)
    exact g_iret o hr (h.trans (congrArg some hres)) rfl dX0_tell_107
  refine g_swOut o (tgt := 108) dX0_tell_1 (sw_out (by decide) (by decide) (fun k h1 h2 => by rcases (show k = 0 ∨ k = 1 ∨ k = 2 ∨ k = 3 ∨ k = 4 ∨ k = 5 ∨ k = 6 ∨ k = 7 ∨ k = 8 ∨ k = 9 by omega) with rfl | rfl | rfl | rfl | rfl | rfl | rfl | rfl | rfl | rfl <;> assumption)) (by decide) ?_
  refine g_aload_n o (q := 109) 0 rfl rfl dX0_tell_108 rfl ?_
  refine g_cvi o (q := 112) (As := []) (rest := []) kv_X0_rises lk_X0_44 h0 (by decide) rfl rfl rfl (fun _ _ hc => c_X0_rises o.mk a0 h0 hc) dX0_tell_109 rfl ⟨rfl, rfl, Nat.le_of_ble_eq_true rfl, Nat.le_of_ble_eq_true rfl⟩ (Nat.le_of_ble_eq_true rfl) rfl h (fun r30 σ29 h => ?_)
  exact g_iret o hr (h.trans (congrArg some hres)) rfl dX0_tell_112
theorem c_X0_tell {l : Launch} {E : En} {mk : Mem → Mem} (hmk : MK mk sdC) (a0 : Nat) (x1 : Int32) (x2 : Int32) (x3 : Int32) (h0 : kd sdC a0 0) {σ : Mem} {r : Int32} {τ : Mem} (h : f_X0_tell a0 x1 x2 x3 σ = some (r, τ)) : Met l yX0_tell (Cond.code yX0_tell cX0_tell 4 (some .int) :: wt) rm_X0_tell (PW E mk [.ref (eA E a0), .int x1, .int x2, .int x3] σ) (QI E mk r τ) 0 0 (WA E) :=
  met_i (fun E => [.ref (eA E a0), .int x1, .int x2, .int x3]) (by decide) hmk (Nat.le_of_ble_eq_true rfl) (fun X o hr => w_X0_tell rfl o hr a0 x1 x2 x3 h0 h)
set_option maxRecDepth 100000 in
set_option maxHeartbeats 4000000 in
theorem w_X0_set {X : Cx} {l : Launch} {u : Unit} {σr : Mem} {res : Unit × Mem} (hres : res = (u, σr)) (o : OK X cX0_set RX0 sdC 3 rm_X0_set l) (hr : RV X σr) (a0 : Nat) (x1 : Int32) (x2 : Int32) (h0 : kd sdC a0 0) {σ : Mem} (h : f_X0_set a0 x1 x2 σ = some res) : G X σ 0 [(0, .ref (eA (xE X) a0)), (1, .int x1), (2, .int x2)] [] := by
  unfold f_X0_set at h
  refine g_iload_n o (q := 1) 1 rfl rfl dX0_set_0 rfl ?_
  refine g_swIn o (tgt := 36) (off := 35) 0 dX0_set_1 (by decide) (by decide) (by decide +kernel) (by decide) h (fun h => ?_) (fun c0 h => ?_)
  · refine g_aload_n o (q := 37) 0 rfl rfl dX0_set_36 rfl ?_
    refine g_iload_n o (q := 38) 2 rfl rfl dX0_set_37 rfl ?_
    refine gp_X0_0 o (q := 41) h0 lk_X0_9 dX0_set_38 rfl h (fun σ21 h => ?_)
    refine g_goto o (tgt := 81) dX0_set_41 (by decide) ?_
    exact g_vret o hr (h.trans (congrArg some hres)) dX0_set_81
  refine g_swIn o (tgt := 44) (off := 43) 1 dX0_set_1 (by decide) (by decide) (by decide +kernel) (by decide) h (fun h => ?_) (fun c1 h => ?_)
  · refine g_aload_n o (q := 45) 0 rfl rfl dX0_set_44 rfl ?_
    refine g_iload_n o (q := 46) 2 rfl rfl dX0_set_45 rfl ?_
    refine gp_X0_1 o (q := 49) h0 lk_X0_15 dX0_set_46 rfl h (fun σ22 h => ?_)
    refine g_goto o (tgt := 81) dX0_set_49 (by decide) ?_
    exact g_vret o hr (h.trans (congrArg some hres)) dX0_set_81
  refine g_swIn o (tgt := 52) (off := 51) 2 dX0_set_1 (by decide) (by decide) (by decide +kernel) (by decide) h (fun h => ?_) (fun c2 h => ?_)
  · refine g_aload_n o (q := 53) 0 rfl rfl dX0_set_52 rfl ?_
    refine g_iload_n o (q := 54) 2 rfl rfl dX0_set_53 rfl ?_
    refine gp_X0_2 o (q := 57) h0 lk_X0_18 dX0_set_54 rfl h (fun σ23 h => ?_)
    refine g_goto o (tgt := 81) dX0_set_57 (by decide) ?_
    exact g_vret o hr (h.trans (congrArg some hres)) dX0_set_81
  refine g_swIn o (tgt := 60) (off := 59) 3 dX0_set_1 (by decide) (by decide) (by decide +kernel) (by decide) h (fun h => ?_) (fun c3 h => ?_)
  · refine g_aload_n o (q := 61) 0 rfl rfl dX0_set_60 rfl ?_
    refine g_iload_n o (q := 62) 2 rfl rfl dX0_set_61 rfl ?_
    refine gp_X0_3 o (q := 65) h0 lk_X0_21 dX0_set_62 rfl h (fun σ24 h => ?_)
    refine g_goto o (tgt := 81) dX0_set_65 (by decide) ?_
    exact g_vret o hr (h.trans (congrArg some hres)) dX0_set_81
  refine g_swIn o (tgt := 68) (off := 67) 4 dX0_set_1 (by decide) (by decide) (by decide +kernel) (by decide) h (fun h => ?_) (fun c4 h => ?_)
  · refine g_aload_n o (q := 69) 0 rfl rfl dX0_set_68 rfl ?_
    refine g_iload_n o (q := 70) 2 rfl rfl dX0_set_69 rfl ?_
    refine gp_X0_4 o (q := 73) h0 lk_X0_24 dX0_set_70 rfl h (fun σ25 h => ?_)
    refine g_goto o (tgt := 81) dX0_set_73 (by decide) ?_
    exact g_vret o hr (h.trans (congrArg some hres)) dX0_set_81
  refine g_swOut o (tgt := 76) dX0_set_1 (sw_out (by decide) (by decide) (fun k h1 h2 => by rcases (show k = 0 ∨ k = 1 ∨ k = 2 ∨ k = 3 ∨ k = 4 by omega) with rfl | rfl | rfl | rfl | rfl <;> assumption)) (by decide) ?_
  refine g_aload_n o (q := 77) 0 rfl rfl dX0_set_76 rfl ?_
  refine g_iload_n o (q := 78) 2 rfl rfl dX0_set_77 rfl ?_
  refine gp_X0_5 o (q := 81) h0 lk_X0_27 dX0_set_78 rfl h (fun σ26 h => ?_)
  exact g_vret o hr (h.trans (congrArg some hres)) dX0_set_81
theorem c_X0_set {l : Launch} {E : En} {mk : Mem → Mem} (hmk : MK mk sdC) (a0 : Nat) (x1 : Int32) (x2 : Int32) (h0 : kd sdC a0 0) {σ : Mem} {r : Unit} {τ : Mem} (h : f_X0_set a0 x1 x2 σ = some (r, τ)) : Met l yX0_set (Cond.code yX0_set cX0_set 3 none :: wt) rm_X0_set (PW E mk [.ref (eA E a0), .int x1, .int x2] σ) (QV E mk τ) 0 0 (WA E) :=
  met_v (fun E => [.ref (eA E a0), .int x1, .int x2]) (by decide) hmk (Nat.le_of_ble_eq_true rfl) (fun X o hr => w_X0_set rfl o hr a0 x1 x2 h0 h)
set_option maxRecDepth 100000 in
set_option maxHeartbeats 4000000 in
theorem w_X0_countsAs {X : Cx} {l : Launch} {r : Int32} {σr : Mem} {res : Int32 × Mem} (hres : res = (r, σr)) (o : OK X cX0_countsAs RX0 sdC 2 rm_X0_countsAs l) (hr : RI X .boolean r σr) (a0 : Nat) (x1 : Int32) (h0 : kd sdC a0 0) {σ : Mem} (h : f_X0_countsAs a0 x1 σ = some res) : G X σ 0 [(0, .ref (eA (xE X) a0)), (1, .int x1)] [] := by
  unfold f_X0_countsAs at h
  refine g_getsN o (q := 3) 5 (by decide) (by decide +kernel) dX0_countsAs_0 rfl ?_
  refine g_aload_n o (q := 4) 0 rfl rfl dX0_countsAs_3 rfl ?_
  refine gf_X0_0 o (q := 7) h0 lk_X0_9 dX0_countsAs_4 rfl ?_
  refine g_tild o (q := 8) 5 (by decide) rfl dX0_countsAs_7 rfl h (fun j21 hjj21 h => ?_)
  refine g_iload_n o (q := 9) 1 rfl rfl dX0_countsAs_8 rfl ?_
  refine g_ishr o (q := 10) dX0_countsAs_9 rfl ?_
  refine g_iconst o (v := 1) (q := 11) (by decide) dX0_countsAs_10 rfl ?_
  refine g_iand o (q := 12) dX0_countsAs_11 rfl ?_
  refine g_iconst o (v := 1) (q := 13) (by decide) dX0_countsAs_12 rfl ?_
  refine g_icmp_ne o (tgt := 20) (q := 16) dX0_countsAs_13 (by decide) rfl h (fun h => ?_) (fun h => ?_)
  · refine g_iconst o (v := 0) (q := 21) (by decide) dX0_countsAs_20 rfl ?_
    exact g_iret o hr (h.trans (congrArg some hres)) (by decide) dX0_countsAs_21
  · refine g_iconst o (v := 1) (q := 17) (by decide) dX0_countsAs_16 rfl ?_
    refine g_goto o (tgt := 21) dX0_countsAs_17 (by decide) ?_
    exact g_iret o hr (h.trans (congrArg some hres)) (by decide) dX0_countsAs_21
theorem c_X0_countsAs {l : Launch} {E : En} {mk : Mem → Mem} (hmk : MK mk sdC) (a0 : Nat) (x1 : Int32) (h0 : kd sdC a0 0) {σ : Mem} {r : Int32} {τ : Mem} (h : f_X0_countsAs a0 x1 σ = some (r, τ)) : Met l yX0_countsAs (Cond.code yX0_countsAs cX0_countsAs 2 (some .boolean) :: wt) rm_X0_countsAs (PW E mk [.ref (eA E a0), .int x1] σ) (QI E mk r τ) 0 0 (WA E) :=
  met_i (fun E => [.ref (eA E a0), .int x1]) (by decide) hmk (Nat.le_of_ble_eq_true rfl) (fun X o hr => w_X0_countsAs rfl o hr a0 x1 h0 h)
set_option maxRecDepth 100000 in
set_option maxHeartbeats 4000000 in
theorem w_X0_getPulled {X : Cx} {l : Launch} {u : Unit} {σr : Mem} {res : Unit × Mem} (hres : res = (u, σr)) (o : OK X cX0_getPulled RX0 sdC 2 rm_X0_getPulled l) (hr : RV X σr) (a0 : Nat) (x1 : Int32) (h0 : kd sdC a0 0) {σ : Mem} (h : f_X0_getPulled a0 x1 σ = some res) : G X σ 0 [(0, .ref (eA (xE X) a0)), (1, .int x1)] [] := by
  unfold f_X0_getPulled at h
  refine g_aload_n o (q := 1) 0 rfl rfl dX0_getPulled_0 rfl ?_
  refine g_bipush o (v := 20) (q := 3) (by decide) dX0_getPulled_1 rfl ?_
  refine g_aload_n o (q := 4) 0 rfl rfl dX0_getPulled_3 rfl ?_
  refine gf_X0_3 o (q := 7) h0 lk_X0_21 dX0_getPulled_4 rfl ?_
  refine g_iload_n o (q := 8) 1 rfl rfl dX0_getPulled_7 rfl ?_
  refine g_bipush o (v := 10) (q := 10) (by decide) dX0_getPulled_8 rfl ?_
  refine g_idiv o (q := 11) (by decide) dX0_getPulled_10 rfl ?_
  refine g_iadd o (q := 12) dX0_getPulled_11 rfl ?_
  refine g_aload_n o (q := 13) 0 rfl rfl dX0_getPulled_12 rfl ?_
  refine g_cvi o (q := 16) (As := []) (rest := [.int ((σ a0 3) + (x1 / 10)), .int 20, .ref (eA (xE X) a0)]) kv_X0_rises lk_X0_44 h0 (by decide) rfl rfl rfl (fun _ _ hc => c_X0_rises o.mk a0 h0 hc) dX0_getPulled_13 rfl ⟨rfl, rfl, Nat.le_of_ble_eq_true rfl, Nat.le_of_ble_eq_true rfl⟩ (Nat.le_of_ble_eq_true rfl) rfl h (fun r22 σ21 h => ?_)
  refine g_iadd o (q := 17) dX0_getPulled_16 rfl ?_
  refine g_mmin o (q := 20) lk_X0_71 dX0_getPulled_17 rfl ⟨Nat.le_of_ble_eq_true rfl, Nat.le_of_ble_eq_true rfl⟩ ?_
  refine gp_X0_3 o (q := 23) h0 lk_X0_21 dX0_getPulled_20 rfl h (fun σ23 h => ?_)
  refine g_aload_n o (q := 24) 0 rfl rfl dX0_getPulled_23 rfl ?_
  refine g_iconst o (v := 0) (q := 25) (by decide) dX0_getPulled_24 rfl ?_
  refine g_aload_n o (q := 26) 0 rfl rfl dX0_getPulled_25 rfl ?_
  refine gf_X0_1 o (q := 29) h0 lk_X0_15 dX0_getPulled_26 rfl ?_
  refine g_iload_n o (q := 30) 1 rfl rfl dX0_getPulled_29 rfl ?_
  refine g_iconst o (v := 5) (q := 31) (by decide) dX0_getPulled_30 rfl ?_
  refine g_idiv o (q := 32) (by decide) dX0_getPulled_31 rfl ?_
  refine g_isub o (q := 33) dX0_getPulled_32 rfl ?_
  refine g_mmax o (q := 36) lk_X0_77 dX0_getPulled_33 rfl ⟨Nat.le_of_ble_eq_true rfl, Nat.le_of_ble_eq_true rfl⟩ ?_
  refine gp_X0_1 o (q := 39) h0 lk_X0_15 dX0_getPulled_36 rfl h (fun σ24 h => ?_)
  exact g_vret o hr (h.trans (congrArg some hres)) dX0_getPulled_39
theorem c_X0_getPulled {l : Launch} {E : En} {mk : Mem → Mem} (hmk : MK mk sdC) (a0 : Nat) (x1 : Int32) (h0 : kd sdC a0 0) {σ : Mem} {r : Unit} {τ : Mem} (h : f_X0_getPulled a0 x1 σ = some (r, τ)) : Met l yX0_getPulled (Cond.code yX0_getPulled cX0_getPulled 2 none :: wt) rm_X0_getPulled (PW E mk [.ref (eA E a0), .int x1] σ) (QV E mk τ) 0 0 (WA E) :=
  met_v (fun E => [.ref (eA E a0), .int x1]) (by decide) hmk (Nat.le_of_ble_eq_true rfl) (fun X o hr => w_X0_getPulled rfl o hr a0 x1 h0 h)
set_option maxRecDepth 100000 in
set_option maxHeartbeats 4000000 in
theorem w_X0_feel {X : Cx} {l : Launch} {u : Unit} {σr : Mem} {res : Unit × Mem} (hres : res = (u, σr)) (o : OK X cX0_feel RX0 sdC 2 rm_X0_feel l) (hr : RV X σr) (a0 : Nat) (x1 : Int32) (h0 : kd sdC a0 0) {σ : Mem} (h : f_X0_feel a0 x1 σ = some res) : G X σ 0 [(0, .ref (eA (xE X) a0)), (1, .int x1)] [] := by
  unfold f_X0_feel at h
  refine g_aload_n o (q := 1) 0 rfl rfl dX0_feel_0 rfl ?_
  refine gf_X0_2 o (q := 4) h0 lk_X0_18 dX0_feel_1 rfl ?_
  refine g_iload_n o (q := 5) 1 rfl rfl dX0_feel_4 rfl ?_
  refine g_ishr o (q := 6) dX0_feel_5 rfl ?_
  refine g_iconst o (v := 1) (q := 7) (by decide) dX0_feel_6 rfl ?_
  refine g_iand o (q := 8) dX0_feel_7 rfl ?_
  refine g_iconst o (v := 1) (q := 9) (by decide) dX0_feel_8 rfl ?_
  refine g_icmp_ne o (tgt := 33) (q := 12) dX0_feel_9 (by decide) rfl h (fun h => ?_) (fun h => ?_)
  · refine g_aload_n o (q := 34) 0 rfl rfl dX0_feel_33 rfl ?_
    refine g_iconst o (v := 0) (q := 35) (by decide) dX0_feel_34 rfl ?_
    refine g_aload_n o (q := 36) 0 rfl rfl dX0_feel_35 rfl ?_
    refine gf_X0_1 o (q := 39) h0 lk_X0_15 dX0_feel_36 rfl ?_
    refine g_aload_n o (q := 40) 0 rfl rfl dX0_feel_39 rfl ?_
    refine g_iload_n o (q := 41) 1 rfl rfl dX0_feel_40 rfl ?_
    refine g_cvi o (q := 44) (As := [.int x1]) (rest := [.int (σ a0 1), .int 0, .ref (eA (xE X) a0)]) kv_X0_tires lk_X0_34 h0 (by decide) rfl rfl rfl (fun _ _ hc => c_X0_tires o.mk a0 x1 h0 hc) dX0_feel_41 rfl ⟨rfl, rfl, Nat.le_of_ble_eq_true rfl, Nat.le_of_ble_eq_true rfl⟩ (Nat.le_of_ble_eq_true rfl) rfl h (fun r22 σ21 h => ?_)
    refine g_isub o (q := 45) dX0_feel_44 rfl ?_
    refine g_mmax o (q := 48) lk_X0_77 dX0_feel_45 rfl ⟨Nat.le_of_ble_eq_true rfl, Nat.le_of_ble_eq_true rfl⟩ ?_
    refine gp_X0_1 o (q := 51) h0 lk_X0_15 dX0_feel_48 rfl h (fun σ23 h => ?_)
    exact g_vret o hr (h.trans (congrArg some hres)) dX0_feel_51
  · refine g_aload_n o (q := 13) 0 rfl rfl dX0_feel_12 rfl ?_
    refine g_bipush o (v := 99) (q := 15) (by decide) dX0_feel_13 rfl ?_
    refine g_aload_n o (q := 16) 0 rfl rfl dX0_feel_15 rfl ?_
    refine gf_X0_1 o (q := 19) h0 lk_X0_15 dX0_feel_16 rfl ?_
    refine g_aload_n o (q := 20) 0 rfl rfl dX0_feel_19 rfl ?_
    refine g_cvi o (q := 23) (As := []) (rest := [.int (σ a0 1), .int 99, .ref (eA (xE X) a0)]) kv_X0_gladdens lk_X0_30 h0 (by decide) rfl rfl rfl (fun _ _ hc => c_X0_gladdens o.mk a0 h0 hc) dX0_feel_20 rfl ⟨rfl, rfl, Nat.le_of_ble_eq_true rfl, Nat.le_of_ble_eq_true rfl⟩ (Nat.le_of_ble_eq_true rfl) rfl h (fun r25 σ24 h => ?_)
    refine g_iadd o (q := 24) dX0_feel_23 rfl ?_
    refine g_mmin o (q := 27) lk_X0_71 dX0_feel_24 rfl ⟨Nat.le_of_ble_eq_true rfl, Nat.le_of_ble_eq_true rfl⟩ ?_
    refine gp_X0_1 o (q := 30) h0 lk_X0_15 dX0_feel_27 rfl h (fun σ26 h => ?_)
    refine g_goto o (tgt := 51) dX0_feel_30 (by decide) ?_
    exact g_vret o hr (h.trans (congrArg some hres)) dX0_feel_51
theorem c_X0_feel {l : Launch} {E : En} {mk : Mem → Mem} (hmk : MK mk sdC) (a0 : Nat) (x1 : Int32) (h0 : kd sdC a0 0) {σ : Mem} {r : Unit} {τ : Mem} (h : f_X0_feel a0 x1 σ = some (r, τ)) : Met l yX0_feel (Cond.code yX0_feel cX0_feel 2 none :: wt) rm_X0_feel (PW E mk [.ref (eA E a0), .int x1] σ) (QV E mk τ) 0 0 (WA E) :=
  met_v (fun E => [.ref (eA E a0), .int x1]) (by decide) hmk (Nat.le_of_ble_eq_true rfl) (fun X o hr => w_X0_feel rfl o hr a0 x1 h0 h)
set_option maxRecDepth 100000 in
set_option maxHeartbeats 4000000 in
theorem w_X0_comeDown {X : Cx} {l : Launch} {u : Unit} {σr : Mem} {res : Unit × Mem} (hres : res = (u, σr)) (o : OK X cX0_comeDown RX0 sdC 2 rm_X0_comeDown l) (hr : RV X σr) (a0 : Nat) (x1 : Int32) (h0 : kd sdC a0 0) {σ : Mem} (h : f_X0_comeDown a0 x1 σ = some res) : G X σ 0 [(0, .ref (eA (xE X) a0)), (1, .int x1)] [] := by
  unfold f_X0_comeDown at h
  refine g_aload_n o (q := 1) 0 rfl rfl dX0_comeDown_0 rfl ?_
  refine g_sipush o (v := 9999) (q := 4) (by decide) dX0_comeDown_1 rfl ?_
  refine g_aload_n o (q := 5) 0 rfl rfl dX0_comeDown_4 rfl ?_
  refine gf_X0_5 o (q := 8) h0 lk_X0_27 dX0_comeDown_5 rfl ?_
  refine g_iconst o (v := 1) (q := 9) (by decide) dX0_comeDown_8 rfl ?_
  refine g_iadd o (q := 10) dX0_comeDown_9 rfl ?_
  refine g_mmin o (q := 13) lk_X0_71 dX0_comeDown_10 rfl ⟨Nat.le_of_ble_eq_true rfl, Nat.le_of_ble_eq_true rfl⟩ ?_
  refine gp_X0_5 o (q := 16) h0 lk_X0_27 dX0_comeDown_13 rfl h (fun σ21 h => ?_)
  refine g_iload_n o (q := 17) 1 rfl rfl dX0_comeDown_16 rfl ?_
  refine g_if_ne o (tgt := 36) (q := 20) dX0_comeDown_17 (by decide) rfl h (fun h => ?_) (fun h => ?_)
  · exact g_vret o hr (h.trans (congrArg some hres)) dX0_comeDown_36
  · refine g_aload_n o (q := 21) 0 rfl rfl dX0_comeDown_20 rfl ?_
    refine g_bipush o (v := 99) (q := 23) (by decide) dX0_comeDown_21 rfl ?_
    refine g_aload_n o (q := 24) 0 rfl rfl dX0_comeDown_23 rfl ?_
    refine gf_X0_1 o (q := 27) h0 lk_X0_15 dX0_comeDown_24 rfl ?_
    refine g_bipush o (v := 25) (q := 29) (by decide) dX0_comeDown_27 rfl ?_
    refine g_iadd o (q := 30) dX0_comeDown_29 rfl ?_
    refine g_mmin o (q := 33) lk_X0_71 dX0_comeDown_30 rfl ⟨Nat.le_of_ble_eq_true rfl, Nat.le_of_ble_eq_true rfl⟩ ?_
    refine gp_X0_1 o (q := 36) h0 lk_X0_15 dX0_comeDown_33 rfl h (fun σ22 h => ?_)
    exact g_vret o hr (h.trans (congrArg some hres)) dX0_comeDown_36
theorem c_X0_comeDown {l : Launch} {E : En} {mk : Mem → Mem} (hmk : MK mk sdC) (a0 : Nat) (x1 : Int32) (h0 : kd sdC a0 0) {σ : Mem} {r : Unit} {τ : Mem} (h : f_X0_comeDown a0 x1 σ = some (r, τ)) : Met l yX0_comeDown (Cond.code yX0_comeDown cX0_comeDown 2 none :: wt) rm_X0_comeDown (PW E mk [.ref (eA E a0), .int x1] σ) (QV E mk τ) 0 0 (WA E) :=
  met_v (fun E => [.ref (eA E a0), .int x1]) (by decide) hmk (Nat.le_of_ble_eq_true rfl) (fun X o hr => w_X0_comeDown rfl o hr a0 x1 h0 h)
set_option maxRecDepth 100000 in
set_option maxHeartbeats 4000000 in
theorem w_X0_passBeat_J99 {X : Cx} {l : Launch} {r : Int32} {σr : Mem} {res : Int32 × Mem} (hres : res = (r, σr)) (o : OK X cX0_passBeat RX0 sdC 5 rm_X0_passBeat l) (hr : RI X .boolean r σr)   {b0 : Nat} {y2 : Int32} {s0 : Int32} (g0 : kd sdC b0 0) {σ : Mem} (h : f_X0_passBeat_J99  b0 y2 s0 σ = some res) : G X σ 99 [(0, .ref (eA (xE X) b0)), (2, .int y2)] [.int s0] := by
  unfold f_X0_passBeat_J99 at h
  refine g_istore o (q := 101) dX0_passBeat_99 rfl (by decide) h (fun x26 => [(4, .int x26), (0, .ref (eA (xE X) b0)), (2, .int y2)]) (fun _ => rfl) (fun x26 h => ?_)
  refine g_iload o (q := 103) 0 rfl dX0_passBeat_101 rfl ?_
  refine g_if_eq o (tgt := 111) (q := 106) dX0_passBeat_103 (by decide) rfl h (fun h => ?_) (fun h => ?_)
  · refine g_iload o (q := 113) 0 rfl dX0_passBeat_111 rfl ?_
    obtain ⟨hb, h⟩ := vB_some h
    exact g_iret o hr (h.trans (congrArg some hres)) (by rcases hb with hb | hb <;> rw [hb] <;> rfl) dX0_passBeat_113
  · refine g_aload_n o (q := 107) 1 rfl rfl dX0_passBeat_106 rfl ?_
    refine g_iload_n o (q := 108) 2 rfl rfl dX0_passBeat_107 rfl ?_
    refine g_cvv o (q := 111) (As := [.int y2]) (rest := []) kv_X0_comeDown lk_X0_84 g0 (by decide) rfl rfl rfl (fun _ _ hc => c_X0_comeDown o.mk b0 y2 g0 hc) dX0_passBeat_108 rfl ⟨rfl, rfl, Nat.le_of_ble_eq_true rfl, Nat.le_of_ble_eq_true rfl⟩ (Nat.le_of_ble_eq_true rfl) rfl h (fun _u27 σ27 h => ?_)
    refine g_iload o (q := 113) 0 rfl dX0_passBeat_111 rfl ?_
    obtain ⟨hb, h⟩ := vB_some h
    exact g_iret o hr (h.trans (congrArg some hres)) (by rcases hb with hb | hb <;> rw [hb] <;> rfl) dX0_passBeat_113
set_option maxRecDepth 100000 in
set_option maxHeartbeats 4000000 in
theorem w_X0_passBeat_J98 {X : Cx} {l : Launch} {r : Int32} {σr : Mem} {res : Int32 × Mem} (hres : res = (r, σr)) (o : OK X cX0_passBeat RX0 sdC 5 rm_X0_passBeat l) (hr : RI X .boolean r σr)   {b0 : Nat} {y2 : Int32} (g0 : kd sdC b0 0) {σ : Mem} (h : f_X0_passBeat_J98  b0 y2 σ = some res) : G X σ 98 [(0, .ref (eA (xE X) b0)), (2, .int y2)] [] := by
  unfold f_X0_passBeat_J98 at h
  refine g_iconst o (v := 0) (q := 99) (by decide) dX0_passBeat_98 rfl ?_
  exact w_X0_passBeat_J99 hres o hr  g0 h
set_option maxRecDepth 100000 in
set_option maxHeartbeats 4000000 in
theorem w_X0_passBeat_J83 {X : Cx} {l : Launch} {r : Int32} {σr : Mem} {res : Int32 × Mem} (hres : res = (r, σr)) (o : OK X cX0_passBeat RX0 sdC 5 rm_X0_passBeat l) (hr : RI X .boolean r σr)   {b0 : Nat} {y2 : Int32} {y3 : Int32} (g0 : kd sdC b0 0) {σ : Mem} (h : f_X0_passBeat_J83  b0 y2 y3 σ = some res) : G X σ 83 [(0, .ref (eA (xE X) b0)), (2, .int y2), (3, .int y3)] [] := by
  unfold f_X0_passBeat_J83 at h
  refine g_iload_n o (q := 84) 2 rfl rfl dX0_passBeat_83 rfl ?_
  refine g_if_eq o (tgt := 98) (q := 87) dX0_passBeat_84 (by decide) rfl h (fun h => ?_) (fun h => ?_)
  · refine g_sub (lv' := [(0, .ref (eA (xE X) b0)), (2, .int y2)]) [0, 1] rfl ?_
    exact w_X0_passBeat_J98 hres o hr  g0 h
  · refine g_aload_n o (q := 88) 0 rfl rfl dX0_passBeat_87 rfl ?_
    refine gf_X0_3 o (q := 91) g0 lk_X0_21 dX0_passBeat_88 rfl ?_
    refine g_if_ne o (tgt := 98) (q := 94) dX0_passBeat_91 (by decide) rfl h (fun h => ?_) (fun h => ?_)
    · refine g_sub (lv' := [(0, .ref (eA (xE X) b0)), (2, .int y2)]) [0, 1] rfl ?_
      exact w_X0_passBeat_J98 hres o hr  g0 h
    · refine g_iconst o (v := 1) (q := 95) (by decide) dX0_passBeat_94 rfl ?_
      refine g_goto o (tgt := 99) dX0_passBeat_95 (by decide) ?_
      refine g_sub (lv' := [(0, .ref (eA (xE X) b0)), (2, .int y2)]) [0, 1] rfl ?_
      exact w_X0_passBeat_J99 hres o hr  g0 h
set_option maxRecDepth 100000 in
set_option maxHeartbeats 4000000 in
theorem w_X0_passBeat_J44 {X : Cx} {l : Launch} {r : Int32} {σr : Mem} {res : Int32 × Mem} (hres : res = (r, σr)) (o : OK X cX0_passBeat RX0 sdC 5 rm_X0_passBeat l) (hr : RI X .boolean r σr)   {b0 : Nat} {y2 : Int32} {y3 : Int32} (g0 : kd sdC b0 0) {σ : Mem} (h : f_X0_passBeat_J44  b0 y2 y3 σ = some res) : G X σ 44 [(0, .ref (eA (xE X) b0)), (2, .int y2), (3, .int y3)] [] := by
  unfold f_X0_passBeat_J44 at h
  refine g_aload_n o (q := 45) 0 rfl rfl dX0_passBeat_44 rfl ?_
  refine g_iconst o (v := 0) (q := 46) (by decide) dX0_passBeat_45 rfl ?_
  refine g_aload_n o (q := 47) 0 rfl rfl dX0_passBeat_46 rfl ?_
  refine gf_X0_3 o (q := 50) g0 lk_X0_21 dX0_passBeat_47 rfl ?_
  refine g_aload_n o (q := 51) 0 rfl rfl dX0_passBeat_50 rfl ?_
  refine g_iload_n o (q := 52) 1 rfl rfl dX0_passBeat_51 rfl ?_
  refine g_cvi o (q := 55) (As := [.int y2]) (rest := [.int (σ b0 3), .int 0, .ref (eA (xE X) b0)]) kv_X0_falls lk_X0_41 g0 (by decide) rfl rfl rfl (fun _ _ hc => c_X0_falls o.mk b0 y2 g0 hc) dX0_passBeat_52 rfl ⟨rfl, rfl, Nat.le_of_ble_eq_true rfl, Nat.le_of_ble_eq_true rfl⟩ (Nat.le_of_ble_eq_true rfl) rfl h (fun r24 σ23 h => ?_)
  refine g_isub o (q := 56) dX0_passBeat_55 rfl ?_
  refine g_mmax o (q := 59) lk_X0_77 dX0_passBeat_56 rfl ⟨Nat.le_of_ble_eq_true rfl, Nat.le_of_ble_eq_true rfl⟩ ?_
  refine gp_X0_3 o (q := 62) g0 lk_X0_21 dX0_passBeat_59 rfl h (fun σ25 h => ?_)
  refine g_goto o (tgt := 83) dX0_passBeat_62 (by decide) ?_
  exact w_X0_passBeat_J83 hres o hr  g0 h
set_option maxRecDepth 100000 in
set_option maxHeartbeats 4000000 in
theorem w_X0_passBeat_J27 {X : Cx} {l : Launch} {r : Int32} {σr : Mem} {res : Int32 × Mem} (hres : res = (r, σr)) (o : OK X cX0_passBeat RX0 sdC 5 rm_X0_passBeat l) (hr : RI X .boolean r σr)   {b0 : Nat} {y2 : Int32} {s0 : Int32} (g0 : kd sdC b0 0) {σ : Mem} (h : f_X0_passBeat_J27  b0 y2 s0 σ = some res) : G X σ 27 [(0, .ref (eA (xE X) b0)), (2, .int y2)] [.int s0] := by
  unfold f_X0_passBeat_J27 at h
  refine g_istore_n o (q := 28) dX0_passBeat_27 rfl rfl (by decide) h (fun x22 => [(3, .int x22), (0, .ref (eA (xE X) b0)), (2, .int y2)]) (fun _ => rfl) (fun x22 h => ?_)
  refine g_iload_n o (q := 29) 2 rfl rfl dX0_passBeat_28 rfl ?_
  refine g_iconst o (v := 1) (q := 30) (by decide) dX0_passBeat_29 rfl ?_
  refine g_icmp_eq o (tgt := 44) (q := 33) dX0_passBeat_30 (by decide) rfl h (fun h => ?_) (fun h => ?_)
  · refine g_sub (lv' := [(0, .ref (eA (xE X) b0)), (2, .int y2), (3, .int x22)]) [1, 2, 0] rfl ?_
    exact w_X0_passBeat_J44 hres o hr  g0 h
  · refine g_aload_n o (q := 34) 1 rfl rfl dX0_passBeat_33 rfl ?_
    refine gf_X0_1 o (q := 37) g0 lk_X0_15 dX0_passBeat_34 rfl ?_
    refine g_aload_n o (q := 38) 1 rfl rfl dX0_passBeat_37 rfl ?_
    refine g_cvi o (q := 41) (As := []) (rest := [.int (σ b0 1)]) kv_X0_bears lk_X0_38 g0 (by decide) rfl rfl rfl (fun _ _ hc => c_X0_bears o.mk b0 g0 hc) dX0_passBeat_38 rfl ⟨rfl, rfl, Nat.le_of_ble_eq_true rfl, Nat.le_of_ble_eq_true rfl⟩ (Nat.le_of_ble_eq_true rfl) rfl h (fun r29 σ28 h => ?_)
    refine g_icmp_ge o (tgt := 65) (q := 44) dX0_passBeat_41 (by decide) rfl h (fun h => ?_) (fun h => ?_)
    · refine g_aload_n o (q := 66) 1 rfl rfl dX0_passBeat_65 rfl ?_
      refine g_bipush o (v := 20) (q := 68) (by decide) dX0_passBeat_66 rfl ?_
      refine g_aload_n o (q := 69) 1 rfl rfl dX0_passBeat_68 rfl ?_
      refine gf_X0_3 o (q := 72) g0 lk_X0_21 dX0_passBeat_69 rfl ?_
      refine g_aload_n o (q := 73) 1 rfl rfl dX0_passBeat_72 rfl ?_
      refine g_cvi o (q := 76) (As := []) (rest := [.int (σ28 b0 3), .int 20, .ref (eA (xE X) b0)]) kv_X0_rises lk_X0_44 g0 (by decide) rfl rfl rfl (fun _ _ hc => c_X0_rises o.mk b0 g0 hc) dX0_passBeat_73 rfl ⟨rfl, rfl, Nat.le_of_ble_eq_true rfl, Nat.le_of_ble_eq_true rfl⟩ (Nat.le_of_ble_eq_true rfl) rfl h (fun r31 σ30 h => ?_)
      refine g_iadd o (q := 77) dX0_passBeat_76 rfl ?_
      refine g_mmin o (q := 80) lk_X0_71 dX0_passBeat_77 rfl ⟨Nat.le_of_ble_eq_true rfl, Nat.le_of_ble_eq_true rfl⟩ ?_
      refine gp_X0_3 o (q := 83) g0 lk_X0_21 dX0_passBeat_80 rfl h (fun σ32 h => ?_)
      refine g_sub (lv' := [(0, .ref (eA (xE X) b0)), (2, .int y2), (3, .int x22)]) [1, 2, 0] rfl ?_
      exact w_X0_passBeat_J83 hres o hr  g0 h
    · refine g_sub (lv' := [(0, .ref (eA (xE X) b0)), (2, .int y2), (3, .int x22)]) [1, 2, 0] rfl ?_
      exact w_X0_passBeat_J44 hres o hr  g0 h
set_option maxRecDepth 100000 in
set_option maxHeartbeats 4000000 in
theorem w_X0_passBeat {X : Cx} {l : Launch} {r : Int32} {σr : Mem} {res : Int32 × Mem} (hres : res = (r, σr)) (o : OK X cX0_passBeat RX0 sdC 5 rm_X0_passBeat l) (hr : RI X .boolean r σr) (a0 : Nat) (x1 : Int32) (x2 : Int32) (h0 : kd sdC a0 0) {σ : Mem} (h : f_X0_passBeat a0 x1 x2 σ = some res) : G X σ 0 [(0, .ref (eA (xE X) a0)), (1, .int x1), (2, .int x2)] [] := by
  unfold f_X0_passBeat at h
  refine g_aload_n o (q := 1) 0 rfl rfl dX0_passBeat_0 rfl ?_
  refine g_iload_n o (q := 2) 1 rfl rfl dX0_passBeat_1 rfl ?_
  refine g_cvv o (q := 5) (As := [.int x1]) (rest := []) kv_X0_feel lk_X0_80 h0 (by decide) rfl rfl rfl (fun _ _ hc => c_X0_feel o.mk a0 x1 h0 hc) dX0_passBeat_2 rfl ⟨rfl, rfl, Nat.le_of_ble_eq_true rfl, Nat.le_of_ble_eq_true rfl⟩ (Nat.le_of_ble_eq_true rfl) rfl h (fun _u21 σ21 h => ?_)
  refine g_aload_n o (q := 6) 0 rfl rfl dX0_passBeat_5 rfl ?_
  refine gf_X0_4 o (q := 9) h0 lk_X0_24 dX0_passBeat_6 rfl ?_
  refine g_iconst o (v := 1) (q := 10) (by decide) dX0_passBeat_9 rfl ?_
  refine g_icmp_ne o (tgt := 15) (q := 13) dX0_passBeat_10 (by decide) rfl h (fun h => ?_) (fun h => ?_)
  · refine g_aload_n o (q := 16) 0 rfl rfl dX0_passBeat_15 rfl ?_
    refine gf_X0_3 o (q := 19) h0 lk_X0_21 dX0_passBeat_16 rfl ?_
    refine g_if_le o (tgt := 26) (q := 22) dX0_passBeat_19 (by decide) rfl h (fun h => ?_) (fun h => ?_)
    · refine g_iconst o (v := 0) (q := 27) (by decide) dX0_passBeat_26 rfl ?_
      refine g_sub (lv' := [(0, .ref (eA (xE X) a0)), (2, .int x2)]) [0, 2] rfl ?_
      exact w_X0_passBeat_J27 hres o hr  h0 h
    · refine g_iconst o (v := 1) (q := 23) (by decide) dX0_passBeat_22 rfl ?_
      refine g_goto o (tgt := 27) dX0_passBeat_23 (by decide) ?_
      refine g_sub (lv' := [(0, .ref (eA (xE X) a0)), (2, .int x2)]) [0, 2] rfl ?_
      exact w_X0_passBeat_J27 hres o hr  h0 h
  · refine g_iconst o (v := 0) (q := 14) (by decide) dX0_passBeat_13 rfl ?_
    exact g_iret o hr (h.trans (congrArg some hres)) (by decide) dX0_passBeat_14
theorem c_X0_passBeat {l : Launch} {E : En} {mk : Mem → Mem} (hmk : MK mk sdC) (a0 : Nat) (x1 : Int32) (x2 : Int32) (h0 : kd sdC a0 0) {σ : Mem} {r : Int32} {τ : Mem} (h : f_X0_passBeat a0 x1 x2 σ = some (r, τ)) : Met l yX0_passBeat (Cond.code yX0_passBeat cX0_passBeat 5 (some .boolean) :: wt) rm_X0_passBeat (PW E mk [.ref (eA E a0), .int x1, .int x2] σ) (QI E mk r τ) 0 0 (WA E) :=
  met_i (fun E => [.ref (eA E a0), .int x1, .int x2]) (by decide) hmk (Nat.le_of_ble_eq_true rfl) (fun X o hr => w_X0_passBeat rfl o hr a0 x1 x2 h0 h)
