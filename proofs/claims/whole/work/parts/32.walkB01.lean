set_option maxRecDepth 100000 in
set_option maxHeartbeats 4000000 in
theorem w_X3_valueAtHand_L7 {X : Cx} {l : Launch} {r : Int32} {σr : Mem} {res : Int32 × Mem} (hres : res = (r, σr)) (o : OK X cX3_valueAtHand RX3 sdC 3 rm_X3_valueAtHand l) (hr : RI X .int r σr)   : ∀ (n : Nat) (y1 : Int32) (y2 : Int32) (σ : Mem), f_X3_valueAtHand_L7  n y1 y2 σ = some res → G X σ 7 [(0, .ref (eA (xE X) 38)), (1, .int y1), (2, .int y2)] [] := by
  intro n
  induction n with
  | zero => intro y1 y2 σ  h; cases h
  | succ n ih =>
    intro y1 y2 σ  h
    rw [f_X3_valueAtHand_L7_s] at h
    refine g_iload_n o (q := 8) 2 rfl rfl dX3_valueAtHand_7 rfl ?_
    refine g_aload_n o (q := 9) 0 rfl rfl dX3_valueAtHand_8 rfl ?_
    refine gf_X3_4 o (q := 12) kC_38 lk_X3_19 dX3_valueAtHand_9 rfl ?_
    refine g_icmp_ge o (tgt := 42) (q := 15) dX3_valueAtHand_12 (by decide) rfl h (fun h => ?_) (fun h => ?_)
    · refine g_iload_n o (q := 43) 1 rfl rfl dX3_valueAtHand_42 rfl ?_
      exact g_iret o hr (h.trans (congrArg some hres)) rfl dX3_valueAtHand_43
    · refine g_sipush o (v := 10000) (q := 18) (by decide) dX3_valueAtHand_15 rfl ?_
      refine g_iload_n o (q := 19) 1 rfl rfl dX3_valueAtHand_18 rfl ?_
      refine g_bipush o (v := 10) (q := 21) (by decide) dX3_valueAtHand_19 rfl ?_
      refine g_imul o (q := 22) dX3_valueAtHand_21 rfl ?_
      refine g_aload_n o (q := 23) 0 rfl rfl dX3_valueAtHand_22 rfl ?_
      refine gf_X3_0 o (q := 26) kC_38 lk_X3_9 dX3_valueAtHand_23 rfl ?_
      refine g_iload_n o (q := 27) 2 rfl rfl dX3_valueAtHand_26 rfl ?_
      refine g_bald o (q := 28) kC_39 dX3_valueAtHand_27 rfl h (fun j23 hjj23 h => ?_)
      refine g_iadd o (q := 29) dX3_valueAtHand_28 rfl ?_
      refine g_bipush o (v := 48) (q := 31) (by decide) dX3_valueAtHand_29 rfl ?_
      refine g_isub o (q := 32) dX3_valueAtHand_31 rfl ?_
      refine g_mmin o (q := 35) lk_X3_131 dX3_valueAtHand_32 rfl ⟨Nat.le_of_ble_eq_true rfl, Nat.le_of_ble_eq_true rfl⟩ ?_
      refine g_istore_n o (q := 36) dX3_valueAtHand_35 rfl rfl (by decide) h (fun x24 => [(1, .int x24), (0, .ref (eA (xE X) 38)), (2, .int y2)]) (fun _ => rfl) (fun x24 h => ?_)
      refine g_iinc o (q := 39) (dn := 1) dX3_valueAtHand_36 rfl 2 rfl (by decide) (by decide) h (fun x25 => [(2, .int x25), (1, .int x24), (0, .ref (eA (xE X) 38))]) (fun _ => rfl) (fun x25 h => ?_)
      refine g_goto o (tgt := 7) dX3_valueAtHand_39 (by decide) ?_
      refine g_sub (lv' := [(0, .ref (eA (xE X) 38)), (1, .int x24), (2, .int x25)]) [2, 1, 0] rfl ?_
      exact ih x24 x25 σ  h
set_option maxRecDepth 100000 in
set_option maxHeartbeats 4000000 in
theorem w_X3_valueAtHand {X : Cx} {l : Launch} {r : Int32} {σr : Mem} {res : Int32 × Mem} (hres : res = (r, σr)) (o : OK X cX3_valueAtHand RX3 sdC 3 rm_X3_valueAtHand l) (hr : RI X .int r σr)   {σ : Mem} (h : f_X3_valueAtHand  σ = some res) : G X σ 0 [(0, .ref (eA (xE X) 38))] [] := by
  unfold f_X3_valueAtHand at h
  refine g_iconst o (v := 0) (q := 1) (by decide) dX3_valueAtHand_0 rfl ?_
  refine g_istore_n o (q := 2) dX3_valueAtHand_1 rfl rfl (by decide) h (fun x21 => [(1, .int x21), (0, .ref (eA (xE X) 38))]) (fun _ => rfl) (fun x21 h => ?_)
  refine g_aload_n o (q := 3) 1 rfl rfl dX3_valueAtHand_2 rfl ?_
  refine gf_X3_3 o (q := 6) kC_38 lk_X3_40 dX3_valueAtHand_3 rfl ?_
  refine g_istore_n o (q := 7) dX3_valueAtHand_6 rfl rfl (by decide) h (fun x22 => [(2, .int x22), (1, .int x21), (0, .ref (eA (xE X) 38))]) (fun _ => rfl) (fun x22 h => ?_)
  refine g_sub (lv' := [(0, .ref (eA (xE X) 38)), (1, .int x21), (2, .int x22)]) [2, 1, 0] rfl ?_
  exact w_X3_valueAtHand_L7 hres o hr  FU x21 x22 σ  h
theorem c_X3_valueAtHand {l : Launch} {E : En} {mk : Mem → Mem} (hmk : MK mk sdC)   {σ : Mem} {r : Int32} {τ : Mem} (h : f_X3_valueAtHand  σ = some (r, τ)) : Met l yX3_valueAtHand (Cond.code yX3_valueAtHand cX3_valueAtHand 3 (some .int) :: wt) rm_X3_valueAtHand (PW E mk [.ref (eA E 38)] σ) (QI E mk r τ) 0 0 (WA E) :=
  met_i (fun E => [.ref (eA E 38)]) (by decide) hmk (Nat.le_of_ble_eq_true rfl) (fun X o hr => w_X3_valueAtHand rfl o hr   h)
set_option maxRecDepth 100000 in
set_option maxHeartbeats 4000000 in
theorem w_X3_tokenBegunBy_J28 {X : Cx} {l : Launch} {r : Int32} {σr : Mem} {res : Int32 × Mem} (hres : res = (r, σr)) (o : OK X cX3_tokenBegunBy RX3 sdC 1 rm_X3_tokenBegunBy l) (hr : RI X .int r σr)   {y0 : Int32}  {σ : Mem} (h : f_X3_tokenBegunBy_J28  y0 σ = some res) : G X σ 28 [(0, .int y0)] [] := by
  unfold f_X3_tokenBegunBy_J28 at h
  refine g_iload_n o (q := 29) 0 rfl rfl dX3_tokenBegunBy_28 rfl ?_
  refine g_bipush o (v := 59) (q := 31) (by decide) dX3_tokenBegunBy_29 rfl ?_
  refine g_icmp_ne o (tgt := 38) (q := 34) dX3_tokenBegunBy_31 (by decide) rfl h (fun h => ?_) (fun h => ?_)
  · refine g_iconst o (v := 4) (q := 39) (by decide) dX3_tokenBegunBy_38 rfl ?_
    exact g_iret o hr (h.trans (congrArg some hres)) rfl dX3_tokenBegunBy_39
  · refine g_iconst o (v := 2) (q := 35) (by decide) dX3_tokenBegunBy_34 rfl ?_
    refine g_goto o (tgt := 39) dX3_tokenBegunBy_35 (by decide) ?_
    exact g_iret o hr (h.trans (congrArg some hres)) rfl dX3_tokenBegunBy_39
set_option maxRecDepth 100000 in
set_option maxHeartbeats 4000000 in
theorem w_X3_tokenBegunBy_J14 {X : Cx} {l : Launch} {r : Int32} {σr : Mem} {res : Int32 × Mem} (hres : res = (r, σr)) (o : OK X cX3_tokenBegunBy RX3 sdC 1 rm_X3_tokenBegunBy l) (hr : RI X .int r σr)   {y0 : Int32}  {σ : Mem} (h : f_X3_tokenBegunBy_J14  y0 σ = some res) : G X σ 14 [(0, .int y0)] [] := by
  unfold f_X3_tokenBegunBy_J14 at h
  refine g_iload_n o (q := 15) 0 rfl rfl dX3_tokenBegunBy_14 rfl ?_
  refine g_bipush o (v := 48) (q := 17) (by decide) dX3_tokenBegunBy_15 rfl ?_
  refine g_icmp_lt o (tgt := 28) (q := 20) dX3_tokenBegunBy_17 (by decide) rfl h (fun h => ?_) (fun h => ?_)
  · exact w_X3_tokenBegunBy_J28 hres o hr   h
  · refine g_iload_n o (q := 21) 0 rfl rfl dX3_tokenBegunBy_20 rfl ?_
    refine g_bipush o (v := 57) (q := 23) (by decide) dX3_tokenBegunBy_21 rfl ?_
    refine g_icmp_gt o (tgt := 28) (q := 26) dX3_tokenBegunBy_23 (by decide) rfl h (fun h => ?_) (fun h => ?_)
    · exact w_X3_tokenBegunBy_J28 hres o hr   h
    · refine g_iconst o (v := 1) (q := 27) (by decide) dX3_tokenBegunBy_26 rfl ?_
      exact g_iret o hr (h.trans (congrArg some hres)) rfl dX3_tokenBegunBy_27
set_option maxRecDepth 100000 in
set_option maxHeartbeats 4000000 in
theorem w_X3_tokenBegunBy {X : Cx} {l : Launch} {r : Int32} {σr : Mem} {res : Int32 × Mem} (hres : res = (r, σr)) (o : OK X cX3_tokenBegunBy RX3 sdC 1 rm_X3_tokenBegunBy l) (hr : RI X .int r σr) (x0 : Int32)  {σ : Mem} (h : f_X3_tokenBegunBy x0 σ = some res) : G X σ 0 [(0, .int x0)] [] := by
  unfold f_X3_tokenBegunBy at h
  refine g_iload_n o (q := 1) 0 rfl rfl dX3_tokenBegunBy_0 rfl ?_
  refine g_bipush o (v := 97) (q := 3) (by decide) dX3_tokenBegunBy_1 rfl ?_
  refine g_icmp_lt o (tgt := 14) (q := 6) dX3_tokenBegunBy_3 (by decide) rfl h (fun h => ?_) (fun h => ?_)
  · exact w_X3_tokenBegunBy_J14 hres o hr   h
  · refine g_iload_n o (q := 7) 0 rfl rfl dX3_tokenBegunBy_6 rfl ?_
    refine g_bipush o (v := 122) (q := 9) (by decide) dX3_tokenBegunBy_7 rfl ?_
    refine g_icmp_gt o (tgt := 14) (q := 12) dX3_tokenBegunBy_9 (by decide) rfl h (fun h => ?_) (fun h => ?_)
    · exact w_X3_tokenBegunBy_J14 hres o hr   h
    · refine g_iconst o (v := 0) (q := 13) (by decide) dX3_tokenBegunBy_12 rfl ?_
      exact g_iret o hr (h.trans (congrArg some hres)) rfl dX3_tokenBegunBy_13
theorem c_X3_tokenBegunBy {l : Launch} {E : En} {mk : Mem → Mem} (hmk : MK mk sdC) (x0 : Int32)  {σ : Mem} {r : Int32} {τ : Mem} (h : f_X3_tokenBegunBy x0 σ = some (r, τ)) : Met l yX3_tokenBegunBy (Cond.code yX3_tokenBegunBy cX3_tokenBegunBy 1 (some .int) :: wt) rm_X3_tokenBegunBy (PW E mk [.int x0] σ) (QI E mk r τ) 0 0 (WA E) :=
  met_i (fun E => [.int x0]) (by decide) hmk (Nat.le_of_ble_eq_true rfl) (fun X o hr => w_X3_tokenBegunBy rfl o hr x0  h)
set_option maxRecDepth 100000 in
set_option maxHeartbeats 4000000 in
theorem w_X3_step_J169 {X : Cx} {l : Launch} {u : Unit} {σr : Mem} {res : Unit × Mem} (hres : res = (u, σr)) (o : OK X cX3_step RX3 sdC 1 rm_X3_step l) (hr : RV X σr)   {s1 : Int32}  {σ : Mem} (h : f_X3_step_J169  s1 σ = some res) : G X σ 169 [] [.int s1, .ref (eA (xE X) 38)] := by
  unfold f_X3_step_J169 at h
  refine gp_X3_5 o (q := 172) kC_38 lk_X3_124 dX3_step_169 rfl h (fun σ24 h => ?_)
  exact g_vret o hr (h.trans (congrArg some hres)) dX3_step_172
set_option maxRecDepth 100000 in
set_option maxHeartbeats 4000000 in
theorem w_X3_step_J152 {X : Cx} {l : Launch} {u : Unit} {σr : Mem} {res : Unit × Mem} (hres : res = (u, σr)) (o : OK X cX3_step RX3 sdC 1 rm_X3_step l) (hr : RV X σr)     {σ : Mem} (h : f_X3_step_J152   σ = some res) : G X σ 152 [(0, .ref (eA (xE X) 38))] [] := by
  unfold f_X3_step_J152 at h
  refine g_aload_n o (q := 153) 0 rfl rfl dX3_step_152 rfl ?_
  refine g_aload_n o (q := 154) 0 rfl rfl dX3_step_153 rfl ?_
  refine gf_X3_2 o (q := 157) kC_38 lk_X3_37 dX3_step_154 rfl ?_
  refine g_iconst o (v := 1) (q := 158) (by decide) dX3_step_157 rfl ?_
  refine g_icmp_ne o (tgt := 168) (q := 161) dX3_step_158 (by decide) rfl h (fun h => ?_) (fun h => ?_)
  · refine g_iconst o (v := 0) (q := 169) (by decide) dX3_step_168 rfl ?_
    refine g_sub (lv' := []) [] rfl ?_
    exact w_X3_step_J169 hres o hr   h
  · refine g_aload_n o (q := 162) 0 rfl rfl dX3_step_161 rfl ?_
    refine g_cvi o (q := 165) (As := []) (rest := [.ref (eA (xE X) 38)]) kv_X3_valueAtHand lk_X3_137 kC_38 (by decide) rfl rfl rfl (fun _ _ hc => c_X3_valueAtHand o.mk  hc) dX3_step_162 rfl ⟨rfl, rfl, Nat.le_of_ble_eq_true rfl, Nat.le_of_ble_eq_true rfl⟩ (Nat.le_of_ble_eq_true rfl) rfl h (fun r26 σ25 h => ?_)
    refine g_goto o (tgt := 169) dX3_step_165 (by decide) ?_
    refine g_sub (lv' := []) [] rfl ?_
    exact w_X3_step_J169 hres o hr   h
set_option maxRecDepth 100000 in
set_option maxHeartbeats 4000000 in
theorem w_X3_step_J109 {X : Cx} {l : Launch} {u : Unit} {σr : Mem} {res : Unit × Mem} (hres : res = (u, σr)) (o : OK X cX3_step RX3 sdC 1 rm_X3_step l) (hr : RV X σr) {k94 : Mem → Option (Unit × Mem)} (hk94 : ∀  (σ : Mem), k94  σ = some res → G X σ 94 [(0, .ref (eA (xE X) 38))] [])   {σ : Mem} (h : f_X3_step_J109 k94  σ = some res) : G X σ 109 [(0, .ref (eA (xE X) 38))] [] := by
  unfold f_X3_step_J109 at h
  refine g_aload_n o (q := 110) 0 rfl rfl dX3_step_109 rfl ?_
  refine gf_X3_4 o (q := 113) kC_38 lk_X3_19 dX3_step_110 rfl ?_
  refine g_aload_n o (q := 114) 0 rfl rfl dX3_step_113 rfl ?_
  refine gf_X3_1 o (q := 117) kC_38 lk_X3_15 dX3_step_114 rfl ?_
  refine g_icmp_ge o (tgt := 152) (q := 120) dX3_step_117 (by decide) rfl h (fun h => ?_) (fun h => ?_)
  · exact w_X3_step_J152 hres o hr   h
  · refine g_aload_n o (q := 121) 0 rfl rfl dX3_step_120 rfl ?_
    refine gf_X3_0 o (q := 124) kC_38 lk_X3_9 dX3_step_121 rfl ?_
    refine g_aload_n o (q := 125) 0 rfl rfl dX3_step_124 rfl ?_
    refine gf_X3_4 o (q := 128) kC_38 lk_X3_19 dX3_step_125 rfl ?_
    refine g_bald o (q := 129) kC_39 dX3_step_128 rfl h (fun j27 hjj27 h => ?_)
    refine g_csi o (q := 132) (As := [.int (σ 39 j27)]) (rest := []) kv_X3_tokenBegunBy lk_X3_127 rfl (fun _ _ hc => c_X3_tokenBegunBy o.mk (σ 39 j27) hc) dX3_step_129 rfl ⟨rfl, rfl, Nat.le_of_ble_eq_true rfl, Nat.le_of_ble_eq_true rfl⟩ (Nat.le_of_ble_eq_true rfl) rfl h (fun r29 σ28 h => ?_)
    refine g_aload_n o (q := 133) 0 rfl rfl dX3_step_132 rfl ?_
    refine gf_X3_2 o (q := 136) kC_38 lk_X3_37 dX3_step_133 rfl ?_
    refine g_icmp_ne o (tgt := 152) (q := 139) dX3_step_136 (by decide) rfl h (fun h => ?_) (fun h => ?_)
    · exact w_X3_step_J152 hres o hr   h
    · refine g_aload_n o (q := 140) 0 rfl rfl dX3_step_139 rfl ?_
      refine g_dup o (q := 141) rfl dX3_step_140 rfl ?_
      refine gf_X3_4 o (q := 144) kC_38 lk_X3_19 dX3_step_141 rfl ?_
      refine g_iconst o (v := 1) (q := 145) (by decide) dX3_step_144 rfl ?_
      refine g_iadd o (q := 146) dX3_step_145 rfl ?_
      refine gp_X3_4 o (q := 149) kC_38 lk_X3_19 dX3_step_146 rfl h (fun σ30 h => ?_)
      refine g_goto o (tgt := 94) dX3_step_149 (by decide) ?_
      exact hk94  σ30  h
set_option maxRecDepth 100000 in
set_option maxHeartbeats 4000000 in
theorem w_X3_step_L94 {X : Cx} {l : Launch} {u : Unit} {σr : Mem} {res : Unit × Mem} (hres : res = (u, σr)) (o : OK X cX3_step RX3 sdC 1 rm_X3_step l) (hr : RV X σr)   : ∀ (n : Nat)  (σ : Mem), f_X3_step_L94  n  σ = some res → G X σ 94 [(0, .ref (eA (xE X) 38))] [] := by
  intro n
  induction n with
  | zero => intro  σ  h; cases h
  | succ n ih =>
    intro  σ  h
    rw [f_X3_step_L94_s] at h
    refine g_aload_n o (q := 95) 0 rfl rfl dX3_step_94 rfl ?_
    refine gf_X3_2 o (q := 98) kC_38 lk_X3_37 dX3_step_95 rfl ?_
    refine g_if_eq o (tgt := 109) (q := 101) dX3_step_98 (by decide) rfl h (fun h => ?_) (fun h => ?_)
    · exact w_X3_step_J109 hres o hr ih  h
    · refine g_aload_n o (q := 102) 0 rfl rfl dX3_step_101 rfl ?_
      refine gf_X3_2 o (q := 105) kC_38 lk_X3_37 dX3_step_102 rfl ?_
      refine g_iconst o (v := 1) (q := 106) (by decide) dX3_step_105 rfl ?_
      refine g_icmp_ne o (tgt := 152) (q := 109) dX3_step_106 (by decide) rfl h (fun h => ?_) (fun h => ?_)
      · exact w_X3_step_J152 hres o hr   h
      · exact w_X3_step_J109 hres o hr ih  h
set_option maxRecDepth 100000 in
set_option maxHeartbeats 4000000 in
theorem w_X3_step_J74 {X : Cx} {l : Launch} {u : Unit} {σr : Mem} {res : Unit × Mem} (hres : res = (u, σr)) (o : OK X cX3_step RX3 sdC 1 rm_X3_step l) (hr : RV X σr)   {s1 : Int32}  {σ : Mem} (h : f_X3_step_J74  s1 σ = some res) : G X σ 74 [(0, .ref (eA (xE X) 38))] [.int s1, .ref (eA (xE X) 38)] := by
  unfold f_X3_step_J74 at h
  refine gp_X3_2 o (q := 77) kC_38 lk_X3_37 dX3_step_74 rfl h (fun σ22 h => ?_)
  refine g_aload_n o (q := 78) 0 rfl rfl dX3_step_77 rfl ?_
  refine g_aload_n o (q := 79) 0 rfl rfl dX3_step_78 rfl ?_
  refine gf_X3_1 o (q := 82) kC_38 lk_X3_15 dX3_step_79 rfl ?_
  refine g_aload_n o (q := 83) 0 rfl rfl dX3_step_82 rfl ?_
  refine gf_X3_3 o (q := 86) kC_38 lk_X3_40 dX3_step_83 rfl ?_
  refine g_iconst o (v := 1) (q := 87) (by decide) dX3_step_86 rfl ?_
  refine g_iadd o (q := 88) dX3_step_87 rfl ?_
  refine g_mmin o (q := 91) lk_X3_131 dX3_step_88 rfl ⟨Nat.le_of_ble_eq_true rfl, Nat.le_of_ble_eq_true rfl⟩ ?_
  refine gp_X3_4 o (q := 94) kC_38 lk_X3_19 dX3_step_91 rfl h (fun σ23 h => ?_)
  exact w_X3_step_L94 hres o hr  FU  σ23  h
set_option maxRecDepth 100000 in
set_option maxHeartbeats 4000000 in
theorem w_X3_step_J46 {X : Cx} {l : Launch} {u : Unit} {σr : Mem} {res : Unit × Mem} (hres : res = (u, σr)) (o : OK X cX3_step RX3 sdC 1 rm_X3_step l) (hr : RV X σr)     {σ : Mem} (h : f_X3_step_J46   σ = some res) : G X σ 46 [(0, .ref (eA (xE X) 38))] [] := by
  unfold f_X3_step_J46 at h
  refine g_aload_n o (q := 47) 0 rfl rfl dX3_step_46 rfl ?_
  refine g_aload_n o (q := 48) 0 rfl rfl dX3_step_47 rfl ?_
  refine gf_X3_3 o (q := 51) kC_38 lk_X3_40 dX3_step_48 rfl ?_
  refine g_aload_n o (q := 52) 0 rfl rfl dX3_step_51 rfl ?_
  refine gf_X3_1 o (q := 55) kC_38 lk_X3_15 dX3_step_52 rfl ?_
  refine g_icmp_ge o (tgt := 73) (q := 58) dX3_step_55 (by decide) rfl h (fun h => ?_) (fun h => ?_)
  · refine g_iconst o (v := 3) (q := 74) (by decide) dX3_step_73 rfl ?_
    exact w_X3_step_J74 hres o hr   h
  · refine g_aload_n o (q := 59) 0 rfl rfl dX3_step_58 rfl ?_
    refine gf_X3_0 o (q := 62) kC_38 lk_X3_9 dX3_step_59 rfl ?_
    refine g_aload_n o (q := 63) 0 rfl rfl dX3_step_62 rfl ?_
    refine gf_X3_3 o (q := 66) kC_38 lk_X3_40 dX3_step_63 rfl ?_
    refine g_bald o (q := 67) kC_39 dX3_step_66 rfl h (fun j31 hjj31 h => ?_)
    refine g_csi o (q := 70) (As := [.int (σ 39 j31)]) (rest := [.ref (eA (xE X) 38)]) kv_X3_tokenBegunBy lk_X3_127 rfl (fun _ _ hc => c_X3_tokenBegunBy o.mk (σ 39 j31) hc) dX3_step_67 rfl ⟨rfl, rfl, Nat.le_of_ble_eq_true rfl, Nat.le_of_ble_eq_true rfl⟩ (Nat.le_of_ble_eq_true rfl) rfl h (fun r33 σ32 h => ?_)
    refine g_goto o (tgt := 74) dX3_step_70 (by decide) ?_
    exact w_X3_step_J74 hres o hr   h
set_option maxRecDepth 100000 in
set_option maxHeartbeats 4000000 in
theorem w_X3_step_L8 {X : Cx} {l : Launch} {u : Unit} {σr : Mem} {res : Unit × Mem} (hres : res = (u, σr)) (o : OK X cX3_step RX3 sdC 1 rm_X3_step l) (hr : RV X σr)   : ∀ (n : Nat)  (σ : Mem), f_X3_step_L8  n  σ = some res → G X σ 8 [(0, .ref (eA (xE X) 38))] [] := by
  intro n
  induction n with
  | zero => intro  σ  h; cases h
  | succ n ih =>
    intro  σ  h
    rw [f_X3_step_L8_s] at h
    refine g_aload_n o (q := 9) 0 rfl rfl dX3_step_8 rfl ?_
    refine gf_X3_3 o (q := 12) kC_38 lk_X3_40 dX3_step_9 rfl ?_
    refine g_aload_n o (q := 13) 0 rfl rfl dX3_step_12 rfl ?_
    refine gf_X3_1 o (q := 16) kC_38 lk_X3_15 dX3_step_13 rfl ?_
    refine g_icmp_ge o (tgt := 46) (q := 19) dX3_step_16 (by decide) rfl h (fun h => ?_) (fun h => ?_)
    · exact w_X3_step_J46 hres o hr   h
    · refine g_aload_n o (q := 20) 0 rfl rfl dX3_step_19 rfl ?_
      refine gf_X3_0 o (q := 23) kC_38 lk_X3_9 dX3_step_20 rfl ?_
      refine g_aload_n o (q := 24) 0 rfl rfl dX3_step_23 rfl ?_
      refine gf_X3_3 o (q := 27) kC_38 lk_X3_40 dX3_step_24 rfl ?_
      refine g_bald o (q := 28) kC_39 dX3_step_27 rfl h (fun j34 hjj34 h => ?_)
      refine g_bipush o (v := 32) (q := 30) (by decide) dX3_step_28 rfl ?_
      refine g_icmp_ne o (tgt := 46) (q := 33) dX3_step_30 (by decide) rfl h (fun h => ?_) (fun h => ?_)
      · exact w_X3_step_J46 hres o hr   h
      · refine g_aload_n o (q := 34) 0 rfl rfl dX3_step_33 rfl ?_
        refine g_dup o (q := 35) rfl dX3_step_34 rfl ?_
        refine gf_X3_3 o (q := 38) kC_38 lk_X3_40 dX3_step_35 rfl ?_
        refine g_iconst o (v := 1) (q := 39) (by decide) dX3_step_38 rfl ?_
        refine g_iadd o (q := 40) dX3_step_39 rfl ?_
        refine gp_X3_3 o (q := 43) kC_38 lk_X3_40 dX3_step_40 rfl h (fun σ35 h => ?_)
        refine g_goto o (tgt := 8) dX3_step_43 (by decide) ?_
        exact ih  σ35  h
set_option maxRecDepth 100000 in
set_option maxHeartbeats 4000000 in
theorem w_X3_step {X : Cx} {l : Launch} {u : Unit} {σr : Mem} {res : Unit × Mem} (hres : res = (u, σr)) (o : OK X cX3_step RX3 sdC 1 rm_X3_step l) (hr : RV X σr)   {σ : Mem} (h : f_X3_step  σ = some res) : G X σ 0 [(0, .ref (eA (xE X) 38))] [] := by
  unfold f_X3_step at h
  refine g_aload_n o (q := 1) 0 rfl rfl dX3_step_0 rfl ?_
  refine g_aload_n o (q := 2) 0 rfl rfl dX3_step_1 rfl ?_
  refine gf_X3_4 o (q := 5) kC_38 lk_X3_19 dX3_step_2 rfl ?_
  refine gp_X3_3 o (q := 8) kC_38 lk_X3_40 dX3_step_5 rfl h (fun σ21 h => ?_)
  exact w_X3_step_L8 hres o hr  FU  σ21  h
theorem c_X3_step {l : Launch} {E : En} {mk : Mem → Mem} (hmk : MK mk sdC)   {σ : Mem} {r : Unit} {τ : Mem} (h : f_X3_step  σ = some (r, τ)) : Met l yX3_step (Cond.code yX3_step cX3_step 1 none :: wt) rm_X3_step (PW E mk [.ref (eA E 38)] σ) (QV E mk τ) 0 0 (WA E) :=
  met_v (fun E => [.ref (eA E 38)]) (by decide) hmk (Nat.le_of_ble_eq_true rfl) (fun X o hr => w_X3_step rfl o hr   h)
set_option maxRecDepth 100000 in
set_option maxHeartbeats 4000000 in
theorem w_X3_isWord_L27 {X : Cx} {l : Launch} {r : Int32} {σr : Mem} {res : Int32 × Mem} (hres : res = (r, σr)) (o : OK X cX3_isWord RX3 sdC 3 rm_X3_isWord l) (hr : RI X .boolean r σr)   : ∀ (n : Nat) (b1 : Nat) (y2 : Int32) (σ : Mem), b1 < 14 → f_X3_isWord_L27  n b1 y2 σ = some res → G X σ 27 [(0, .ref (eA (xE X) 38)), (1, .ref (eK (xE X) b1)), (2, .int y2)] [] := by
  intro n
  induction n with
  | zero => intro b1 y2 σ g1 h; cases h
  | succ n ih =>
    intro b1 y2 σ g1 h
    rw [f_X3_isWord_L27_s] at h
    refine g_iload_n o (q := 28) 2 rfl rfl dX3_isWord_27 rfl ?_
    refine g_aload_n o (q := 29) 1 rfl rfl dX3_isWord_28 rfl ?_
    refine g_cst o (q := 32) (As := []) (rest := [.int y2]) kv_J0_length_8abf5 lk_X3_116 g1 rfl rfl (fun _ _ hc => c_J0_length_8abf5 o.mk b1 g1 hc) dX3_isWord_29 rfl ⟨rfl, rfl, Nat.le_of_ble_eq_true rfl, Nat.le_of_ble_eq_true rfl⟩ (Nat.le_of_ble_eq_true rfl) rfl h (fun r25 σ24 h => ?_)
    refine g_icmp_ge o (tgt := 62) (q := 35) dX3_isWord_32 (by decide) rfl h (fun h => ?_) (fun h => ?_)
    · refine g_iconst o (v := 1) (q := 63) (by decide) dX3_isWord_62 rfl ?_
      exact g_iret o hr (h.trans (congrArg some hres)) (by decide) dX3_isWord_63
    · refine g_aload_n o (q := 36) 0 rfl rfl dX3_isWord_35 rfl ?_
      refine gf_X3_0 o (q := 39) kC_38 lk_X3_9 dX3_isWord_36 rfl ?_
      refine g_aload_n o (q := 40) 0 rfl rfl dX3_isWord_39 rfl ?_
      refine gf_X3_3 o (q := 43) kC_38 lk_X3_40 dX3_isWord_40 rfl ?_
      refine g_iload_n o (q := 44) 2 rfl rfl dX3_isWord_43 rfl ?_
      refine g_iadd o (q := 45) dX3_isWord_44 rfl ?_
      refine g_bald o (q := 46) kC_39 dX3_isWord_45 rfl h (fun j26 hjj26 h => ?_)
      refine g_aload_n o (q := 47) 1 rfl rfl dX3_isWord_46 rfl ?_
      refine g_iload_n o (q := 48) 2 rfl rfl dX3_isWord_47 rfl ?_
      refine g_cst o (q := 51) (As := [.int y2]) (rest := [.int (σ24 39 j26)]) kv_J0_charAt_5068e lk_X3_120 g1 rfl rfl (fun _ _ hc => c_J0_charAt_5068e o.mk b1 y2 g1 hc) dX3_isWord_48 rfl ⟨rfl, rfl, Nat.le_of_ble_eq_true rfl, Nat.le_of_ble_eq_true rfl⟩ (Nat.le_of_ble_eq_true rfl) rfl h (fun r28 σ27 h => ?_)
      refine g_icmp_eq o (tgt := 56) (q := 54) dX3_isWord_51 (by decide) rfl h (fun h => ?_) (fun h => ?_)
      · refine g_iinc o (q := 59) (dn := 1) dX3_isWord_56 rfl 2 rfl (by decide) (by decide) h (fun x29 => [(2, .int x29), (0, .ref (eA (xE X) 38)), (1, .ref (eK (xE X) b1))]) (fun _ => rfl) (fun x29 h => ?_)
        refine g_goto o (tgt := 27) dX3_isWord_59 (by decide) ?_
        refine g_sub (lv' := [(0, .ref (eA (xE X) 38)), (1, .ref (eK (xE X) b1)), (2, .int x29)]) [1, 2, 0] rfl ?_
        exact ih b1 x29 σ27 g1 h
      · refine g_iconst o (v := 0) (q := 55) (by decide) dX3_isWord_54 rfl ?_
        exact g_iret o hr (h.trans (congrArg some hres)) (by decide) dX3_isWord_55
set_option maxRecDepth 100000 in
set_option maxHeartbeats 4000000 in
theorem w_X3_isWord {X : Cx} {l : Launch} {r : Int32} {σr : Mem} {res : Int32 × Mem} (hres : res = (r, σr)) (o : OK X cX3_isWord RX3 sdC 3 rm_X3_isWord l) (hr : RI X .boolean r σr) (a1 : Nat) (h1 : a1 < 14) {σ : Mem} (h : f_X3_isWord a1 σ = some res) : G X σ 0 [(0, .ref (eA (xE X) 38)), (1, .ref (eK (xE X) a1))] [] := by
  unfold f_X3_isWord at h
  refine g_aload_n o (q := 1) 0 rfl rfl dX3_isWord_0 rfl ?_
  refine gf_X3_2 o (q := 4) kC_38 lk_X3_37 dX3_isWord_1 rfl ?_
  refine g_if_ne o (tgt := 23) (q := 7) dX3_isWord_4 (by decide) rfl h (fun h => ?_) (fun h => ?_)
  · refine g_iconst o (v := 0) (q := 24) (by decide) dX3_isWord_23 rfl ?_
    exact g_iret o hr (h.trans (congrArg some hres)) (by decide) dX3_isWord_24
  · refine g_aload_n o (q := 8) 0 rfl rfl dX3_isWord_7 rfl ?_
    refine gf_X3_4 o (q := 11) kC_38 lk_X3_19 dX3_isWord_8 rfl ?_
    refine g_aload_n o (q := 12) 0 rfl rfl dX3_isWord_11 rfl ?_
    refine gf_X3_3 o (q := 15) kC_38 lk_X3_40 dX3_isWord_12 rfl ?_
    refine g_isub o (q := 16) dX3_isWord_15 rfl ?_
    refine g_aload_n o (q := 17) 1 rfl rfl dX3_isWord_16 rfl ?_
    refine g_cst o (q := 20) (As := []) (rest := [.int ((σ 38 4) - (σ 38 3))]) kv_J0_length_8abf5 lk_X3_116 h1 rfl rfl (fun _ _ hc => c_J0_length_8abf5 o.mk a1 h1 hc) dX3_isWord_17 rfl ⟨rfl, rfl, Nat.le_of_ble_eq_true rfl, Nat.le_of_ble_eq_true rfl⟩ (Nat.le_of_ble_eq_true rfl) rfl h (fun r22 σ21 h => ?_)
    refine g_icmp_eq o (tgt := 25) (q := 23) dX3_isWord_20 (by decide) rfl h (fun h => ?_) (fun h => ?_)
    · refine g_iconst o (v := 0) (q := 26) (by decide) dX3_isWord_25 rfl ?_
      refine g_istore_n o (q := 27) dX3_isWord_26 rfl rfl (by decide) h (fun x23 => [(2, .int x23), (0, .ref (eA (xE X) 38)), (1, .ref (eK (xE X) a1))]) (fun _ => rfl) (fun x23 h => ?_)
      refine g_sub (lv' := [(0, .ref (eA (xE X) 38)), (1, .ref (eK (xE X) a1)), (2, .int x23)]) [1, 2, 0] rfl ?_
      exact w_X3_isWord_L27 hres o hr  FU a1 x23 σ21 h1 h
    · refine g_iconst o (v := 0) (q := 24) (by decide) dX3_isWord_23 rfl ?_
      exact g_iret o hr (h.trans (congrArg some hres)) (by decide) dX3_isWord_24
theorem c_X3_isWord {l : Launch} {E : En} {mk : Mem → Mem} (hmk : MK mk sdC) (a1 : Nat) (h1 : a1 < 14) {σ : Mem} {r : Int32} {τ : Mem} (h : f_X3_isWord a1 σ = some (r, τ)) : Met l yX3_isWord (Cond.code yX3_isWord cX3_isWord 3 (some .boolean) :: wt) rm_X3_isWord (PW E mk [.ref (eA E 38), .ref (eK E a1)] σ) (QI E mk r τ) 0 0 (WA E) :=
  met_i (fun E => [.ref (eA E 38), .ref (eK E a1)]) (by decide) hmk (Nat.le_of_ble_eq_true rfl) (fun X o hr => w_X3_isWord rfl o hr a1 h1 h)
set_option maxRecDepth 100000 in
set_option maxHeartbeats 4000000 in
theorem w_X3_kindAtHand {X : Cx} {l : Launch} {r : Int32} {σr : Mem} {res : Int32 × Mem} (hres : res = (r, σr)) (o : OK X cX3_kindAtHand RX3 sdC 1 rm_X3_kindAtHand l) (hr : RI X .int r σr)   {σ : Mem} (h : f_X3_kindAtHand  σ = some res) : G X σ 0 [(0, .ref (eA (xE X) 38))] [] := by
  unfold f_X3_kindAtHand at h
  refine g_aload_n o (q := 1) 0 rfl rfl dX3_kindAtHand_0 rfl ?_
  refine g_ldcS o (q := 3) (t := 0) (tx := "curtain") (by decide +kernel) dX3_kindAtHand_1 rfl ?_
  refine g_cvi o (q := 6) (As := [.ref (eK (xE X) 0)]) (rest := []) kv_X3_isWord lk_X3_101 kC_38 (by decide) rfl rfl rfl (fun _ _ hc => c_X3_isWord o.mk 0 (by decide : 0 < 14) hc) dX3_kindAtHand_3 rfl ⟨rfl, rfl, Nat.le_of_ble_eq_true rfl, Nat.le_of_ble_eq_true rfl⟩ (Nat.le_of_ble_eq_true rfl) rfl h (fun r22 σ21 h => ?_)
  refine g_if_eq o (tgt := 11) (q := 9) dX3_kindAtHand_6 (by decide) rfl h (fun h => ?_) (fun h => ?_)
  · refine g_aload_n o (q := 12) 0 rfl rfl dX3_kindAtHand_11 rfl ?_
    refine g_ldcS o (q := 14) (t := 1) (tx := "velvet") (by decide +kernel) dX3_kindAtHand_12 rfl ?_
    refine g_cvi o (q := 17) (As := [.ref (eK (xE X) 1)]) (rest := []) kv_X3_isWord lk_X3_101 kC_38 (by decide) rfl rfl rfl (fun _ _ hc => c_X3_isWord o.mk 1 (by decide : 1 < 14) hc) dX3_kindAtHand_14 rfl ⟨rfl, rfl, Nat.le_of_ble_eq_true rfl, Nat.le_of_ble_eq_true rfl⟩ (Nat.le_of_ble_eq_true rfl) rfl h (fun r24 σ23 h => ?_)
    refine g_if_eq o (tgt := 22) (q := 20) dX3_kindAtHand_17 (by decide) rfl h (fun h => ?_) (fun h => ?_)
    · refine g_aload_n o (q := 23) 0 rfl rfl dX3_kindAtHand_22 rfl ?_
      refine g_ldcS o (q := 25) (t := 2) (tx := "gauze") (by decide +kernel) dX3_kindAtHand_23 rfl ?_
      refine g_cvi o (q := 28) (As := [.ref (eK (xE X) 2)]) (rest := []) kv_X3_isWord lk_X3_101 kC_38 (by decide) rfl rfl rfl (fun _ _ hc => c_X3_isWord o.mk 2 (by decide : 2 < 14) hc) dX3_kindAtHand_25 rfl ⟨rfl, rfl, Nat.le_of_ble_eq_true rfl, Nat.le_of_ble_eq_true rfl⟩ (Nat.le_of_ble_eq_true rfl) rfl h (fun r26 σ25 h => ?_)
      refine g_if_eq o (tgt := 33) (q := 31) dX3_kindAtHand_28 (by decide) rfl h (fun h => ?_) (fun h => ?_)
      · refine g_aload_n o (q := 34) 0 rfl rfl dX3_kindAtHand_33 rfl ?_
        refine g_ldcS o (q := 36) (t := 3) (tx := "drop") (by decide +kernel) dX3_kindAtHand_34 rfl ?_
        refine g_cvi o (q := 39) (As := [.ref (eK (xE X) 3)]) (rest := []) kv_X3_isWord lk_X3_101 kC_38 (by decide) rfl rfl rfl (fun _ _ hc => c_X3_isWord o.mk 3 (by decide : 3 < 14) hc) dX3_kindAtHand_36 rfl ⟨rfl, rfl, Nat.le_of_ble_eq_true rfl, Nat.le_of_ble_eq_true rfl⟩ (Nat.le_of_ble_eq_true rfl) rfl h (fun r28 σ27 h => ?_)
        refine g_if_eq o (tgt := 44) (q := 42) dX3_kindAtHand_39 (by decide) rfl h (fun h => ?_) (fun h => ?_)
        · refine g_aload_n o (q := 45) 0 rfl rfl dX3_kindAtHand_44 rfl ?_
          refine g_ldcS o (q := 47) (t := 4) (tx := "cloud") (by decide +kernel) dX3_kindAtHand_45 rfl ?_
          refine g_cvi o (q := 50) (As := [.ref (eK (xE X) 4)]) (rest := []) kv_X3_isWord lk_X3_101 kC_38 (by decide) rfl rfl rfl (fun _ _ hc => c_X3_isWord o.mk 4 (by decide : 4 < 14) hc) dX3_kindAtHand_47 rfl ⟨rfl, rfl, Nat.le_of_ble_eq_true rfl, Nat.le_of_ble_eq_true rfl⟩ (Nat.le_of_ble_eq_true rfl) rfl h (fun r30 σ29 h => ?_)
          refine g_if_eq o (tgt := 55) (q := 53) dX3_kindAtHand_50 (by decide) rfl h (fun h => ?_) (fun h => ?_)
          · refine g_aload_n o (q := 56) 0 rfl rfl dX3_kindAtHand_55 rfl ?_
            refine g_ldcS o (q := 58) (t := 5) (tx := "iron") (by decide +kernel) dX3_kindAtHand_56 rfl ?_
            refine g_cvi o (q := 61) (As := [.ref (eK (xE X) 5)]) (rest := []) kv_X3_isWord lk_X3_101 kC_38 (by decide) rfl rfl rfl (fun _ _ hc => c_X3_isWord o.mk 5 (by decide : 5 < 14) hc) dX3_kindAtHand_58 rfl ⟨rfl, rfl, Nat.le_of_ble_eq_true rfl, Nat.le_of_ble_eq_true rfl⟩ (Nat.le_of_ble_eq_true rfl) rfl h (fun r32 σ31 h => ?_)
            refine g_if_eq o (tgt := 66) (q := 64) dX3_kindAtHand_61 (by decide) rfl h (fun h => ?_) (fun h => ?_)
            · refine g_aload_n o (q := 67) 0 rfl rfl dX3_kindAtHand_66 rfl ?_
              refine g_ldcS o (q := 69) (t := 6) (tx := "fringe") (by decide +kernel) dX3_kindAtHand_67 rfl ?_
              refine g_cvi o (q := 72) (As := [.ref (eK (xE X) 6)]) (rest := []) kv_X3_isWord lk_X3_101 kC_38 (by decide) rfl rfl rfl (fun _ _ hc => c_X3_isWord o.mk 6 (by decide : 6 < 14) hc) dX3_kindAtHand_69 rfl ⟨rfl, rfl, Nat.le_of_ble_eq_true rfl, Nat.le_of_ble_eq_true rfl⟩ (Nat.le_of_ble_eq_true rfl) rfl h (fun r34 σ33 h => ?_)
              refine g_if_eq o (tgt := 80) (q := 75) dX3_kindAtHand_72 (by decide) rfl h (fun h => ?_) (fun h => ?_)
              · refine g_iconst o (v := (-1)) (q := 81) (by decide) dX3_kindAtHand_80 rfl ?_
                exact g_iret o hr (h.trans (congrArg some hres)) rfl dX3_kindAtHand_81
              · refine g_bipush o (v := 6) (q := 77) (by decide) dX3_kindAtHand_75 rfl ?_
                refine g_goto o (tgt := 81) dX3_kindAtHand_77 (by decide) ?_
                exact g_iret o hr (h.trans (congrArg some hres)) rfl dX3_kindAtHand_81
            · refine g_iconst o (v := 5) (q := 65) (by decide) dX3_kindAtHand_64 rfl ?_
              exact g_iret o hr (h.trans (congrArg some hres)) rfl dX3_kindAtHand_65
          · refine g_iconst o (v := 4) (q := 54) (by decide) dX3_kindAtHand_53 rfl ?_
            exact g_iret o hr (h.trans (congrArg some hres)) rfl dX3_kindAtHand_54
        · refine g_iconst o (v := 3) (q := 43) (by decide) dX3_kindAtHand_42 rfl ?_
          exact g_iret o hr (h.trans (congrArg some hres)) rfl dX3_kindAtHand_43
      · refine g_iconst o (v := 2) (q := 32) (by decide) dX3_kindAtHand_31 rfl ?_
        exact g_iret o hr (h.trans (congrArg some hres)) rfl dX3_kindAtHand_32
    · refine g_iconst o (v := 1) (q := 21) (by decide) dX3_kindAtHand_20 rfl ?_
      exact g_iret o hr (h.trans (congrArg some hres)) rfl dX3_kindAtHand_21
  · refine g_iconst o (v := 0) (q := 10) (by decide) dX3_kindAtHand_9 rfl ?_
    exact g_iret o hr (h.trans (congrArg some hres)) rfl dX3_kindAtHand_10
theorem c_X3_kindAtHand {l : Launch} {E : En} {mk : Mem → Mem} (hmk : MK mk sdC)   {σ : Mem} {r : Int32} {τ : Mem} (h : f_X3_kindAtHand  σ = some (r, τ)) : Met l yX3_kindAtHand (Cond.code yX3_kindAtHand cX3_kindAtHand 1 (some .int) :: wt) rm_X3_kindAtHand (PW E mk [.ref (eA E 38)] σ) (QI E mk r τ) 0 0 (WA E) :=
  met_i (fun E => [.ref (eA E 38)]) (by decide) hmk (Nat.le_of_ble_eq_true rfl) (fun X o hr => w_X3_kindAtHand rfl o hr   h)
set_option maxRecDepth 100000 in
set_option maxHeartbeats 4000000 in
theorem w_X3_takeWord {X : Cx} {l : Launch} {r : Int32} {σr : Mem} {res : Int32 × Mem} (hres : res = (r, σr)) (o : OK X cX3_takeWord RX3 sdC 3 rm_X3_takeWord l) (hr : RI X .boolean r σr) (a1 : Nat) (h1 : a1 < 14) {σ : Mem} (h : f_X3_takeWord a1 σ = some res) : G X σ 0 [(0, .ref (eA (xE X) 38)), (1, .ref (eK (xE X) a1))] [] := by
  unfold f_X3_takeWord at h
  refine g_aload_n o (q := 1) 0 rfl rfl dX3_takeWord_0 rfl ?_
  refine g_aload_n o (q := 2) 1 rfl rfl dX3_takeWord_1 rfl ?_
  refine g_cvi o (q := 5) (As := [.ref (eK (xE X) a1)]) (rest := []) kv_X3_isWord lk_X3_101 kC_38 (by decide) rfl rfl rfl (fun _ _ hc => c_X3_isWord o.mk a1 h1 hc) dX3_takeWord_2 rfl ⟨rfl, rfl, Nat.le_of_ble_eq_true rfl, Nat.le_of_ble_eq_true rfl⟩ (Nat.le_of_ble_eq_true rfl) rfl h (fun r22 σ21 h => ?_)
  refine g_istore_n o (q := 6) dX3_takeWord_5 rfl rfl (by decide) h (fun x23 => [(2, .int x23), (0, .ref (eA (xE X) 38)), (1, .ref (eK (xE X) a1))]) (fun _ => rfl) (fun x23 h => ?_)
  refine g_iload_n o (q := 7) 0 rfl rfl dX3_takeWord_6 rfl ?_
  refine g_if_eq o (tgt := 14) (q := 10) dX3_takeWord_7 (by decide) rfl h (fun h => ?_) (fun h => ?_)
  · refine g_iload_n o (q := 15) 0 rfl rfl dX3_takeWord_14 rfl ?_
    obtain ⟨hb, h⟩ := vB_some h
    exact g_iret o hr (h.trans (congrArg some hres)) (by rcases hb with hb | hb <;> rw [hb] <;> rfl) dX3_takeWord_15
  · refine g_aload_n o (q := 11) 1 rfl rfl dX3_takeWord_10 rfl ?_
    refine g_cvv o (q := 14) (As := []) (rest := []) kv_X3_step lk_X3_22 kC_38 (by decide) rfl rfl rfl (fun _ _ hc => c_X3_step o.mk  hc) dX3_takeWord_11 rfl ⟨rfl, rfl, Nat.le_of_ble_eq_true rfl, Nat.le_of_ble_eq_true rfl⟩ (Nat.le_of_ble_eq_true rfl) rfl h (fun _u24 σ24 h => ?_)
    refine g_iload_n o (q := 15) 0 rfl rfl dX3_takeWord_14 rfl ?_
    obtain ⟨hb, h⟩ := vB_some h
    exact g_iret o hr (h.trans (congrArg some hres)) (by rcases hb with hb | hb <;> rw [hb] <;> rfl) dX3_takeWord_15
theorem c_X3_takeWord {l : Launch} {E : En} {mk : Mem → Mem} (hmk : MK mk sdC) (a1 : Nat) (h1 : a1 < 14) {σ : Mem} {r : Int32} {τ : Mem} (h : f_X3_takeWord a1 σ = some (r, τ)) : Met l yX3_takeWord (Cond.code yX3_takeWord cX3_takeWord 3 (some .boolean) :: wt) rm_X3_takeWord (PW E mk [.ref (eA E 38), .ref (eK E a1)] σ) (QI E mk r τ) 0 0 (WA E) :=
  met_i (fun E => [.ref (eA E 38), .ref (eK E a1)]) (by decide) hmk (Nat.le_of_ble_eq_true rfl) (fun X o hr => w_X3_takeWord rfl o hr a1 h1 h)
set_option maxRecDepth 100000 in
set_option maxHeartbeats 4000000 in
theorem w_X3_takeNumber {X : Cx} {l : Launch} {r : Int32} {σr : Mem} {res : Int32 × Mem} (hres : res = (r, σr)) (o : OK X cX3_takeNumber RX3 sdC 3 rm_X3_takeNumber l) (hr : RI X .int r σr) (x1 : Int32)  {σ : Mem} (h : f_X3_takeNumber x1 σ = some res) : G X σ 0 [(0, .ref (eA (xE X) 38)), (1, .int x1)] [] := by
  unfold f_X3_takeNumber at h
  refine g_aload_n o (q := 1) 0 rfl rfl dX3_takeNumber_0 rfl ?_
  refine gf_X3_2 o (q := 4) kC_38 lk_X3_37 dX3_takeNumber_1 rfl ?_
  refine g_iconst o (v := 1) (q := 5) (by decide) dX3_takeNumber_4 rfl ?_
  refine g_icmp_ne o (tgt := 16) (q := 8) dX3_takeNumber_5 (by decide) rfl h (fun h => ?_) (fun h => ?_)
  · refine g_iconst o (v := (-1)) (q := 17) (by decide) dX3_takeNumber_16 rfl ?_
    exact g_iret o hr (h.trans (congrArg some hres)) rfl dX3_takeNumber_17
  · refine g_aload_n o (q := 9) 0 rfl rfl dX3_takeNumber_8 rfl ?_
    refine gf_X3_5 o (q := 12) kC_38 lk_X3_124 dX3_takeNumber_9 rfl ?_
    refine g_iload_n o (q := 13) 1 rfl rfl dX3_takeNumber_12 rfl ?_
    refine g_icmp_le o (tgt := 18) (q := 16) dX3_takeNumber_13 (by decide) rfl h (fun h => ?_) (fun h => ?_)
    · refine g_aload_n o (q := 19) 0 rfl rfl dX3_takeNumber_18 rfl ?_
      refine gf_X3_5 o (q := 22) kC_38 lk_X3_124 dX3_takeNumber_19 rfl ?_
      refine g_istore_n o (q := 23) dX3_takeNumber_22 rfl rfl (by decide) h (fun x21 => [(2, .int x21), (0, .ref (eA (xE X) 38)), (1, .int x1)]) (fun _ => rfl) (fun x21 h => ?_)
      refine g_aload_n o (q := 24) 1 rfl rfl dX3_takeNumber_23 rfl ?_
      refine g_cvv o (q := 27) (As := []) (rest := []) kv_X3_step lk_X3_22 kC_38 (by decide) rfl rfl rfl (fun _ _ hc => c_X3_step o.mk  hc) dX3_takeNumber_24 rfl ⟨rfl, rfl, Nat.le_of_ble_eq_true rfl, Nat.le_of_ble_eq_true rfl⟩ (Nat.le_of_ble_eq_true rfl) rfl h (fun _u22 σ22 h => ?_)
      refine g_iload_n o (q := 28) 0 rfl rfl dX3_takeNumber_27 rfl ?_
      exact g_iret o hr (h.trans (congrArg some hres)) rfl dX3_takeNumber_28
    · refine g_iconst o (v := (-1)) (q := 17) (by decide) dX3_takeNumber_16 rfl ?_
      exact g_iret o hr (h.trans (congrArg some hres)) rfl dX3_takeNumber_17
theorem c_X3_takeNumber {l : Launch} {E : En} {mk : Mem → Mem} (hmk : MK mk sdC) (x1 : Int32)  {σ : Mem} {r : Int32} {τ : Mem} (h : f_X3_takeNumber x1 σ = some (r, τ)) : Met l yX3_takeNumber (Cond.code yX3_takeNumber cX3_takeNumber 3 (some .int) :: wt) rm_X3_takeNumber (PW E mk [.ref (eA E 38), .int x1] σ) (QI E mk r τ) 0 0 (WA E) :=
  met_i (fun E => [.ref (eA E 38), .int x1]) (by decide) hmk (Nat.le_of_ble_eq_true rfl) (fun X o hr => w_X3_takeNumber rfl o hr x1  h)
set_option maxRecDepth 100000 in
set_option maxHeartbeats 4000000 in
theorem w_X3_readPart {X : Cx} {l : Launch} {r : Int32} {σr : Mem} {res : Int32 × Mem} (hres : res = (r, σr)) (o : OK X cX3_readPart RX3 sdC 5 rm_X3_readPart l) (hr : RI X .boolean r σr) (a1 : Nat) (a2 : Nat) (x3 : Int32) (h1 : kd sdC a1 0) (h2 : a2 < 14) {σ : Mem} (h : f_X3_readPart a1 a2 x3 σ = some res) : G X σ 0 [(0, .ref (eA (xE X) 38)), (1, .ref (eA (xE X) a1)), (2, .ref (eK (xE X) a2)), (3, .int x3)] [] := by
  unfold f_X3_readPart at h
  refine g_aload_n o (q := 1) 0 rfl rfl dX3_readPart_0 rfl ?_
  refine g_aload_n o (q := 2) 2 rfl rfl dX3_readPart_1 rfl ?_
  refine g_cvi o (q := 5) (As := [.ref (eK (xE X) a2)]) (rest := []) kv_X3_takeWord lk_X3_45 kC_38 (by decide) rfl rfl rfl (fun _ _ hc => c_X3_takeWord o.mk a2 h2 hc) dX3_readPart_2 rfl ⟨rfl, rfl, Nat.le_of_ble_eq_true rfl, Nat.le_of_ble_eq_true rfl⟩ (Nat.le_of_ble_eq_true rfl) rfl h (fun r22 σ21 h => ?_)
  refine g_if_ne o (tgt := 10) (q := 8) dX3_readPart_5 (by decide) rfl h (fun h => ?_) (fun h => ?_)
  · refine g_aload_n o (q := 11) 0 rfl rfl dX3_readPart_10 rfl ?_
    refine g_getsN o (q := 14) 6 (by decide) (by decide +kernel) dX3_readPart_11 rfl ?_
    refine g_iload_n o (q := 15) 3 rfl rfl dX3_readPart_14 rfl ?_
    refine g_tild o (q := 16) 6 (by decide) rfl dX3_readPart_15 rfl h (fun j23 hjj23 h => ?_)
    refine g_cvi o (q := 19) (As := [.int ((sTab 6).getD j23 0)]) (rest := []) kv_X3_takeNumber lk_X3_88 kC_38 (by decide) rfl rfl rfl (fun _ _ hc => c_X3_takeNumber o.mk ((sTab 6).getD j23 0) hc) dX3_readPart_16 rfl ⟨rfl, rfl, Nat.le_of_ble_eq_true rfl, Nat.le_of_ble_eq_true rfl⟩ (Nat.le_of_ble_eq_true rfl) rfl h (fun r25 σ24 h => ?_)
    refine g_istore o (q := 21) dX3_readPart_19 rfl (by decide) h (fun x26 => [(4, .int x26), (0, .ref (eA (xE X) 38)), (1, .ref (eA (xE X) a1)), (2, .ref (eK (xE X) a2)), (3, .int x3)]) (fun _ => rfl) (fun x26 h => ?_)
    refine g_iload o (q := 23) 0 rfl dX3_readPart_21 rfl ?_
    refine g_iconst o (v := (-1)) (q := 24) (by decide) dX3_readPart_23 rfl ?_
    refine g_icmp_ne o (tgt := 29) (q := 27) dX3_readPart_24 (by decide) rfl h (fun h => ?_) (fun h => ?_)
    · refine g_aload_n o (q := 30) 2 rfl rfl dX3_readPart_29 rfl ?_
      refine g_iload_n o (q := 31) 4 rfl rfl dX3_readPart_30 rfl ?_
      refine g_iload o (q := 33) 0 rfl dX3_readPart_31 rfl ?_
      refine g_cvv o (q := 36) (As := [.int x3, .int x26]) (rest := []) kv_X0_set lk_X3_92 h1 (by decide) rfl rfl rfl (fun _ _ hc => c_X0_set o.mk a1 x3 x26 h1 hc) dX3_readPart_33 rfl ⟨rfl, rfl, Nat.le_of_ble_eq_true rfl, Nat.le_of_ble_eq_true rfl⟩ (Nat.le_of_ble_eq_true rfl) rfl h (fun _u27 σ27 h => ?_)
      refine g_iconst o (v := 1) (q := 37) (by decide) dX3_readPart_36 rfl ?_
      exact g_iret o hr (h.trans (congrArg some hres)) (by decide) dX3_readPart_37
    · refine g_iconst o (v := 0) (q := 28) (by decide) dX3_readPart_27 rfl ?_
      exact g_iret o hr (h.trans (congrArg some hres)) (by decide) dX3_readPart_28
  · refine g_iconst o (v := 1) (q := 9) (by decide) dX3_readPart_8 rfl ?_
    exact g_iret o hr (h.trans (congrArg some hres)) (by decide) dX3_readPart_9
theorem c_X3_readPart {l : Launch} {E : En} {mk : Mem → Mem} (hmk : MK mk sdC) (a1 : Nat) (a2 : Nat) (x3 : Int32) (h1 : kd sdC a1 0) (h2 : a2 < 14) {σ : Mem} {r : Int32} {τ : Mem} (h : f_X3_readPart a1 a2 x3 σ = some (r, τ)) : Met l yX3_readPart (Cond.code yX3_readPart cX3_readPart 5 (some .boolean) :: wt) rm_X3_readPart (PW E mk [.ref (eA E 38), .ref (eA E a1), .ref (eK E a2), .int x3] σ) (QI E mk r τ) 0 0 (WA E) :=
  met_i (fun E => [.ref (eA E 38), .ref (eA E a1), .ref (eK E a2), .int x3]) (by decide) hmk (Nat.le_of_ble_eq_true rfl) (fun X o hr => w_X3_readPart rfl o hr a1 a2 x3 h1 h2 h)
set_option maxRecDepth 100000 in
set_option maxHeartbeats 4000000 in
theorem w_X3_readCurtain_J69 {X : Cx} {l : Launch} {r : Int32} {σr : Mem} {res : Int32 × Mem} (hres : res = (r, σr)) (o : OK X cX3_readCurtain RX3 sdC 4 rm_X3_readCurtain l) (hr : RI X .boolean r σr)   {c0 : Nat} {s1 : Int32} (f0 : kd sdC c0 0) {σ : Mem} (h : f_X3_readCurtain_J69  c0 s1 σ = some res) : G X σ 69 [] [.int s1, .ref (eA (xE X) c0)] := by
  unfold f_X3_readCurtain_J69 at h
  refine gp_X0_4 o (q := 72) f0 lk_X3_80 dX3_readCurtain_69 rfl h (fun σ34 h => ?_)
  refine g_iconst o (v := 1) (q := 73) (by decide) dX3_readCurtain_72 rfl ?_
  exact g_iret o hr (h.trans (congrArg some hres)) (by decide) dX3_readCurtain_73
set_option maxRecDepth 100000 in
set_option maxHeartbeats 4000000 in
theorem w_X3_readCurtain {X : Cx} {l : Launch} {r : Int32} {σr : Mem} {res : Int32 × Mem} (hres : res = (r, σr)) (o : OK X cX3_readCurtain RX3 sdC 4 rm_X3_readCurtain l) (hr : RI X .boolean r σr) (a1 : Nat) (x2 : Int32) (h1 : kd sdC a1 1) {σ : Mem} (h : f_X3_readCurtain a1 x2 σ = some res) : G X σ 0 [(0, .ref (eA (xE X) 38)), (1, .ref (eA (xE X) a1)), (2, .int x2)] [] := by
  unfold f_X3_readCurtain at h
  refine g_aload_n o (q := 1) 1 rfl rfl dX3_readCurtain_0 rfl ?_
  refine g_cvi o (q := 4) (As := []) (rest := []) kv_X1_isFull lk_X3_60 h1 (by decide) rfl rfl rfl (fun _ _ hc => c_X1_isFull o.mk a1 h1 hc) dX3_readCurtain_1 rfl ⟨rfl, rfl, Nat.le_of_ble_eq_true rfl, Nat.le_of_ble_eq_true rfl⟩ (Nat.le_of_ble_eq_true rfl) rfl h (fun r22 σ21 h => ?_)
  refine g_if_eq o (tgt := 9) (q := 7) dX3_readCurtain_4 (by decide) rfl h (fun h => ?_) (fun h => ?_)
  · refine g_aload_n o (q := 10) 0 rfl rfl dX3_readCurtain_9 rfl ?_
    refine g_cvv o (q := 13) (As := []) (rest := []) kv_X3_step lk_X3_22 kC_38 (by decide) rfl rfl rfl (fun _ _ hc => c_X3_step o.mk  hc) dX3_readCurtain_10 rfl ⟨rfl, rfl, Nat.le_of_ble_eq_true rfl, Nat.le_of_ble_eq_true rfl⟩ (Nat.le_of_ble_eq_true rfl) rfl h (fun _u23 σ23 h => ?_)
    refine g_aload_n o (q := 14) 1 rfl rfl dX3_readCurtain_13 rfl ?_
    refine g_iload_n o (q := 15) 2 rfl rfl dX3_readCurtain_14 rfl ?_
    refine g_cvr o (q := 18) (As := [.int x2]) (rest := []) kv_X1_hang lk_X3_64 h1 (by decide) rfl rfl rfl (fun _ _ hc => c_X1_hang o.mk a1 x2 h1 hc) dX3_readCurtain_15 rfl ⟨rfl, rfl, Nat.le_of_ble_eq_true rfl, Nat.le_of_ble_eq_true rfl⟩ (Nat.le_of_ble_eq_true rfl) rfl h (fun r25 σ24 hfr25 h => ?_)
    refine g_astore_n o (q := 19) dX3_readCurtain_18 rfl rfl (by decide) [(3, .ref (eA (xE X) r25)), (0, .ref (eA (xE X) 38)), (1, .ref (eA (xE X) a1)), (2, .int x2)] rfl ?_
    refine g_aload_n o (q := 20) 1 rfl rfl dX3_readCurtain_19 rfl ?_
    refine g_aload_n o (q := 21) 0 rfl rfl dX3_readCurtain_20 rfl ?_
    refine g_ldcS o (q := 23) (t := 10) (tx := "mood") (by decide +kernel) dX3_readCurtain_21 rfl ?_
    refine g_iconst o (v := 1) (q := 24) (by decide) dX3_readCurtain_23 rfl ?_
    refine g_cvi o (q := 27) (As := [.ref (eA (xE X) r25), .ref (eK (xE X) 10), .int 1]) (rest := []) kv_X3_readPart lk_X3_70 kC_38 (by decide) rfl rfl rfl (fun _ _ hc => c_X3_readPart o.mk r25 10 1 (hang_kd h1 hfr25) (by decide : 10 < 14) hc) dX3_readCurtain_24 rfl ⟨rfl, rfl, Nat.le_of_ble_eq_true rfl, Nat.le_of_ble_eq_true rfl⟩ (Nat.le_of_ble_eq_true rfl) rfl h (fun r27 σ26 h => ?_)
    refine g_if_eq o (tgt := 52) (q := 30) dX3_readCurtain_27 (by decide) rfl h (fun h => ?_) (fun h => ?_)
    · refine g_iconst o (v := 0) (q := 53) (by decide) dX3_readCurtain_52 rfl ?_
      exact g_iret o hr (h.trans (congrArg some hres)) (by decide) dX3_readCurtain_53
    · refine g_aload_n o (q := 31) 1 rfl rfl dX3_readCurtain_30 rfl ?_
      refine g_aload_n o (q := 32) 0 rfl rfl dX3_readCurtain_31 rfl ?_
      refine g_ldcS o (q := 34) (t := 11) (tx := "likes") (by decide +kernel) dX3_readCurtain_32 rfl ?_
      refine g_iconst o (v := 2) (q := 35) (by decide) dX3_readCurtain_34 rfl ?_
      refine g_cvi o (q := 38) (As := [.ref (eA (xE X) r25), .ref (eK (xE X) 11), .int 2]) (rest := []) kv_X3_readPart lk_X3_70 kC_38 (by decide) rfl rfl rfl (fun _ _ hc => c_X3_readPart o.mk r25 11 2 (hang_kd h1 hfr25) (by decide : 11 < 14) hc) dX3_readCurtain_35 rfl ⟨rfl, rfl, Nat.le_of_ble_eq_true rfl, Nat.le_of_ble_eq_true rfl⟩ (Nat.le_of_ble_eq_true rfl) rfl h (fun r29 σ28 h => ?_)
      refine g_if_eq o (tgt := 52) (q := 41) dX3_readCurtain_38 (by decide) rfl h (fun h => ?_) (fun h => ?_)
      · refine g_iconst o (v := 0) (q := 53) (by decide) dX3_readCurtain_52 rfl ?_
        exact g_iret o hr (h.trans (congrArg some hres)) (by decide) dX3_readCurtain_53
      · refine g_aload_n o (q := 42) 1 rfl rfl dX3_readCurtain_41 rfl ?_
        refine g_aload_n o (q := 43) 0 rfl rfl dX3_readCurtain_42 rfl ?_
        refine g_ldcS o (q := 45) (t := 12) (tx := "high") (by decide +kernel) dX3_readCurtain_43 rfl ?_
        refine g_iconst o (v := 3) (q := 46) (by decide) dX3_readCurtain_45 rfl ?_
        refine g_cvi o (q := 49) (As := [.ref (eA (xE X) r25), .ref (eK (xE X) 12), .int 3]) (rest := []) kv_X3_readPart lk_X3_70 kC_38 (by decide) rfl rfl rfl (fun _ _ hc => c_X3_readPart o.mk r25 12 3 (hang_kd h1 hfr25) (by decide : 12 < 14) hc) dX3_readCurtain_46 rfl ⟨rfl, rfl, Nat.le_of_ble_eq_true rfl, Nat.le_of_ble_eq_true rfl⟩ (Nat.le_of_ble_eq_true rfl) rfl h (fun r31 σ30 h => ?_)
        refine g_if_ne o (tgt := 54) (q := 52) dX3_readCurtain_49 (by decide) rfl h (fun h => ?_) (fun h => ?_)
        · refine g_aload_n o (q := 55) 0 rfl rfl dX3_readCurtain_54 rfl ?_
          refine g_aload_n o (q := 56) 1 rfl rfl dX3_readCurtain_55 rfl ?_
          refine g_ldcS o (q := 58) (t := 13) (tx := "tied") (by decide +kernel) dX3_readCurtain_56 rfl ?_
          refine g_cvi o (q := 61) (As := [.ref (eK (xE X) 13)]) (rest := [.ref (eA (xE X) r25)]) kv_X3_takeWord lk_X3_45 kC_38 (by decide) rfl rfl rfl (fun _ _ hc => c_X3_takeWord o.mk 13 (by decide : 13 < 14) hc) dX3_readCurtain_58 rfl ⟨rfl, rfl, Nat.le_of_ble_eq_true rfl, Nat.le_of_ble_eq_true rfl⟩ (Nat.le_of_ble_eq_true rfl) rfl h (fun r33 σ32 h => ?_)
          refine g_if_eq o (tgt := 68) (q := 64) dX3_readCurtain_61 (by decide) rfl h (fun h => ?_) (fun h => ?_)
          · refine g_iconst o (v := 0) (q := 69) (by decide) dX3_readCurtain_68 rfl ?_
            refine g_sub (lv' := []) [] rfl ?_
            exact w_X3_readCurtain_J69 hres o hr  (hang_kd h1 hfr25) h
          · refine g_iconst o (v := 1) (q := 65) (by decide) dX3_readCurtain_64 rfl ?_
            refine g_goto o (tgt := 69) dX3_readCurtain_65 (by decide) ?_
            refine g_sub (lv' := []) [] rfl ?_
            exact w_X3_readCurtain_J69 hres o hr  (hang_kd h1 hfr25) h
        · refine g_iconst o (v := 0) (q := 53) (by decide) dX3_readCurtain_52 rfl ?_
          exact g_iret o hr (h.trans (congrArg some hres)) (by decide) dX3_readCurtain_53
  · refine g_iconst o (v := 0) (q := 8) (by decide) dX3_readCurtain_7 rfl ?_
    exact g_iret o hr (h.trans (congrArg some hres)) (by decide) dX3_readCurtain_8
theorem c_X3_readCurtain {l : Launch} {E : En} {mk : Mem → Mem} (hmk : MK mk sdC) (a1 : Nat) (x2 : Int32) (h1 : kd sdC a1 1) {σ : Mem} {r : Int32} {τ : Mem} (h : f_X3_readCurtain a1 x2 σ = some (r, τ)) : Met l yX3_readCurtain (Cond.code yX3_readCurtain cX3_readCurtain 4 (some .boolean) :: wt) rm_X3_readCurtain (PW E mk [.ref (eA E 38), .ref (eA E a1), .int x2] σ) (QI E mk r τ) 0 0 (WA E) :=
  met_i (fun E => [.ref (eA E 38), .ref (eA E a1), .int x2]) (by decide) hmk (Nat.le_of_ble_eq_true rfl) (fun X o hr => w_X3_readCurtain rfl o hr a1 x2 h1 h)
set_option maxRecDepth 100000 in
set_option maxHeartbeats 4000000 in
theorem w_X3_readScene {X : Cx} {l : Launch} {r : Int32} {σr : Mem} {res : Int32 × Mem} (hres : res = (r, σr)) (o : OK X cX3_readScene RX3 sdC 4 rm_X3_readScene l) (hr : RI X .boolean r σr) (a1 : Nat) (h1 : kd sdC a1 1) {σ : Mem} (h : f_X3_readScene a1 σ = some res) : G X σ 0 [(0, .ref (eA (xE X) 38)), (1, .ref (eA (xE X) a1))] [] := by
  unfold f_X3_readScene at h
  refine g_aload_n o (q := 1) 0 rfl rfl dX3_readScene_0 rfl ?_
  refine g_iconst o (v := 5) (q := 2) (by decide) dX3_readScene_1 rfl ?_
  refine g_cvi o (q := 5) (As := [.int 5]) (rest := []) kv_X3_takeNumber lk_X3_88 kC_38 (by decide) rfl rfl rfl (fun _ _ hc => c_X3_takeNumber o.mk 5 hc) dX3_readScene_2 rfl ⟨rfl, rfl, Nat.le_of_ble_eq_true rfl, Nat.le_of_ble_eq_true rfl⟩ (Nat.le_of_ble_eq_true rfl) rfl h (fun r22 σ21 h => ?_)
  refine g_istore_n o (q := 6) dX3_readScene_5 rfl rfl (by decide) h (fun x23 => [(2, .int x23), (0, .ref (eA (xE X) 38)), (1, .ref (eA (xE X) a1))]) (fun _ => rfl) (fun x23 h => ?_)
  refine g_iload_n o (q := 7) 0 rfl rfl dX3_readScene_6 rfl ?_
  refine g_iconst o (v := (-1)) (q := 8) (by decide) dX3_readScene_7 rfl ?_
  refine g_icmp_ne o (tgt := 13) (q := 11) dX3_readScene_8 (by decide) rfl h (fun h => ?_) (fun h => ?_)
  · refine g_aload_n o (q := 14) 1 rfl rfl dX3_readScene_13 rfl ?_
    refine g_bipush o (v := 11) (q := 16) (by decide) dX3_readScene_14 rfl ?_
    refine g_cvi o (q := 19) (As := [.int 11]) (rest := []) kv_X3_takeNumber lk_X3_88 kC_38 (by decide) rfl rfl rfl (fun _ _ hc => c_X3_takeNumber o.mk 11 hc) dX3_readScene_16 rfl ⟨rfl, rfl, Nat.le_of_ble_eq_true rfl, Nat.le_of_ble_eq_true rfl⟩ (Nat.le_of_ble_eq_true rfl) rfl h (fun r25 σ24 h => ?_)
    refine g_istore_n o (q := 20) dX3_readScene_19 rfl rfl (by decide) h (fun x26 => [(3, .int x26), (2, .int x23), (0, .ref (eA (xE X) 38)), (1, .ref (eA (xE X) a1))]) (fun _ => rfl) (fun x26 h => ?_)
    refine g_iload_n o (q := 21) 0 rfl rfl dX3_readScene_20 rfl ?_
    refine g_iconst o (v := (-1)) (q := 22) (by decide) dX3_readScene_21 rfl ?_
    refine g_icmp_ne o (tgt := 27) (q := 25) dX3_readScene_22 (by decide) rfl h (fun h => ?_) (fun h => ?_)
    · refine g_aload_n o (q := 28) 3 rfl rfl dX3_readScene_27 rfl ?_
      refine gf_X1_6 o (q := 31) h1 lk_X3_96 dX3_readScene_28 rfl ?_
      refine g_iload_n o (q := 32) 1 rfl rfl dX3_readScene_31 rfl ?_
      refine g_iload_n o (q := 33) 0 rfl rfl dX3_readScene_32 rfl ?_
      refine g_iast o (q := 34) (ka_list h1) dX3_readScene_33 rfl h (fun j27 σ28 h => ?_)
      refine g_iconst o (v := 1) (q := 35) (by decide) dX3_readScene_34 rfl ?_
      exact g_iret o hr (h.trans (congrArg some hres)) (by decide) dX3_readScene_35
    · refine g_iconst o (v := 0) (q := 26) (by decide) dX3_readScene_25 rfl ?_
      exact g_iret o hr (h.trans (congrArg some hres)) (by decide) dX3_readScene_26
  · refine g_iconst o (v := 0) (q := 12) (by decide) dX3_readScene_11 rfl ?_
    exact g_iret o hr (h.trans (congrArg some hres)) (by decide) dX3_readScene_12
theorem c_X3_readScene {l : Launch} {E : En} {mk : Mem → Mem} (hmk : MK mk sdC) (a1 : Nat) (h1 : kd sdC a1 1) {σ : Mem} {r : Int32} {τ : Mem} (h : f_X3_readScene a1 σ = some (r, τ)) : Met l yX3_readScene (Cond.code yX3_readScene cX3_readScene 4 (some .boolean) :: wt) rm_X3_readScene (PW E mk [.ref (eA E 38), .ref (eA E a1)] σ) (QI E mk r τ) 0 0 (WA E) :=
  met_i (fun E => [.ref (eA E 38), .ref (eA E a1)]) (by decide) hmk (Nat.le_of_ble_eq_true rfl) (fun X o hr => w_X3_readScene rfl o hr a1 h1 h)
set_option maxRecDepth 100000 in
set_option maxHeartbeats 4000000 in
theorem w_X3_readOther {X : Cx} {l : Launch} {r : Int32} {σr : Mem} {res : Int32 × Mem} (hres : res = (r, σr)) (o : OK X cX3_readOther RX3 sdC 2 rm_X3_readOther l) (hr : RI X .boolean r σr) (a1 : Nat) (h1 : kd sdC a1 1) {σ : Mem} (h : f_X3_readOther a1 σ = some res) : G X σ 0 [(0, .ref (eA (xE X) 38)), (1, .ref (eA (xE X) a1))] [] := by
  unfold f_X3_readOther at h
  refine g_aload_n o (q := 1) 0 rfl rfl dX3_readOther_0 rfl ?_
  refine g_ldcS o (q := 3) (t := 7) (tx := "scene") (by decide +kernel) dX3_readOther_1 rfl ?_
  refine g_cvi o (q := 6) (As := [.ref (eK (xE X) 7)]) (rest := []) kv_X3_takeWord lk_X3_45 kC_38 (by decide) rfl rfl rfl (fun _ _ hc => c_X3_takeWord o.mk 7 (by decide : 7 < 14) hc) dX3_readOther_3 rfl ⟨rfl, rfl, Nat.le_of_ble_eq_true rfl, Nat.le_of_ble_eq_true rfl⟩ (Nat.le_of_ble_eq_true rfl) rfl h (fun r22 σ21 h => ?_)
  refine g_if_eq o (tgt := 15) (q := 9) dX3_readOther_6 (by decide) rfl h (fun h => ?_) (fun h => ?_)
  · refine g_aload_n o (q := 16) 0 rfl rfl dX3_readOther_15 rfl ?_
    refine g_ldcS o (q := 18) (t := 8) (tx := "fire") (by decide +kernel) dX3_readOther_16 rfl ?_
    refine g_cvi o (q := 21) (As := [.ref (eK (xE X) 8)]) (rest := []) kv_X3_takeWord lk_X3_45 kC_38 (by decide) rfl rfl rfl (fun _ _ hc => c_X3_takeWord o.mk 8 (by decide : 8 < 14) hc) dX3_readOther_18 rfl ⟨rfl, rfl, Nat.le_of_ble_eq_true rfl, Nat.le_of_ble_eq_true rfl⟩ (Nat.le_of_ble_eq_true rfl) rfl h (fun r24 σ23 h => ?_)
    refine g_if_eq o (tgt := 31) (q := 24) dX3_readOther_21 (by decide) rfl h (fun h => ?_) (fun h => ?_)
    · refine g_aload_n o (q := 32) 0 rfl rfl dX3_readOther_31 rfl ?_
      refine g_ldcS o (q := 34) (t := 9) (tx := "out") (by decide +kernel) dX3_readOther_32 rfl ?_
      refine g_cvi o (q := 37) (As := [.ref (eK (xE X) 9)]) (rest := []) kv_X3_takeWord lk_X3_45 kC_38 (by decide) rfl rfl rfl (fun _ _ hc => c_X3_takeWord o.mk 9 (by decide : 9 < 14) hc) dX3_readOther_34 rfl ⟨rfl, rfl, Nat.le_of_ble_eq_true rfl, Nat.le_of_ble_eq_true rfl⟩ (Nat.le_of_ble_eq_true rfl) rfl h (fun r26 σ25 h => ?_)
      refine g_if_eq o (tgt := 47) (q := 40) dX3_readOther_37 (by decide) rfl h (fun h => ?_) (fun h => ?_)
      · refine g_iconst o (v := 0) (q := 48) (by decide) dX3_readOther_47 rfl ?_
        exact g_iret o hr (h.trans (congrArg some hres)) (by decide) dX3_readOther_48
      · refine g_aload_n o (q := 41) 1 rfl rfl dX3_readOther_40 rfl ?_
        refine g_iconst o (v := 0) (q := 42) (by decide) dX3_readOther_41 rfl ?_
        refine gp_X1_0 o (q := 45) h1 lk_X3_54 dX3_readOther_42 rfl h (fun σ27 h => ?_)
        refine g_iconst o (v := 1) (q := 46) (by decide) dX3_readOther_45 rfl ?_
        exact g_iret o hr (h.trans (congrArg some hres)) (by decide) dX3_readOther_46
    · refine g_aload_n o (q := 25) 1 rfl rfl dX3_readOther_24 rfl ?_
      refine g_iconst o (v := 1) (q := 26) (by decide) dX3_readOther_25 rfl ?_
      refine gp_X1_0 o (q := 29) h1 lk_X3_54 dX3_readOther_26 rfl h (fun σ28 h => ?_)
      refine g_iconst o (v := 1) (q := 30) (by decide) dX3_readOther_29 rfl ?_
      exact g_iret o hr (h.trans (congrArg some hres)) (by decide) dX3_readOther_30
  · refine g_aload_n o (q := 10) 0 rfl rfl dX3_readOther_9 rfl ?_
    refine g_aload_n o (q := 11) 1 rfl rfl dX3_readOther_10 rfl ?_
    refine g_cvi o (q := 14) (As := [.ref (eA (xE X) a1)]) (rest := []) kv_X3_readScene lk_X3_49 kC_38 (by decide) rfl rfl rfl (fun _ _ hc => c_X3_readScene o.mk a1 h1 hc) dX3_readOther_11 rfl ⟨rfl, rfl, Nat.le_of_ble_eq_true rfl, Nat.le_of_ble_eq_true rfl⟩ (Nat.le_of_ble_eq_true rfl) rfl h (fun r30 σ29 h => ?_)
    obtain ⟨hb, h⟩ := vB_some h
    exact g_iret o hr (h.trans (congrArg some hres)) (by rcases hb with hb | hb <;> rw [hb] <;> rfl) dX3_readOther_14
theorem c_X3_readOther {l : Launch} {E : En} {mk : Mem → Mem} (hmk : MK mk sdC) (a1 : Nat) (h1 : kd sdC a1 1) {σ : Mem} {r : Int32} {τ : Mem} (h : f_X3_readOther a1 σ = some (r, τ)) : Met l yX3_readOther (Cond.code yX3_readOther cX3_readOther 2 (some .boolean) :: wt) rm_X3_readOther (PW E mk [.ref (eA E 38), .ref (eA E a1)] σ) (QI E mk r τ) 0 0 (WA E) :=
  met_i (fun E => [.ref (eA E 38), .ref (eA E a1)]) (by decide) hmk (Nat.le_of_ble_eq_true rfl) (fun X o hr => w_X3_readOther rfl o hr a1 h1 h)
set_option maxRecDepth 100000 in
set_option maxHeartbeats 4000000 in
theorem w_X3_readInto_J84 {X : Cx} {l : Launch} {r : Int32} {σr : Mem} {res : Int32 × Mem} (hres : res = (r, σr)) (o : OK X cX3_readInto RX3 sdC 5 rm_X3_readInto l) (hr : RI X .int r σr)     {σ : Mem} (h : f_X3_readInto_J84   σ = some res) : G X σ 84 [(0, .ref (eA (xE X) 38))] [] := by
  unfold f_X3_readInto_J84 at h
  refine g_iconst o (v := (-1)) (q := 85) (by decide) dX3_readInto_84 rfl ?_
  refine g_aload_n o (q := 86) 0 rfl rfl dX3_readInto_85 rfl ?_
  refine gf_X3_3 o (q := 89) kC_38 lk_X3_40 dX3_readInto_86 rfl ?_
  refine g_isub o (q := 90) dX3_readInto_89 rfl ?_
  exact g_iret o hr (h.trans (congrArg some hres)) rfl dX3_readInto_90
set_option maxRecDepth 100000 in
set_option maxHeartbeats 4000000 in
theorem w_X3_readInto_J58 {X : Cx} {l : Launch} {r : Int32} {σr : Mem} {res : Int32 × Mem} (hres : res = (r, σr)) (o : OK X cX3_readInto RX3 sdC 5 rm_X3_readInto l) (hr : RI X .int r σr) {k11 : Nat → Int32 → Mem → Option (Int32 × Mem)} (hk11 : ∀ (b1 : Nat) (y2 : Int32) (σ : Mem), kd sdC b1 1 → k11 b1 y2 σ = some res → G X σ 11 [(0, .ref (eA (xE X) 38)), (1, .ref (eA (xE X) b1)), (2, .int y2)] []) {b1 : Nat} {y2 : Int32} {y4 : Int32} (g1 : kd sdC b1 1) {σ : Mem} (h : f_X3_readInto_J58 k11 b1 y2 y4 σ = some res) : G X σ 58 [(0, .ref (eA (xE X) 38)), (1, .ref (eA (xE X) b1)), (2, .int y2), (4, .int y4)] [] := by
  unfold f_X3_readInto_J58 at h
  refine g_iload o (q := 60) 3 rfl dX3_readInto_58 rfl ?_
  refine g_if_eq o (tgt := 84) (q := 63) dX3_readInto_60 (by decide) rfl h (fun h => ?_) (fun h => ?_)
  · refine g_sub (lv' := [(0, .ref (eA (xE X) 38))]) [0] rfl ?_
    exact w_X3_readInto_J84 hres o hr   h
  · refine g_aload_n o (q := 64) 0 rfl rfl dX3_readInto_63 rfl ?_
    refine gf_X3_2 o (q := 67) kC_38 lk_X3_37 dX3_readInto_64 rfl ?_
    refine g_iconst o (v := 2) (q := 68) (by decide) dX3_readInto_67 rfl ?_
    refine g_icmp_eq o (tgt := 74) (q := 71) dX3_readInto_68 (by decide) rfl h (fun h => ?_) (fun h => ?_)
    · refine g_aload_n o (q := 75) 0 rfl rfl dX3_readInto_74 rfl ?_
      refine g_cvv o (q := 78) (As := []) (rest := []) kv_X3_step lk_X3_22 kC_38 (by decide) rfl rfl rfl (fun _ _ hc => c_X3_step o.mk  hc) dX3_readInto_75 rfl ⟨rfl, rfl, Nat.le_of_ble_eq_true rfl, Nat.le_of_ble_eq_true rfl⟩ (Nat.le_of_ble_eq_true rfl) rfl h (fun _u30 σ30 h => ?_)
      refine g_iinc o (q := 81) (dn := 1) dX3_readInto_78 rfl 2 rfl (by decide) (by decide) h (fun x31 => [(2, .int x31), (0, .ref (eA (xE X) 38)), (1, .ref (eA (xE X) b1)), (4, .int y4)]) (fun _ => rfl) (fun x31 h => ?_)
      refine g_goto o (tgt := 11) dX3_readInto_81 (by decide) ?_
      refine g_sub (lv' := [(0, .ref (eA (xE X) 38)), (1, .ref (eA (xE X) b1)), (2, .int x31)]) [1, 2, 0] rfl ?_
      exact hk11 b1 x31 σ30 g1 h
    · refine g_goto o (tgt := 84) dX3_readInto_71 (by decide) ?_
      refine g_sub (lv' := [(0, .ref (eA (xE X) 38))]) [0] rfl ?_
      exact w_X3_readInto_J84 hres o hr   h
set_option maxRecDepth 100000 in
set_option maxHeartbeats 4000000 in
theorem w_X3_readInto_J41 {X : Cx} {l : Launch} {r : Int32} {σr : Mem} {res : Int32 × Mem} (hres : res = (r, σr)) (o : OK X cX3_readInto RX3 sdC 5 rm_X3_readInto l) (hr : RI X .int r σr) {k11 : Nat → Int32 → Mem → Option (Int32 × Mem)} (hk11 : ∀ (b1 : Nat) (y2 : Int32) (σ : Mem), kd sdC b1 1 → k11 b1 y2 σ = some res → G X σ 11 [(0, .ref (eA (xE X) 38)), (1, .ref (eA (xE X) b1)), (2, .int y2)] []) {b1 : Nat} {y2 : Int32} {s0 : Int32} (g1 : kd sdC b1 1) {σ : Mem} (h : f_X3_readInto_J41 k11 b1 y2 s0 σ = some res) : G X σ 41 [(0, .ref (eA (xE X) 38)), (1, .ref (eA (xE X) b1)), (2, .int y2)] [.int s0] := by
  unfold f_X3_readInto_J41 at h
  refine g_istore o (q := 43) dX3_readInto_41 rfl (by decide) h (fun x29 => [(4, .int x29), (0, .ref (eA (xE X) 38)), (1, .ref (eA (xE X) b1)), (2, .int y2)]) (fun _ => rfl) (fun x29 h => ?_)
  refine g_iload o (q := 45) 0 rfl dX3_readInto_43 rfl ?_
  refine g_if_eq o (tgt := 58) (q := 48) dX3_readInto_45 (by decide) rfl h (fun h => ?_) (fun h => ?_)
  · refine g_sub (lv' := [(0, .ref (eA (xE X) 38)), (1, .ref (eA (xE X) b1)), (2, .int y2), (4, .int x29)]) [1, 2, 3, 0] rfl ?_
    exact w_X3_readInto_J58 hres o hr hk11 g1 h
  · refine g_aload_n o (q := 49) 1 rfl rfl dX3_readInto_48 rfl ?_
    refine gf_X3_2 o (q := 52) kC_38 lk_X3_37 dX3_readInto_49 rfl ?_
    refine g_iconst o (v := 3) (q := 53) (by decide) dX3_readInto_52 rfl ?_
    refine g_icmp_ne o (tgt := 58) (q := 56) dX3_readInto_53 (by decide) rfl h (fun h => ?_) (fun h => ?_)
    · refine g_sub (lv' := [(0, .ref (eA (xE X) 38)), (1, .ref (eA (xE X) b1)), (2, .int y2), (4, .int x29)]) [1, 2, 3, 0] rfl ?_
      exact w_X3_readInto_J58 hres o hr hk11 g1 h
    · refine g_iload_n o (q := 57) 3 rfl rfl dX3_readInto_56 rfl ?_
      exact g_iret o hr (h.trans (congrArg some hres)) rfl dX3_readInto_57
set_option maxRecDepth 100000 in
set_option maxHeartbeats 4000000 in
theorem w_X3_readInto_L11 {X : Cx} {l : Launch} {r : Int32} {σr : Mem} {res : Int32 × Mem} (hres : res = (r, σr)) (o : OK X cX3_readInto RX3 sdC 5 rm_X3_readInto l) (hr : RI X .int r σr)   : ∀ (n : Nat) (b1 : Nat) (y2 : Int32) (σ : Mem), kd sdC b1 1 → f_X3_readInto_L11  n b1 y2 σ = some res → G X σ 11 [(0, .ref (eA (xE X) 38)), (1, .ref (eA (xE X) b1)), (2, .int y2)] [] := by
  intro n
  induction n with
  | zero => intro b1 y2 σ g1 h; cases h
  | succ n ih =>
    intro b1 y2 σ g1 h
    rw [f_X3_readInto_L11_s] at h
    refine g_iload_n o (q := 12) 2 rfl rfl dX3_readInto_11 rfl ?_
    refine g_bipush o (v := 120) (q := 14) (by decide) dX3_readInto_12 rfl ?_
    refine g_icmp_gt o (tgt := 84) (q := 17) dX3_readInto_14 (by decide) rfl h (fun h => ?_) (fun h => ?_)
    · refine g_sub (lv' := [(0, .ref (eA (xE X) 38))]) [0] rfl ?_
      exact w_X3_readInto_J84 hres o hr   h
    · refine g_aload_n o (q := 18) 0 rfl rfl dX3_readInto_17 rfl ?_
      refine g_cvi o (q := 21) (As := []) (rest := []) kv_X3_kindAtHand lk_X3_25 kC_38 (by decide) rfl rfl rfl (fun _ _ hc => c_X3_kindAtHand o.mk  hc) dX3_readInto_18 rfl ⟨rfl, rfl, Nat.le_of_ble_eq_true rfl, Nat.le_of_ble_eq_true rfl⟩ (Nat.le_of_ble_eq_true rfl) rfl h (fun r25 σ24 h => ?_)
      refine g_istore_n o (q := 22) dX3_readInto_21 rfl rfl (by decide) h (fun x26 => [(3, .int x26), (0, .ref (eA (xE X) 38)), (1, .ref (eA (xE X) b1)), (2, .int y2)]) (fun _ => rfl) (fun x26 h => ?_)
      refine g_iload_n o (q := 23) 0 rfl rfl dX3_readInto_22 rfl ?_
      refine g_iconst o (v := (-1)) (q := 24) (by decide) dX3_readInto_23 rfl ?_
      refine g_icmp_ne o (tgt := 35) (q := 27) dX3_readInto_24 (by decide) rfl h (fun h => ?_) (fun h => ?_)
      · refine g_aload_n o (q := 36) 1 rfl rfl dX3_readInto_35 rfl ?_
        refine g_aload_n o (q := 37) 2 rfl rfl dX3_readInto_36 rfl ?_
        refine g_iload_n o (q := 38) 0 rfl rfl dX3_readInto_37 rfl ?_
        refine g_cvi o (q := 41) (As := [.ref (eA (xE X) b1), .int x26]) (rest := []) kv_X3_readCurtain lk_X3_33 kC_38 (by decide) rfl rfl rfl (fun _ _ hc => c_X3_readCurtain o.mk b1 x26 g1 hc) dX3_readInto_38 rfl ⟨rfl, rfl, Nat.le_of_ble_eq_true rfl, Nat.le_of_ble_eq_true rfl⟩ (Nat.le_of_ble_eq_true rfl) rfl h (fun r28 σ27 h => ?_)
        refine g_sub (lv' := [(0, .ref (eA (xE X) 38)), (1, .ref (eA (xE X) b1)), (2, .int y2)]) [1, 2, 3] rfl ?_
        exact w_X3_readInto_J41 hres o hr ih g1 h
      · refine g_aload_n o (q := 28) 1 rfl rfl dX3_readInto_27 rfl ?_
        refine g_aload_n o (q := 29) 2 rfl rfl dX3_readInto_28 rfl ?_
        refine g_cvi o (q := 32) (As := [.ref (eA (xE X) b1)]) (rest := []) kv_X3_readOther lk_X3_29 kC_38 (by decide) rfl rfl rfl (fun _ _ hc => c_X3_readOther o.mk b1 g1 hc) dX3_readInto_29 rfl ⟨rfl, rfl, Nat.le_of_ble_eq_true rfl, Nat.le_of_ble_eq_true rfl⟩ (Nat.le_of_ble_eq_true rfl) rfl h (fun r33 σ32 h => ?_)
        refine g_goto o (tgt := 41) dX3_readInto_32 (by decide) ?_
        refine g_sub (lv' := [(0, .ref (eA (xE X) 38)), (1, .ref (eA (xE X) b1)), (2, .int y2)]) [1, 2, 3] rfl ?_
        exact w_X3_readInto_J41 hres o hr ih g1 h
set_option maxRecDepth 100000 in
set_option maxHeartbeats 4000000 in
theorem w_X3_readInto {X : Cx} {l : Launch} {r : Int32} {σr : Mem} {res : Int32 × Mem} (hres : res = (r, σr)) (o : OK X cX3_readInto RX3 sdC 5 rm_X3_readInto l) (hr : RI X .int r σr) (a1 : Nat) (h1 : kd sdC a1 1) {σ : Mem} (h : f_X3_readInto a1 σ = some res) : G X σ 0 [(0, .ref (eA (xE X) 38)), (1, .ref (eA (xE X) a1))] [] := by
  unfold f_X3_readInto at h
  refine g_aload_n o (q := 1) 0 rfl rfl dX3_readInto_0 rfl ?_
  refine g_iconst o (v := 0) (q := 2) (by decide) dX3_readInto_1 rfl ?_
  refine gp_X3_4 o (q := 5) kC_38 lk_X3_19 dX3_readInto_2 rfl h (fun σ21 h => ?_)
  refine g_aload_n o (q := 6) 0 rfl rfl dX3_readInto_5 rfl ?_
  refine g_cvv o (q := 9) (As := []) (rest := []) kv_X3_step lk_X3_22 kC_38 (by decide) rfl rfl rfl (fun _ _ hc => c_X3_step o.mk  hc) dX3_readInto_6 rfl ⟨rfl, rfl, Nat.le_of_ble_eq_true rfl, Nat.le_of_ble_eq_true rfl⟩ (Nat.le_of_ble_eq_true rfl) rfl h (fun _u22 σ22 h => ?_)
  refine g_iconst o (v := 1) (q := 10) (by decide) dX3_readInto_9 rfl ?_
  refine g_istore_n o (q := 11) dX3_readInto_10 rfl rfl (by decide) h (fun x23 => [(2, .int x23), (0, .ref (eA (xE X) 38)), (1, .ref (eA (xE X) a1))]) (fun _ => rfl) (fun x23 h => ?_)
  refine g_sub (lv' := [(0, .ref (eA (xE X) 38)), (1, .ref (eA (xE X) a1)), (2, .int x23)]) [1, 2, 0] rfl ?_
  exact w_X3_readInto_L11 hres o hr  FU a1 x23 σ22 h1 h
theorem c_X3_readInto {l : Launch} {E : En} {mk : Mem → Mem} (hmk : MK mk sdC) (a1 : Nat) (h1 : kd sdC a1 1) {σ : Mem} {r : Int32} {τ : Mem} (h : f_X3_readInto a1 σ = some (r, τ)) : Met l yX3_readInto (Cond.code yX3_readInto cX3_readInto 5 (some .int) :: wt) rm_X3_readInto (PW E mk [.ref (eA E 38), .ref (eA E a1)] σ) (QI E mk r τ) 0 0 (WA E) :=
  met_i (fun E => [.ref (eA E 38), .ref (eA E a1)]) (by decide) hmk (Nat.le_of_ble_eq_true rfl) (fun X o hr => w_X3_readInto rfl o hr a1 h1 h)
