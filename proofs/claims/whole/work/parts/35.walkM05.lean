set_option maxRecDepth 100000 in
set_option maxHeartbeats 4000000 in
theorem w_X5_token_L131 {X : Cx} {l : Launch} {u : Unit} {σr : Mem} {res : Unit × Mem} (hres : res = (u, σr)) (o : OK X cX5_token RX5 sdM 2 rm_X5_token l) (hr : RV X σr)   : ∀ (n : Nat)  (σ : Mem), f_X5_token_L131  n  σ = some res → G X σ 131 [(0, .ref (eA (xE X) 50))] [] := by
  intro n
  induction n with
  | zero => intro  σ  h; cases h
  | succ n ih =>
    intro  σ  h
    rw [f_X5_token_L131_s] at h
    refine g_aload_n o (q := 132) 0 rfl rfl dX5_token_131 rfl ?_
    refine g_aload_n o (q := 133) 0 rfl rfl dX5_token_132 rfl ?_
    refine gf_X5_8 o (q := 136) kM_50 lk_X5_231 dX5_token_133 rfl ?_
    refine g_cvi o (q := 139) (As := [.int (σ 50 8)]) (rest := []) kv_X5_byteAt lk_X5_237 kM_50 (by decide) rfl rfl rfl (fun _ _ hc => c_X5_byteAt o.mk (σ 50 8) hc) dX5_token_136 rfl ⟨rfl, rfl, Nat.le_of_ble_eq_true rfl, Nat.le_of_ble_eq_true rfl⟩ (Nat.le_of_ble_eq_true rfl) rfl h (fun r37 σ36 h => ?_)
    refine g_bipush o (v := 48) (q := 141) (by decide) dX5_token_139 rfl ?_
    refine g_bipush o (v := 57) (q := 143) (by decide) dX5_token_141 rfl ?_
    refine g_csi o (q := 146) (As := [.int r37, .int 48, .int 57]) (rest := []) kv_X5_within lk_X5_70 rfl (fun _ _ hc => c_X5_within o.mk r37 48 57 hc) dX5_token_143 rfl ⟨rfl, rfl, Nat.le_of_ble_eq_true rfl, Nat.le_of_ble_eq_true rfl⟩ (Nat.le_of_ble_eq_true rfl) rfl h (fun r39 σ38 h => ?_)
    refine g_if_eq o (tgt := 206) (q := 149) dX5_token_146 (by decide) rfl h (fun h => ?_) (fun h => ?_)
    · exact g_vret o hr (h.trans (congrArg some hres)) dX5_token_206
    · refine g_aload_n o (q := 150) 0 rfl rfl dX5_token_149 rfl ?_
      refine g_sipush o (v := 10000) (q := 153) (by decide) dX5_token_150 rfl ?_
      refine g_bipush o (v := 10) (q := 155) (by decide) dX5_token_153 rfl ?_
      refine g_aload_n o (q := 156) 0 rfl rfl dX5_token_155 rfl ?_
      refine gf_X5_10 o (q := 159) kM_50 lk_X5_240 dX5_token_156 rfl ?_
      refine g_imul o (q := 160) dX5_token_159 rfl ?_
      refine g_aload_n o (q := 161) 0 rfl rfl dX5_token_160 rfl ?_
      refine g_aload_n o (q := 162) 0 rfl rfl dX5_token_161 rfl ?_
      refine gf_X5_8 o (q := 165) kM_50 lk_X5_231 dX5_token_162 rfl ?_
      refine g_cvi o (q := 168) (As := [.int (σ38 50 8)]) (rest := [.int (10 * (σ38 50 10)), .int 10000, .ref (eA (xE X) 50)]) kv_X5_byteAt lk_X5_237 kM_50 (by decide) rfl rfl rfl (fun _ _ hc => c_X5_byteAt o.mk (σ38 50 8) hc) dX5_token_165 rfl ⟨rfl, rfl, Nat.le_of_ble_eq_true rfl, Nat.le_of_ble_eq_true rfl⟩ (Nat.le_of_ble_eq_true rfl) rfl h (fun r41 σ40 h => ?_)
      refine g_iadd o (q := 169) dX5_token_168 rfl ?_
      refine g_bipush o (v := 48) (q := 171) (by decide) dX5_token_169 rfl ?_
      refine g_isub o (q := 172) dX5_token_171 rfl ?_
      refine g_mmin o (q := 175) lk_X5_133 dX5_token_172 rfl ⟨Nat.le_of_ble_eq_true rfl, Nat.le_of_ble_eq_true rfl⟩ ?_
      refine gp_X5_10 o (q := 178) kM_50 lk_X5_240 dX5_token_175 rfl h (fun σ42 h => ?_)
      refine g_aload_n o (q := 179) 0 rfl rfl dX5_token_178 rfl ?_
      refine g_dup o (q := 180) rfl dX5_token_179 rfl ?_
      refine gf_X5_8 o (q := 183) kM_50 lk_X5_231 dX5_token_180 rfl ?_
      refine g_iconst o (v := 1) (q := 184) (by decide) dX5_token_183 rfl ?_
      refine g_iadd o (q := 185) dX5_token_184 rfl ?_
      refine gp_X5_8 o (q := 188) kM_50 lk_X5_231 dX5_token_185 rfl h (fun σ43 h => ?_)
      refine g_goto o (tgt := 131) dX5_token_188 (by decide) ?_
      exact ih  σ43  h
set_option maxRecDepth 100000 in
set_option maxHeartbeats 4000000 in
theorem w_X5_token_L84 {X : Cx} {l : Launch} {u : Unit} {σr : Mem} {res : Unit × Mem} (hres : res = (u, σr)) (o : OK X cX5_token RX5 sdM 2 rm_X5_token l) (hr : RV X σr)   : ∀ (n : Nat)  (σ : Mem), f_X5_token_L84  n  σ = some res → G X σ 84 [(0, .ref (eA (xE X) 50))] [] := by
  intro n
  induction n with
  | zero => intro  σ  h; cases h
  | succ n ih =>
    intro  σ  h
    rw [f_X5_token_L84_s] at h
    refine g_aload_n o (q := 85) 0 rfl rfl dX5_token_84 rfl ?_
    refine g_aload_n o (q := 86) 0 rfl rfl dX5_token_85 rfl ?_
    refine gf_X5_8 o (q := 89) kM_50 lk_X5_231 dX5_token_86 rfl ?_
    refine g_cvi o (q := 92) (As := [.int (σ 50 8)]) (rest := []) kv_X5_byteAt lk_X5_237 kM_50 (by decide) rfl rfl rfl (fun _ _ hc => c_X5_byteAt o.mk (σ 50 8) hc) dX5_token_89 rfl ⟨rfl, rfl, Nat.le_of_ble_eq_true rfl, Nat.le_of_ble_eq_true rfl⟩ (Nat.le_of_ble_eq_true rfl) rfl h (fun r46 σ45 h => ?_)
    refine g_bipush o (v := 97) (q := 94) (by decide) dX5_token_92 rfl ?_
    refine g_bipush o (v := 122) (q := 96) (by decide) dX5_token_94 rfl ?_
    refine g_csi o (q := 99) (As := [.int r46, .int 97, .int 122]) (rest := []) kv_X5_within lk_X5_70 rfl (fun _ _ hc => c_X5_within o.mk r46 97 122 hc) dX5_token_96 rfl ⟨rfl, rfl, Nat.le_of_ble_eq_true rfl, Nat.le_of_ble_eq_true rfl⟩ (Nat.le_of_ble_eq_true rfl) rfl h (fun r48 σ47 h => ?_)
    refine g_if_eq o (tgt := 206) (q := 102) dX5_token_99 (by decide) rfl h (fun h => ?_) (fun h => ?_)
    · exact g_vret o hr (h.trans (congrArg some hres)) dX5_token_206
    · refine g_aload_n o (q := 103) 0 rfl rfl dX5_token_102 rfl ?_
      refine g_dup o (q := 104) rfl dX5_token_103 rfl ?_
      refine gf_X5_8 o (q := 107) kM_50 lk_X5_231 dX5_token_104 rfl ?_
      refine g_iconst o (v := 1) (q := 108) (by decide) dX5_token_107 rfl ?_
      refine g_iadd o (q := 109) dX5_token_108 rfl ?_
      refine gp_X5_8 o (q := 112) kM_50 lk_X5_231 dX5_token_109 rfl h (fun σ49 h => ?_)
      refine g_goto o (tgt := 84) dX5_token_112 (by decide) ?_
      exact ih  σ49  h
set_option maxRecDepth 100000 in
set_option maxHeartbeats 4000000 in
theorem w_X5_token_L8 {X : Cx} {l : Launch} {u : Unit} {σr : Mem} {res : Unit × Mem} (hres : res = (u, σr)) (o : OK X cX5_token RX5 sdM 2 rm_X5_token l) (hr : RV X σr)   : ∀ (n : Nat)  (σ : Mem), f_X5_token_L8  n  σ = some res → G X σ 8 [(0, .ref (eA (xE X) 50))] [] := by
  intro n
  induction n with
  | zero => intro  σ  h; cases h
  | succ n ih =>
    intro  σ  h
    rw [f_X5_token_L8_s] at h
    refine g_aload_n o (q := 9) 0 rfl rfl dX5_token_8 rfl ?_
    refine g_aload_n o (q := 10) 0 rfl rfl dX5_token_9 rfl ?_
    refine gf_X5_7 o (q := 13) kM_50 lk_X5_234 dX5_token_10 rfl ?_
    refine g_cvi o (q := 16) (As := [.int (σ 50 7)]) (rest := []) kv_X5_byteAt lk_X5_237 kM_50 (by decide) rfl rfl rfl (fun _ _ hc => c_X5_byteAt o.mk (σ 50 7) hc) dX5_token_13 rfl ⟨rfl, rfl, Nat.le_of_ble_eq_true rfl, Nat.le_of_ble_eq_true rfl⟩ (Nat.le_of_ble_eq_true rfl) rfl h (fun r23 σ22 h => ?_)
    refine g_bipush o (v := 32) (q := 18) (by decide) dX5_token_16 rfl ?_
    refine g_icmp_ne o (tgt := 34) (q := 21) dX5_token_18 (by decide) rfl h (fun h => ?_) (fun h => ?_)
    · refine g_aload_n o (q := 35) 0 rfl rfl dX5_token_34 rfl ?_
      refine g_aload_n o (q := 36) 0 rfl rfl dX5_token_35 rfl ?_
      refine gf_X5_7 o (q := 39) kM_50 lk_X5_234 dX5_token_36 rfl ?_
      refine g_cvi o (q := 42) (As := [.int (σ22 50 7)]) (rest := []) kv_X5_byteAt lk_X5_237 kM_50 (by decide) rfl rfl rfl (fun _ _ hc => c_X5_byteAt o.mk (σ22 50 7) hc) dX5_token_39 rfl ⟨rfl, rfl, Nat.le_of_ble_eq_true rfl, Nat.le_of_ble_eq_true rfl⟩ (Nat.le_of_ble_eq_true rfl) rfl h (fun r25 σ24 h => ?_)
      refine g_istore_n o (q := 43) dX5_token_42 rfl rfl (by decide) h (fun x26 => [(1, .int x26), (0, .ref (eA (xE X) 50))]) (fun _ => rfl) (fun x26 h => ?_)
      refine g_aload_n o (q := 44) 1 rfl rfl dX5_token_43 rfl ?_
      refine g_aload_n o (q := 45) 1 rfl rfl dX5_token_44 rfl ?_
      refine gf_X5_7 o (q := 48) kM_50 lk_X5_234 dX5_token_45 rfl ?_
      refine gp_X5_8 o (q := 51) kM_50 lk_X5_231 dX5_token_48 rfl h (fun σ27 h => ?_)
      refine g_aload_n o (q := 52) 1 rfl rfl dX5_token_51 rfl ?_
      refine g_iconst o (v := 0) (q := 53) (by decide) dX5_token_52 rfl ?_
      refine gp_X5_10 o (q := 56) kM_50 lk_X5_240 dX5_token_53 rfl h (fun σ28 h => ?_)
      refine g_iload_n o (q := 57) 0 rfl rfl dX5_token_56 rfl ?_
      refine g_if_ge o (tgt := 68) (q := 60) dX5_token_57 (by decide) rfl h (fun h => ?_) (fun h => ?_)
      · refine g_iload_n o (q := 69) 0 rfl rfl dX5_token_68 rfl ?_
        refine g_bipush o (v := 97) (q := 71) (by decide) dX5_token_69 rfl ?_
        refine g_bipush o (v := 122) (q := 73) (by decide) dX5_token_71 rfl ?_
        refine g_csi o (q := 76) (As := [.int x26, .int 97, .int 122]) (rest := []) kv_X5_within lk_X5_70 rfl (fun _ _ hc => c_X5_within o.mk x26 97 122 hc) dX5_token_73 rfl ⟨rfl, rfl, Nat.le_of_ble_eq_true rfl, Nat.le_of_ble_eq_true rfl⟩ (Nat.le_of_ble_eq_true rfl) rfl h (fun r30 σ29 h => ?_)
        refine g_if_eq o (tgt := 115) (q := 79) dX5_token_76 (by decide) rfl h (fun h => ?_) (fun h => ?_)
        · refine g_iload_n o (q := 116) 0 rfl rfl dX5_token_115 rfl ?_
          refine g_bipush o (v := 48) (q := 118) (by decide) dX5_token_116 rfl ?_
          refine g_bipush o (v := 57) (q := 120) (by decide) dX5_token_118 rfl ?_
          refine g_csi o (q := 123) (As := [.int x26, .int 48, .int 57]) (rest := []) kv_X5_within lk_X5_70 rfl (fun _ _ hc => c_X5_within o.mk x26 48 57 hc) dX5_token_120 rfl ⟨rfl, rfl, Nat.le_of_ble_eq_true rfl, Nat.le_of_ble_eq_true rfl⟩ (Nat.le_of_ble_eq_true rfl) rfl h (fun r32 σ31 h => ?_)
          refine g_if_eq o (tgt := 191) (q := 126) dX5_token_123 (by decide) rfl h (fun h => ?_) (fun h => ?_)
          · refine g_aload_n o (q := 192) 1 rfl rfl dX5_token_191 rfl ?_
            refine g_iconst o (v := 3) (q := 193) (by decide) dX5_token_192 rfl ?_
            refine gp_X5_9 o (q := 196) kM_50 lk_X5_243 dX5_token_193 rfl h (fun σ33 h => ?_)
            refine g_aload_n o (q := 197) 1 rfl rfl dX5_token_196 rfl ?_
            refine g_dup o (q := 198) rfl dX5_token_197 rfl ?_
            refine gf_X5_8 o (q := 201) kM_50 lk_X5_231 dX5_token_198 rfl ?_
            refine g_iconst o (v := 1) (q := 202) (by decide) dX5_token_201 rfl ?_
            refine g_iadd o (q := 203) dX5_token_202 rfl ?_
            refine gp_X5_8 o (q := 206) kM_50 lk_X5_231 dX5_token_203 rfl h (fun σ34 h => ?_)
            exact g_vret o hr (h.trans (congrArg some hres)) dX5_token_206
          · refine g_aload_n o (q := 127) 1 rfl rfl dX5_token_126 rfl ?_
            refine g_iconst o (v := 2) (q := 128) (by decide) dX5_token_127 rfl ?_
            refine gp_X5_9 o (q := 131) kM_50 lk_X5_243 dX5_token_128 rfl h (fun σ35 h => ?_)
            refine g_sub (lv' := [(0, .ref (eA (xE X) 50))]) [1] rfl ?_
            exact w_X5_token_L131 hres o hr  FU  σ35  h
        · refine g_aload_n o (q := 80) 1 rfl rfl dX5_token_79 rfl ?_
          refine g_iconst o (v := 1) (q := 81) (by decide) dX5_token_80 rfl ?_
          refine gp_X5_9 o (q := 84) kM_50 lk_X5_243 dX5_token_81 rfl h (fun σ44 h => ?_)
          refine g_sub (lv' := [(0, .ref (eA (xE X) 50))]) [1] rfl ?_
          exact w_X5_token_L84 hres o hr  FU  σ44  h
      · refine g_aload_n o (q := 61) 1 rfl rfl dX5_token_60 rfl ?_
        refine g_iconst o (v := 0) (q := 62) (by decide) dX5_token_61 rfl ?_
        refine gp_X5_9 o (q := 65) kM_50 lk_X5_243 dX5_token_62 rfl h (fun σ50 h => ?_)
        refine g_goto o (tgt := 206) dX5_token_65 (by decide) ?_
        exact g_vret o hr (h.trans (congrArg some hres)) dX5_token_206
    · refine g_aload_n o (q := 22) 0 rfl rfl dX5_token_21 rfl ?_
      refine g_dup o (q := 23) rfl dX5_token_22 rfl ?_
      refine gf_X5_7 o (q := 26) kM_50 lk_X5_234 dX5_token_23 rfl ?_
      refine g_iconst o (v := 1) (q := 27) (by decide) dX5_token_26 rfl ?_
      refine g_iadd o (q := 28) dX5_token_27 rfl ?_
      refine gp_X5_7 o (q := 31) kM_50 lk_X5_234 dX5_token_28 rfl h (fun σ51 h => ?_)
      refine g_goto o (tgt := 8) dX5_token_31 (by decide) ?_
      exact ih  σ51  h
set_option maxRecDepth 100000 in
set_option maxHeartbeats 4000000 in
theorem w_X5_token {X : Cx} {l : Launch} {u : Unit} {σr : Mem} {res : Unit × Mem} (hres : res = (u, σr)) (o : OK X cX5_token RX5 sdM 2 rm_X5_token l) (hr : RV X σr)   {σ : Mem} (h : f_X5_token  σ = some res) : G X σ 0 [(0, .ref (eA (xE X) 50))] [] := by
  unfold f_X5_token at h
  refine g_aload_n o (q := 1) 0 rfl rfl dX5_token_0 rfl ?_
  refine g_aload_n o (q := 2) 0 rfl rfl dX5_token_1 rfl ?_
  refine gf_X5_8 o (q := 5) kM_50 lk_X5_231 dX5_token_2 rfl ?_
  refine gp_X5_7 o (q := 8) kM_50 lk_X5_234 dX5_token_5 rfl h (fun σ21 h => ?_)
  exact w_X5_token_L8 hres o hr  FU  σ21  h
theorem c_X5_token {l : Launch} {E : En} {mk : Mem → Mem} (hmk : MK mk sdM)   {σ : Mem} {r : Unit} {τ : Mem} (h : f_X5_token  σ = some (r, τ)) : Met l yX5_token (Cond.code yX5_token cX5_token 2 none :: wt) rm_X5_token (PW E mk [.ref (eA E 50)] σ) (QV E mk τ) 0 0 (WA E) :=
  met_v (fun E => [.ref (eA E 50)]) (by decide) hmk (Nat.le_of_ble_eq_true rfl) (fun X o hr => w_X5_token rfl o hr   h)
set_option maxRecDepth 100000 in
set_option maxHeartbeats 4000000 in
theorem w_X5_isWord_J68 {X : Cx} {l : Launch} {r : Int32} {σr : Mem} {res : Int32 × Mem} (hres : res = (r, σr)) (o : OK X cX5_isWord RX5 sdM 4 rm_X5_isWord l) (hr : RI X .boolean r σr) {k32 : Nat → Int32 → Int32 → Mem → Option (Int32 × Mem)} (hk32 : ∀ (b1 : Nat) (y2 : Int32) (y3 : Int32) (σ : Mem), b1 < 14 → k32 b1 y2 y3 σ = some res → G X σ 32 [(0, .ref (eA (xE X) 50)), (1, .ref (eK (xE X) b1)), (2, .int y2), (3, .int y3)] []) {b1 : Nat} {y3 : Int32} {s0 : Int32} (g1 : b1 < 14) {σ : Mem} (h : f_X5_isWord_J68 k32 b1 y3 s0 σ = some res) : G X σ 68 [(0, .ref (eA (xE X) 50)), (1, .ref (eK (xE X) b1)), (3, .int y3)] [.int s0] := by
  unfold f_X5_isWord_J68 at h
  refine g_istore_n o (q := 69) dX5_isWord_68 rfl rfl (by decide) h (fun x28 => [(2, .int x28), (0, .ref (eA (xE X) 50)), (1, .ref (eK (xE X) b1)), (3, .int y3)]) (fun _ => rfl) (fun x28 h => ?_)
  refine g_iinc o (q := 72) (dn := 1) dX5_isWord_69 rfl 3 rfl (by decide) (by decide) h (fun x29 => [(3, .int x29), (2, .int x28), (0, .ref (eA (xE X) 50)), (1, .ref (eK (xE X) b1))]) (fun _ => rfl) (fun x29 h => ?_)
  refine g_goto o (tgt := 32) dX5_isWord_72 (by decide) ?_
  refine g_sub (lv' := [(0, .ref (eA (xE X) 50)), (1, .ref (eK (xE X) b1)), (2, .int x28), (3, .int x29)]) [2, 3, 1, 0] rfl ?_
  exact hk32 b1 x28 x29 σ g1 h
set_option maxRecDepth 100000 in
set_option maxHeartbeats 4000000 in
theorem w_X5_isWord_L32 {X : Cx} {l : Launch} {r : Int32} {σr : Mem} {res : Int32 × Mem} (hres : res = (r, σr)) (o : OK X cX5_isWord RX5 sdM 4 rm_X5_isWord l) (hr : RI X .boolean r σr)   : ∀ (n : Nat) (b1 : Nat) (y2 : Int32) (y3 : Int32) (σ : Mem), b1 < 14 → f_X5_isWord_L32  n b1 y2 y3 σ = some res → G X σ 32 [(0, .ref (eA (xE X) 50)), (1, .ref (eK (xE X) b1)), (2, .int y2), (3, .int y3)] [] := by
  intro n
  induction n with
  | zero => intro b1 y2 y3 σ g1 h; cases h
  | succ n ih =>
    intro b1 y2 y3 σ g1 h
    rw [f_X5_isWord_L32_s] at h
    refine g_iload_n o (q := 33) 3 rfl rfl dX5_isWord_32 rfl ?_
    refine g_aload_n o (q := 34) 1 rfl rfl dX5_isWord_33 rfl ?_
    refine g_cst o (q := 37) (As := []) (rest := [.int y3]) kv_J0_length_8abf5 lk_X5_246 g1 rfl rfl (fun _ _ hc => c_J0_length_8abf5 o.mk b1 g1 hc) dX5_isWord_34 rfl ⟨rfl, rfl, Nat.le_of_ble_eq_true rfl, Nat.le_of_ble_eq_true rfl⟩ (Nat.le_of_ble_eq_true rfl) rfl h (fun r24 σ23 h => ?_)
    refine g_icmp_ge o (tgt := 75) (q := 40) dX5_isWord_37 (by decide) rfl h (fun h => ?_) (fun h => ?_)
    · refine g_iload_n o (q := 76) 2 rfl rfl dX5_isWord_75 rfl ?_
      obtain ⟨hb, h⟩ := vB_some h
      exact g_iret o hr (h.trans (congrArg some hres)) (by rcases hb with hb | hb <;> rw [hb] <;> rfl) dX5_isWord_76
    · refine g_iload_n o (q := 41) 2 rfl rfl dX5_isWord_40 rfl ?_
      refine g_if_eq o (tgt := 75) (q := 44) dX5_isWord_41 (by decide) rfl h (fun h => ?_) (fun h => ?_)
      · refine g_iload_n o (q := 76) 2 rfl rfl dX5_isWord_75 rfl ?_
        obtain ⟨hb, h⟩ := vB_some h
        exact g_iret o hr (h.trans (congrArg some hres)) (by rcases hb with hb | hb <;> rw [hb] <;> rfl) dX5_isWord_76
      · refine g_aload_n o (q := 45) 0 rfl rfl dX5_isWord_44 rfl ?_
        refine gf_X5_5 o (q := 48) kM_50 lk_X5_22 dX5_isWord_45 rfl ?_
        refine g_aload_n o (q := 49) 0 rfl rfl dX5_isWord_48 rfl ?_
        refine gf_X5_7 o (q := 52) kM_50 lk_X5_234 dX5_isWord_49 rfl ?_
        refine g_iload_n o (q := 53) 3 rfl rfl dX5_isWord_52 rfl ?_
        refine g_iadd o (q := 54) dX5_isWord_53 rfl ?_
        refine g_iald o (q := 55) kM_55 dX5_isWord_54 rfl h (fun j25 hjj25 h => ?_)
        refine g_aload_n o (q := 56) 1 rfl rfl dX5_isWord_55 rfl ?_
        refine g_iload_n o (q := 57) 3 rfl rfl dX5_isWord_56 rfl ?_
        refine g_cst o (q := 60) (As := [.int y3]) (rest := [.int (σ23 55 j25)]) kv_J0_charAt_5068e lk_X5_249 g1 rfl rfl (fun _ _ hc => c_J0_charAt_5068e o.mk b1 y3 g1 hc) dX5_isWord_57 rfl ⟨rfl, rfl, Nat.le_of_ble_eq_true rfl, Nat.le_of_ble_eq_true rfl⟩ (Nat.le_of_ble_eq_true rfl) rfl h (fun r27 σ26 h => ?_)
        refine g_icmp_ne o (tgt := 67) (q := 63) dX5_isWord_60 (by decide) rfl h (fun h => ?_) (fun h => ?_)
        · refine g_iconst o (v := 0) (q := 68) (by decide) dX5_isWord_67 rfl ?_
          refine g_sub (lv' := [(0, .ref (eA (xE X) 50)), (1, .ref (eK (xE X) b1)), (3, .int y3)]) [0, 1, 3] rfl ?_
          exact w_X5_isWord_J68 hres o hr ih g1 h
        · refine g_iconst o (v := 1) (q := 64) (by decide) dX5_isWord_63 rfl ?_
          refine g_goto o (tgt := 68) dX5_isWord_64 (by decide) ?_
          refine g_sub (lv' := [(0, .ref (eA (xE X) 50)), (1, .ref (eK (xE X) b1)), (3, .int y3)]) [0, 1, 3] rfl ?_
          exact w_X5_isWord_J68 hres o hr ih g1 h
set_option maxRecDepth 100000 in
set_option maxHeartbeats 4000000 in
theorem w_X5_isWord_J29 {X : Cx} {l : Launch} {r : Int32} {σr : Mem} {res : Int32 × Mem} (hres : res = (r, σr)) (o : OK X cX5_isWord RX5 sdM 4 rm_X5_isWord l) (hr : RI X .boolean r σr)   {b1 : Nat} {s0 : Int32} (g1 : b1 < 14) {σ : Mem} (h : f_X5_isWord_J29  b1 s0 σ = some res) : G X σ 29 [(0, .ref (eA (xE X) 50)), (1, .ref (eK (xE X) b1))] [.int s0] := by
  unfold f_X5_isWord_J29 at h
  refine g_istore_n o (q := 30) dX5_isWord_29 rfl rfl (by decide) h (fun x21 => [(2, .int x21), (0, .ref (eA (xE X) 50)), (1, .ref (eK (xE X) b1))]) (fun _ => rfl) (fun x21 h => ?_)
  refine g_iconst o (v := 0) (q := 31) (by decide) dX5_isWord_30 rfl ?_
  refine g_istore_n o (q := 32) dX5_isWord_31 rfl rfl (by decide) h (fun x22 => [(3, .int x22), (2, .int x21), (0, .ref (eA (xE X) 50)), (1, .ref (eK (xE X) b1))]) (fun _ => rfl) (fun x22 h => ?_)
  refine g_sub (lv' := [(0, .ref (eA (xE X) 50)), (1, .ref (eK (xE X) b1)), (2, .int x21), (3, .int x22)]) [2, 3, 1, 0] rfl ?_
  exact w_X5_isWord_L32 hres o hr  FU b1 x21 x22 σ g1 h
set_option maxRecDepth 100000 in
set_option maxHeartbeats 4000000 in
theorem w_X5_isWord_J28 {X : Cx} {l : Launch} {r : Int32} {σr : Mem} {res : Int32 × Mem} (hres : res = (r, σr)) (o : OK X cX5_isWord RX5 sdM 4 rm_X5_isWord l) (hr : RI X .boolean r σr)   {b1 : Nat} (g1 : b1 < 14) {σ : Mem} (h : f_X5_isWord_J28  b1 σ = some res) : G X σ 28 [(0, .ref (eA (xE X) 50)), (1, .ref (eK (xE X) b1))] [] := by
  unfold f_X5_isWord_J28 at h
  refine g_iconst o (v := 0) (q := 29) (by decide) dX5_isWord_28 rfl ?_
  exact w_X5_isWord_J29 hres o hr  g1 h
set_option maxRecDepth 100000 in
set_option maxHeartbeats 4000000 in
theorem w_X5_isWord {X : Cx} {l : Launch} {r : Int32} {σr : Mem} {res : Int32 × Mem} (hres : res = (r, σr)) (o : OK X cX5_isWord RX5 sdM 4 rm_X5_isWord l) (hr : RI X .boolean r σr) (a1 : Nat) (h1 : a1 < 14) {σ : Mem} (h : f_X5_isWord a1 σ = some res) : G X σ 0 [(0, .ref (eA (xE X) 50)), (1, .ref (eK (xE X) a1))] [] := by
  unfold f_X5_isWord at h
  refine g_aload_n o (q := 1) 0 rfl rfl dX5_isWord_0 rfl ?_
  refine gf_X5_9 o (q := 4) kM_50 lk_X5_243 dX5_isWord_1 rfl ?_
  refine g_iconst o (v := 1) (q := 5) (by decide) dX5_isWord_4 rfl ?_
  refine g_icmp_ne o (tgt := 28) (q := 8) dX5_isWord_5 (by decide) rfl h (fun h => ?_) (fun h => ?_)
  · exact w_X5_isWord_J28 hres o hr  h1 h
  · refine g_aload_n o (q := 9) 0 rfl rfl dX5_isWord_8 rfl ?_
    refine gf_X5_8 o (q := 12) kM_50 lk_X5_231 dX5_isWord_9 rfl ?_
    refine g_aload_n o (q := 13) 0 rfl rfl dX5_isWord_12 rfl ?_
    refine gf_X5_7 o (q := 16) kM_50 lk_X5_234 dX5_isWord_13 rfl ?_
    refine g_isub o (q := 17) dX5_isWord_16 rfl ?_
    refine g_aload_n o (q := 18) 1 rfl rfl dX5_isWord_17 rfl ?_
    refine g_cst o (q := 21) (As := []) (rest := [.int ((σ 50 8) - (σ 50 7))]) kv_J0_length_8abf5 lk_X5_246 h1 rfl rfl (fun _ _ hc => c_J0_length_8abf5 o.mk a1 h1 hc) dX5_isWord_18 rfl ⟨rfl, rfl, Nat.le_of_ble_eq_true rfl, Nat.le_of_ble_eq_true rfl⟩ (Nat.le_of_ble_eq_true rfl) rfl h (fun r31 σ30 h => ?_)
    refine g_icmp_ne o (tgt := 28) (q := 24) dX5_isWord_21 (by decide) rfl h (fun h => ?_) (fun h => ?_)
    · exact w_X5_isWord_J28 hres o hr  h1 h
    · refine g_iconst o (v := 1) (q := 25) (by decide) dX5_isWord_24 rfl ?_
      refine g_goto o (tgt := 29) dX5_isWord_25 (by decide) ?_
      exact w_X5_isWord_J29 hres o hr  h1 h
theorem c_X5_isWord {l : Launch} {E : En} {mk : Mem → Mem} (hmk : MK mk sdM) (a1 : Nat) (h1 : a1 < 14) {σ : Mem} {r : Int32} {τ : Mem} (h : f_X5_isWord a1 σ = some (r, τ)) : Met l yX5_isWord (Cond.code yX5_isWord cX5_isWord 4 (some .boolean) :: wt) rm_X5_isWord (PW E mk [.ref (eA E 50), .ref (eK E a1)] σ) (QI E mk r τ) 0 0 (WA E) :=
  met_i (fun E => [.ref (eA E 50), .ref (eK E a1)]) (by decide) hmk (Nat.le_of_ble_eq_true rfl) (fun X o hr => w_X5_isWord rfl o hr a1 h1 h)
set_option maxRecDepth 100000 in
set_option maxHeartbeats 4000000 in
theorem w_X5_must_J17 {X : Cx} {l : Launch} {u : Unit} {σr : Mem} {res : Unit × Mem} (hres : res = (u, σr)) (o : OK X cX5_must RX5 sdM 2 rm_X5_must l) (hr : RV X σr)   {s1 : Int32}  {σ : Mem} (h : f_X5_must_J17  s1 σ = some res) : G X σ 17 [(0, .ref (eA (xE X) 50))] [.int s1, .ref (eA (xE X) 50)] := by
  unfold f_X5_must_J17 at h
  obtain ⟨hb, h⟩ := vB_some h
  refine gp_X5_11 o (q := 20) kM_50 lk_X5_253 dX5_must_17 rfl hb h (fun σ21 h => ?_)
  refine g_aload_n o (q := 21) 0 rfl rfl dX5_must_20 rfl ?_
  refine gf_X5_11 o (q := 24) kM_50 lk_X5_253 dX5_must_21 rfl ?_
  refine g_if_ne o (tgt := 31) (q := 27) dX5_must_24 (by decide) rfl h (fun h => ?_) (fun h => ?_)
  · exact g_vret o hr (h.trans (congrArg some hres)) dX5_must_31
  · refine g_aload_n o (q := 28) 0 rfl rfl dX5_must_27 rfl ?_
    refine g_cvv o (q := 31) (As := []) (rest := []) kv_X5_token lk_X5_257 kM_50 (by decide) rfl rfl rfl (fun _ _ hc => c_X5_token o.mk  hc) dX5_must_28 rfl ⟨rfl, rfl, Nat.le_of_ble_eq_true rfl, Nat.le_of_ble_eq_true rfl⟩ (Nat.le_of_ble_eq_true rfl) rfl h (fun _u22 σ22 h => ?_)
    exact g_vret o hr (h.trans (congrArg some hres)) dX5_must_31
set_option maxRecDepth 100000 in
set_option maxHeartbeats 4000000 in
theorem w_X5_must_J12 {X : Cx} {l : Launch} {u : Unit} {σr : Mem} {res : Unit × Mem} (hres : res = (u, σr)) (o : OK X cX5_must RX5 sdM 2 rm_X5_must l) (hr : RV X σr)     {σ : Mem} (h : f_X5_must_J12   σ = some res) : G X σ 12 [(0, .ref (eA (xE X) 50))] [.ref (eA (xE X) 50)] := by
  unfold f_X5_must_J12 at h
  refine g_iconst o (v := 1) (q := 13) (by decide) dX5_must_12 rfl ?_
  refine g_goto o (tgt := 17) dX5_must_13 (by decide) ?_
  exact w_X5_must_J17 hres o hr   h
set_option maxRecDepth 100000 in
set_option maxHeartbeats 4000000 in
theorem w_X5_must {X : Cx} {l : Launch} {u : Unit} {σr : Mem} {res : Unit × Mem} (hres : res = (u, σr)) (o : OK X cX5_must RX5 sdM 2 rm_X5_must l) (hr : RV X σr) (x1 : Int32)  {σ : Mem} (h : f_X5_must x1 σ = some res) : G X σ 0 [(0, .ref (eA (xE X) 50)), (1, .int x1)] [] := by
  unfold f_X5_must at h
  refine g_aload_n o (q := 1) 0 rfl rfl dX5_must_0 rfl ?_
  refine g_aload_n o (q := 2) 0 rfl rfl dX5_must_1 rfl ?_
  refine gf_X5_11 o (q := 5) kM_50 lk_X5_253 dX5_must_2 rfl ?_
  refine g_if_ne o (tgt := 12) (q := 8) dX5_must_5 (by decide) rfl h (fun h => ?_) (fun h => ?_)
  · refine g_sub (lv' := [(0, .ref (eA (xE X) 50))]) [0] rfl ?_
    exact w_X5_must_J12 hres o hr   h
  · refine g_iload_n o (q := 9) 1 rfl rfl dX5_must_8 rfl ?_
    refine g_if_ne o (tgt := 16) (q := 12) dX5_must_9 (by decide) rfl h (fun h => ?_) (fun h => ?_)
    · refine g_iconst o (v := 0) (q := 17) (by decide) dX5_must_16 rfl ?_
      refine g_sub (lv' := [(0, .ref (eA (xE X) 50))]) [0] rfl ?_
      exact w_X5_must_J17 hres o hr   h
    · refine g_sub (lv' := [(0, .ref (eA (xE X) 50))]) [0] rfl ?_
      exact w_X5_must_J12 hres o hr   h
theorem c_X5_must {l : Launch} {E : En} {mk : Mem → Mem} (hmk : MK mk sdM) (x1 : Int32)  {σ : Mem} {r : Unit} {τ : Mem} (h : f_X5_must x1 σ = some (r, τ)) : Met l yX5_must (Cond.code yX5_must cX5_must 2 none :: wt) rm_X5_must (PW E mk [.ref (eA E 50), .int x1] σ) (QV E mk τ) 0 0 (WA E) :=
  met_v (fun E => [.ref (eA E 50), .int x1]) (by decide) hmk (Nat.le_of_ble_eq_true rfl) (fun X o hr => w_X5_must rfl o hr x1  h)
set_option maxRecDepth 100000 in
set_option maxHeartbeats 4000000 in
theorem w_X5_number_J28 {X : Cx} {l : Launch} {r : Int32} {σr : Mem} {res : Int32 × Mem} (hres : res = (r, σr)) (o : OK X cX5_number RX5 sdM 4 rm_X5_number l) (hr : RI X .int r σr)   {y3 : Int32} {s1 : Int32}  {σ : Mem} (h : f_X5_number_J28  y3 s1 σ = some res) : G X σ 28 [(3, .int y3)] [.int s1, .ref (eA (xE X) 50)] := by
  unfold f_X5_number_J28 at h
  refine g_cvv o (q := 31) (As := [.int s1]) (rest := []) kv_X5_must lk_X5_260 kM_50 (by decide) rfl rfl rfl (fun _ _ hc => c_X5_must o.mk s1 hc) dX5_number_28 rfl ⟨rfl, rfl, Nat.le_of_ble_eq_true rfl, Nat.le_of_ble_eq_true rfl⟩ (Nat.le_of_ble_eq_true rfl) rfl h (fun _u22 σ22 h => ?_)
  refine g_iload_n o (q := 32) 0 rfl rfl dX5_number_31 rfl ?_
  exact g_iret o hr (h.trans (congrArg some hres)) rfl dX5_number_32
set_option maxRecDepth 100000 in
set_option maxHeartbeats 4000000 in
theorem w_X5_number_J27 {X : Cx} {l : Launch} {r : Int32} {σr : Mem} {res : Int32 × Mem} (hres : res = (r, σr)) (o : OK X cX5_number RX5 sdM 4 rm_X5_number l) (hr : RI X .int r σr)   {y3 : Int32}  {σ : Mem} (h : f_X5_number_J27  y3 σ = some res) : G X σ 27 [(3, .int y3)] [.ref (eA (xE X) 50)] := by
  unfold f_X5_number_J27 at h
  refine g_iconst o (v := 0) (q := 28) (by decide) dX5_number_27 rfl ?_
  exact w_X5_number_J28 hres o hr   h
set_option maxRecDepth 100000 in
set_option maxHeartbeats 4000000 in
theorem w_X5_number {X : Cx} {l : Launch} {r : Int32} {σr : Mem} {res : Int32 × Mem} (hres : res = (r, σr)) (o : OK X cX5_number RX5 sdM 4 rm_X5_number l) (hr : RI X .int r σr) (x1 : Int32) (x2 : Int32)  {σ : Mem} (h : f_X5_number x1 x2 σ = some res) : G X σ 0 [(0, .ref (eA (xE X) 50)), (1, .int x1), (2, .int x2)] [] := by
  unfold f_X5_number at h
  refine g_aload_n o (q := 1) 0 rfl rfl dX5_number_0 rfl ?_
  refine gf_X5_10 o (q := 4) kM_50 lk_X5_240 dX5_number_1 rfl ?_
  refine g_istore_n o (q := 5) dX5_number_4 rfl rfl (by decide) h (fun x21 => [(3, .int x21), (0, .ref (eA (xE X) 50)), (1, .int x1), (2, .int x2)]) (fun _ => rfl) (fun x21 h => ?_)
  refine g_aload_n o (q := 6) 1 rfl rfl dX5_number_5 rfl ?_
  refine g_aload_n o (q := 7) 1 rfl rfl dX5_number_6 rfl ?_
  refine gf_X5_9 o (q := 10) kM_50 lk_X5_243 dX5_number_7 rfl ?_
  refine g_iconst o (v := 2) (q := 11) (by decide) dX5_number_10 rfl ?_
  refine g_icmp_ne o (tgt := 27) (q := 14) dX5_number_11 (by decide) rfl h (fun h => ?_) (fun h => ?_)
  · refine g_sub (lv' := [(3, .int x21)]) [0] rfl ?_
    exact w_X5_number_J27 hres o hr   h
  · refine g_iload_n o (q := 15) 0 rfl rfl dX5_number_14 rfl ?_
    refine g_iload_n o (q := 16) 2 rfl rfl dX5_number_15 rfl ?_
    refine g_iload_n o (q := 17) 3 rfl rfl dX5_number_16 rfl ?_
    refine g_csi o (q := 20) (As := [.int x21, .int x1, .int x2]) (rest := [.ref (eA (xE X) 50)]) kv_X5_within lk_X5_70 rfl (fun _ _ hc => c_X5_within o.mk x21 x1 x2 hc) dX5_number_17 rfl ⟨rfl, rfl, Nat.le_of_ble_eq_true rfl, Nat.le_of_ble_eq_true rfl⟩ (Nat.le_of_ble_eq_true rfl) rfl h (fun r24 σ23 h => ?_)
    refine g_if_eq o (tgt := 27) (q := 23) dX5_number_20 (by decide) rfl h (fun h => ?_) (fun h => ?_)
    · refine g_sub (lv' := [(3, .int x21)]) [0] rfl ?_
      exact w_X5_number_J27 hres o hr   h
    · refine g_iconst o (v := 1) (q := 24) (by decide) dX5_number_23 rfl ?_
      refine g_goto o (tgt := 28) dX5_number_24 (by decide) ?_
      refine g_sub (lv' := [(3, .int x21)]) [0] rfl ?_
      exact w_X5_number_J28 hres o hr   h
theorem c_X5_number {l : Launch} {E : En} {mk : Mem → Mem} (hmk : MK mk sdM) (x1 : Int32) (x2 : Int32)  {σ : Mem} {r : Int32} {τ : Mem} (h : f_X5_number x1 x2 σ = some (r, τ)) : Met l yX5_number (Cond.code yX5_number cX5_number 4 (some .int) :: wt) rm_X5_number (PW E mk [.ref (eA E 50), .int x1, .int x2] σ) (QI E mk r τ) 0 0 (WA E) :=
  met_i (fun E => [.ref (eA E 50), .int x1, .int x2]) (by decide) hmk (Nat.le_of_ble_eq_true rfl) (fun X o hr => w_X5_number rfl o hr x1 x2  h)
set_option maxRecDepth 100000 in
set_option maxHeartbeats 4000000 in
theorem w_X5_addItem {X : Cx} {l : Launch} {u : Unit} {σr : Mem} {res : Unit × Mem} (hres : res = (u, σr)) (o : OK X cX5_addItem RX5 sdM 7 rm_X5_addItem l) (hr : RV X σr) (x1 : Int32) (x2 : Int32) (x3 : Int32) (x4 : Int32) (x5 : Int32)  {σ : Mem} (h : f_X5_addItem x1 x2 x3 x4 x5 σ = some res) : G X σ 0 [(0, .ref (eA (xE X) 50)), (1, .int x1), (2, .int x2), (3, .int x3), (4, .int x4), (5, .int x5)] [] := by
  unfold f_X5_addItem at h
  refine g_iconst o (v := 5) (q := 1) (by decide) dX5_addItem_0 rfl ?_
  refine g_aload_n o (q := 2) 0 rfl rfl dX5_addItem_1 rfl ?_
  refine gf_X5_14 o (q := 5) kM_50 lk_X5_264 dX5_addItem_2 rfl ?_
  refine g_imul o (q := 6) dX5_addItem_5 rfl ?_
  refine g_istore o (q := 8) dX5_addItem_6 rfl (by decide) h (fun x21 => [(6, .int x21), (0, .ref (eA (xE X) 50)), (1, .int x1), (2, .int x2), (3, .int x3), (4, .int x4), (5, .int x5)]) (fun _ => rfl) (fun x21 h => ?_)
  refine g_aload_n o (q := 9) 1 rfl rfl dX5_addItem_8 rfl ?_
  refine gf_X5_13 o (q := 12) kM_50 lk_X5_45 dX5_addItem_9 rfl ?_
  refine g_iload o (q := 14) 0 rfl dX5_addItem_12 rfl ?_
  refine g_iload_n o (q := 15) 2 rfl rfl dX5_addItem_14 rfl ?_
  refine g_iast o (q := 16) kM_57 dX5_addItem_15 rfl h (fun j22 σ23 h => ?_)
  refine g_aload_n o (q := 17) 1 rfl rfl dX5_addItem_16 rfl ?_
  refine gf_X5_13 o (q := 20) kM_50 lk_X5_45 dX5_addItem_17 rfl ?_
  refine g_iload o (q := 22) 0 rfl dX5_addItem_20 rfl ?_
  refine g_iconst o (v := 1) (q := 23) (by decide) dX5_addItem_22 rfl ?_
  refine g_iadd o (q := 24) dX5_addItem_23 rfl ?_
  refine g_iload_n o (q := 25) 3 rfl rfl dX5_addItem_24 rfl ?_
  refine g_iast o (q := 26) kM_57 dX5_addItem_25 rfl h (fun j24 σ25 h => ?_)
  refine g_aload_n o (q := 27) 1 rfl rfl dX5_addItem_26 rfl ?_
  refine gf_X5_13 o (q := 30) kM_50 lk_X5_45 dX5_addItem_27 rfl ?_
  refine g_iload o (q := 32) 0 rfl dX5_addItem_30 rfl ?_
  refine g_iconst o (v := 2) (q := 33) (by decide) dX5_addItem_32 rfl ?_
  refine g_iadd o (q := 34) dX5_addItem_33 rfl ?_
  refine g_iload_n o (q := 35) 4 rfl rfl dX5_addItem_34 rfl ?_
  refine g_iast o (q := 36) kM_57 dX5_addItem_35 rfl h (fun j26 σ27 h => ?_)
  refine g_aload_n o (q := 37) 1 rfl rfl dX5_addItem_36 rfl ?_
  refine gf_X5_13 o (q := 40) kM_50 lk_X5_45 dX5_addItem_37 rfl ?_
  refine g_iload o (q := 42) 0 rfl dX5_addItem_40 rfl ?_
  refine g_iconst o (v := 3) (q := 43) (by decide) dX5_addItem_42 rfl ?_
  refine g_iadd o (q := 44) dX5_addItem_43 rfl ?_
  refine g_iload o (q := 46) 5 rfl dX5_addItem_44 rfl ?_
  refine g_iast o (q := 47) kM_57 dX5_addItem_46 rfl h (fun j28 σ29 h => ?_)
  refine g_aload_n o (q := 48) 1 rfl rfl dX5_addItem_47 rfl ?_
  refine gf_X5_13 o (q := 51) kM_50 lk_X5_45 dX5_addItem_48 rfl ?_
  refine g_iload o (q := 53) 0 rfl dX5_addItem_51 rfl ?_
  refine g_iconst o (v := 4) (q := 54) (by decide) dX5_addItem_53 rfl ?_
  refine g_iadd o (q := 55) dX5_addItem_54 rfl ?_
  refine g_iload o (q := 57) 6 rfl dX5_addItem_55 rfl ?_
  refine g_iast o (q := 58) kM_57 dX5_addItem_57 rfl h (fun j30 σ31 h => ?_)
  refine g_aload_n o (q := 59) 1 rfl rfl dX5_addItem_58 rfl ?_
  refine g_dup o (q := 60) rfl dX5_addItem_59 rfl ?_
  refine gf_X5_14 o (q := 63) kM_50 lk_X5_264 dX5_addItem_60 rfl ?_
  refine g_iconst o (v := 1) (q := 64) (by decide) dX5_addItem_63 rfl ?_
  refine g_iadd o (q := 65) dX5_addItem_64 rfl ?_
  refine gp_X5_14 o (q := 68) kM_50 lk_X5_264 dX5_addItem_65 rfl h (fun σ32 h => ?_)
  exact g_vret o hr (h.trans (congrArg some hres)) dX5_addItem_68
theorem c_X5_addItem {l : Launch} {E : En} {mk : Mem → Mem} (hmk : MK mk sdM) (x1 : Int32) (x2 : Int32) (x3 : Int32) (x4 : Int32) (x5 : Int32)  {σ : Mem} {r : Unit} {τ : Mem} (h : f_X5_addItem x1 x2 x3 x4 x5 σ = some (r, τ)) : Met l yX5_addItem (Cond.code yX5_addItem cX5_addItem 7 none :: wt) rm_X5_addItem (PW E mk [.ref (eA E 50), .int x1, .int x2, .int x3, .int x4, .int x5] σ) (QV E mk τ) 0 0 (WA E) :=
  met_v (fun E => [.ref (eA E 50), .int x1, .int x2, .int x3, .int x4, .int x5]) (by decide) hmk (Nat.le_of_ble_eq_true rfl) (fun X o hr => w_X5_addItem rfl o hr x1 x2 x3 x4 x5  h)
set_option maxRecDepth 100000 in
set_option maxHeartbeats 4000000 in
theorem w_X5_takesWord_J20 {X : Cx} {l : Launch} {r : Int32} {σr : Mem} {res : Int32 × Mem} (hres : res = (r, σr)) (o : OK X cX5_takesWord RX5 sdM 3 rm_X5_takesWord l) (hr : RI X .boolean r σr)   {s0 : Int32}  {σ : Mem} (h : f_X5_takesWord_J20  s0 σ = some res) : G X σ 20 [(0, .ref (eA (xE X) 50))] [.int s0] := by
  unfold f_X5_takesWord_J20 at h
  refine g_istore_n o (q := 21) dX5_takesWord_20 rfl rfl (by decide) h (fun x21 => [(2, .int x21), (0, .ref (eA (xE X) 50))]) (fun _ => rfl) (fun x21 h => ?_)
  refine g_iload_n o (q := 22) 0 rfl rfl dX5_takesWord_21 rfl ?_
  refine g_if_eq o (tgt := 30) (q := 25) dX5_takesWord_22 (by decide) rfl h (fun h => ?_) (fun h => ?_)
  · refine g_iload_n o (q := 31) 0 rfl rfl dX5_takesWord_30 rfl ?_
    obtain ⟨hb, h⟩ := vB_some h
    exact g_iret o hr (h.trans (congrArg some hres)) (by rcases hb with hb | hb <;> rw [hb] <;> rfl) dX5_takesWord_31
  · refine g_aload_n o (q := 26) 1 rfl rfl dX5_takesWord_25 rfl ?_
    refine g_iconst o (v := 1) (q := 27) (by decide) dX5_takesWord_26 rfl ?_
    refine g_cvv o (q := 30) (As := [.int 1]) (rest := []) kv_X5_must lk_X5_260 kM_50 (by decide) rfl rfl rfl (fun _ _ hc => c_X5_must o.mk 1 hc) dX5_takesWord_27 rfl ⟨rfl, rfl, Nat.le_of_ble_eq_true rfl, Nat.le_of_ble_eq_true rfl⟩ (Nat.le_of_ble_eq_true rfl) rfl h (fun _u22 σ22 h => ?_)
    refine g_iload_n o (q := 31) 0 rfl rfl dX5_takesWord_30 rfl ?_
    obtain ⟨hb, h⟩ := vB_some h
    exact g_iret o hr (h.trans (congrArg some hres)) (by rcases hb with hb | hb <;> rw [hb] <;> rfl) dX5_takesWord_31
set_option maxRecDepth 100000 in
set_option maxHeartbeats 4000000 in
theorem w_X5_takesWord_J19 {X : Cx} {l : Launch} {r : Int32} {σr : Mem} {res : Int32 × Mem} (hres : res = (r, σr)) (o : OK X cX5_takesWord RX5 sdM 3 rm_X5_takesWord l) (hr : RI X .boolean r σr)     {σ : Mem} (h : f_X5_takesWord_J19   σ = some res) : G X σ 19 [(0, .ref (eA (xE X) 50))] [] := by
  unfold f_X5_takesWord_J19 at h
  refine g_iconst o (v := 0) (q := 20) (by decide) dX5_takesWord_19 rfl ?_
  exact w_X5_takesWord_J20 hres o hr   h
set_option maxRecDepth 100000 in
set_option maxHeartbeats 4000000 in
theorem w_X5_takesWord {X : Cx} {l : Launch} {r : Int32} {σr : Mem} {res : Int32 × Mem} (hres : res = (r, σr)) (o : OK X cX5_takesWord RX5 sdM 3 rm_X5_takesWord l) (hr : RI X .boolean r σr) (a1 : Nat) (h1 : a1 < 14) {σ : Mem} (h : f_X5_takesWord a1 σ = some res) : G X σ 0 [(0, .ref (eA (xE X) 50)), (1, .ref (eK (xE X) a1))] [] := by
  unfold f_X5_takesWord at h
  refine g_aload_n o (q := 1) 0 rfl rfl dX5_takesWord_0 rfl ?_
  refine gf_X5_11 o (q := 4) kM_50 lk_X5_253 dX5_takesWord_1 rfl ?_
  refine g_if_ne o (tgt := 19) (q := 7) dX5_takesWord_4 (by decide) rfl h (fun h => ?_) (fun h => ?_)
  · refine g_sub (lv' := [(0, .ref (eA (xE X) 50))]) [0] rfl ?_
    exact w_X5_takesWord_J19 hres o hr   h
  · refine g_aload_n o (q := 8) 0 rfl rfl dX5_takesWord_7 rfl ?_
    refine g_aload_n o (q := 9) 1 rfl rfl dX5_takesWord_8 rfl ?_
    refine g_cvi o (q := 12) (As := [.ref (eK (xE X) a1)]) (rest := []) kv_X5_isWord lk_X5_267 kM_50 (by decide) rfl rfl rfl (fun _ _ hc => c_X5_isWord o.mk a1 h1 hc) dX5_takesWord_9 rfl ⟨rfl, rfl, Nat.le_of_ble_eq_true rfl, Nat.le_of_ble_eq_true rfl⟩ (Nat.le_of_ble_eq_true rfl) rfl h (fun r24 σ23 h => ?_)
    refine g_if_eq o (tgt := 19) (q := 15) dX5_takesWord_12 (by decide) rfl h (fun h => ?_) (fun h => ?_)
    · refine g_sub (lv' := [(0, .ref (eA (xE X) 50))]) [0] rfl ?_
      exact w_X5_takesWord_J19 hres o hr   h
    · refine g_iconst o (v := 1) (q := 16) (by decide) dX5_takesWord_15 rfl ?_
      refine g_goto o (tgt := 20) dX5_takesWord_16 (by decide) ?_
      refine g_sub (lv' := [(0, .ref (eA (xE X) 50))]) [0] rfl ?_
      exact w_X5_takesWord_J20 hres o hr   h
theorem c_X5_takesWord {l : Launch} {E : En} {mk : Mem → Mem} (hmk : MK mk sdM) (a1 : Nat) (h1 : a1 < 14) {σ : Mem} {r : Int32} {τ : Mem} (h : f_X5_takesWord a1 σ = some (r, τ)) : Met l yX5_takesWord (Cond.code yX5_takesWord cX5_takesWord 3 (some .boolean) :: wt) rm_X5_takesWord (PW E mk [.ref (eA E 50), .ref (eK E a1)] σ) (QI E mk r τ) 0 0 (WA E) :=
  met_i (fun E => [.ref (eA E 50), .ref (eK E a1)]) (by decide) hmk (Nat.le_of_ble_eq_true rfl) (fun X o hr => w_X5_takesWord rfl o hr a1 h1 h)
set_option maxRecDepth 100000 in
set_option maxHeartbeats 4000000 in
theorem w_X5_readCurtain_J109 {X : Cx} {l : Launch} {u : Unit} {σr : Mem} {res : Unit × Mem} (hres : res = (u, σr)) (o : OK X cX5_readCurtain RX5 sdM 5 rm_X5_readCurtain l) (hr : RV X σr)   {s1 : Int32} {s2 : Int32} {s3 : Int32} {s4 : Int32} {s5 : Int32}  {σ : Mem} (h : f_X5_readCurtain_J109  s1 s2 s3 s4 s5 σ = some res) : G X σ 109 [(0, .ref (eA (xE X) 50))] [.int s5, .int s4, .int s3, .int s2, .int s1, .ref (eA (xE X) 50)] := by
  unfold f_X5_readCurtain_J109 at h
  refine g_cvv o (q := 112) (As := [.int s1, .int s2, .int s3, .int s4, .int s5]) (rest := []) kv_X5_addItem lk_X5_288 kM_50 (by decide) rfl rfl rfl (fun _ _ hc => c_X5_addItem o.mk s1 s2 s3 s4 s5 hc) dX5_readCurtain_109 rfl ⟨rfl, rfl, Nat.le_of_ble_eq_true rfl, Nat.le_of_ble_eq_true rfl⟩ (Nat.le_of_ble_eq_true rfl) rfl h (fun _u33 σ33 h => ?_)
  refine g_aload_n o (q := 113) 0 rfl rfl dX5_readCurtain_112 rfl ?_
  refine g_dup o (q := 114) rfl dX5_readCurtain_113 rfl ?_
  refine gf_X5_15 o (q := 117) kM_50 lk_X5_271 dX5_readCurtain_114 rfl ?_
  refine g_iconst o (v := 1) (q := 118) (by decide) dX5_readCurtain_117 rfl ?_
  refine g_iadd o (q := 119) dX5_readCurtain_118 rfl ?_
  refine gp_X5_15 o (q := 122) kM_50 lk_X5_271 dX5_readCurtain_119 rfl h (fun σ34 h => ?_)
  exact g_vret o hr (h.trans (congrArg some hres)) dX5_readCurtain_122
set_option maxRecDepth 100000 in
set_option maxHeartbeats 4000000 in
theorem w_X5_readCurtain_J86 {X : Cx} {l : Launch} {u : Unit} {σr : Mem} {res : Unit × Mem} (hres : res = (u, σr)) (o : OK X cX5_readCurtain RX5 sdM 5 rm_X5_readCurtain l) (hr : RV X σr)   {y1 : Int32} {y2 : Int32} {y3 : Int32} {s0 : Int32}  {σ : Mem} (h : f_X5_readCurtain_J86  y1 y2 y3 s0 σ = some res) : G X σ 86 [(0, .ref (eA (xE X) 50)), (1, .int y1), (2, .int y2), (3, .int y3)] [.int s0] := by
  unfold f_X5_readCurtain_J86 at h
  refine g_istore o (q := 88) dX5_readCurtain_86 rfl (by decide) h (fun x30 => [(4, .int x30), (0, .ref (eA (xE X) 50)), (1, .int y1), (2, .int y2), (3, .int y3)]) (fun _ => rfl) (fun x30 h => ?_)
  refine g_aload_n o (q := 89) 1 rfl rfl dX5_readCurtain_88 rfl ?_
  refine g_iload_n o (q := 90) 2 rfl rfl dX5_readCurtain_89 rfl ?_
  refine g_iload_n o (q := 91) 3 rfl rfl dX5_readCurtain_90 rfl ?_
  refine g_iload_n o (q := 92) 4 rfl rfl dX5_readCurtain_91 rfl ?_
  refine g_iload o (q := 94) 0 rfl dX5_readCurtain_92 rfl ?_
  refine g_aload_n o (q := 95) 1 rfl rfl dX5_readCurtain_94 rfl ?_
  refine g_ldcwS o (q := 98) (t := 13) (tx := "tied") (by decide +kernel) dX5_readCurtain_95 rfl ?_
  refine g_cvi o (q := 101) (As := [.ref (eK (xE X) 13)]) (rest := [.int x30, .int y3, .int y2, .int y1, .ref (eA (xE X) 50)]) kv_X5_takesWord lk_X5_276 kM_50 (by decide) rfl rfl rfl (fun _ _ hc => c_X5_takesWord o.mk 13 (by decide : 13 < 14) hc) dX5_readCurtain_98 rfl ⟨rfl, rfl, Nat.le_of_ble_eq_true rfl, Nat.le_of_ble_eq_true rfl⟩ (Nat.le_of_ble_eq_true rfl) rfl h (fun r32 σ31 h => ?_)
  refine g_if_eq o (tgt := 108) (q := 104) dX5_readCurtain_101 (by decide) rfl h (fun h => ?_) (fun h => ?_)
  · refine g_iconst o (v := 0) (q := 109) (by decide) dX5_readCurtain_108 rfl ?_
    refine g_sub (lv' := [(0, .ref (eA (xE X) 50))]) [1] rfl ?_
    exact w_X5_readCurtain_J109 hres o hr   h
  · refine g_iconst o (v := 1) (q := 105) (by decide) dX5_readCurtain_104 rfl ?_
    refine g_goto o (tgt := 109) dX5_readCurtain_105 (by decide) ?_
    refine g_sub (lv' := [(0, .ref (eA (xE X) 50))]) [1] rfl ?_
    exact w_X5_readCurtain_J109 hres o hr   h
set_option maxRecDepth 100000 in
set_option maxHeartbeats 4000000 in
theorem w_X5_readCurtain_J63 {X : Cx} {l : Launch} {u : Unit} {σr : Mem} {res : Unit × Mem} (hres : res = (u, σr)) (o : OK X cX5_readCurtain RX5 sdM 5 rm_X5_readCurtain l) (hr : RV X σr)   {y1 : Int32} {y2 : Int32} {s0 : Int32}  {σ : Mem} (h : f_X5_readCurtain_J63  y1 y2 s0 σ = some res) : G X σ 63 [(0, .ref (eA (xE X) 50)), (1, .int y1), (2, .int y2)] [.int s0] := by
  unfold f_X5_readCurtain_J63 at h
  refine g_istore_n o (q := 64) dX5_readCurtain_63 rfl rfl (by decide) h (fun x27 => [(3, .int x27), (0, .ref (eA (xE X) 50)), (1, .int y1), (2, .int y2)]) (fun _ => rfl) (fun x27 h => ?_)
  refine g_aload_n o (q := 65) 1 rfl rfl dX5_readCurtain_64 rfl ?_
  refine g_ldcwS o (q := 68) (t := 12) (tx := "high") (by decide +kernel) dX5_readCurtain_65 rfl ?_
  refine g_cvi o (q := 71) (As := [.ref (eK (xE X) 12)]) (rest := []) kv_X5_takesWord lk_X5_276 kM_50 (by decide) rfl rfl rfl (fun _ _ hc => c_X5_takesWord o.mk 12 (by decide : 12 < 14) hc) dX5_readCurtain_68 rfl ⟨rfl, rfl, Nat.le_of_ble_eq_true rfl, Nat.le_of_ble_eq_true rfl⟩ (Nat.le_of_ble_eq_true rfl) rfl h (fun r29 σ28 h => ?_)
  refine g_if_eq o (tgt := 84) (q := 74) dX5_readCurtain_71 (by decide) rfl h (fun h => ?_) (fun h => ?_)
  · refine g_bipush o (v := 20) (q := 86) (by decide) dX5_readCurtain_84 rfl ?_
    refine g_sub (lv' := [(0, .ref (eA (xE X) 50)), (1, .int y1), (2, .int y2), (3, .int x27)]) [1, 2, 3, 0] rfl ?_
    exact w_X5_readCurtain_J86 hres o hr   h
  · refine g_aload_n o (q := 75) 1 rfl rfl dX5_readCurtain_74 rfl ?_
    refine g_iconst o (v := 0) (q := 76) (by decide) dX5_readCurtain_75 rfl ?_
    refine g_bipush o (v := 20) (q := 78) (by decide) dX5_readCurtain_76 rfl ?_
    refine g_cvi o (q := 81) (As := [.int 0, .int 20]) (rest := []) kv_X5_number lk_X5_279 kM_50 (by decide) rfl rfl rfl (fun _ _ hc => c_X5_number o.mk 0 20 hc) dX5_readCurtain_78 rfl ⟨rfl, rfl, Nat.le_of_ble_eq_true rfl, Nat.le_of_ble_eq_true rfl⟩ (Nat.le_of_ble_eq_true rfl) rfl h (fun r36 σ35 h => ?_)
    refine g_goto o (tgt := 86) dX5_readCurtain_81 (by decide) ?_
    refine g_sub (lv' := [(0, .ref (eA (xE X) 50)), (1, .int y1), (2, .int y2), (3, .int x27)]) [1, 2, 3, 0] rfl ?_
    exact w_X5_readCurtain_J86 hres o hr   h
set_option maxRecDepth 100000 in
set_option maxHeartbeats 4000000 in
theorem w_X5_readCurtain_J40 {X : Cx} {l : Launch} {u : Unit} {σr : Mem} {res : Unit × Mem} (hres : res = (u, σr)) (o : OK X cX5_readCurtain RX5 sdM 5 rm_X5_readCurtain l) (hr : RV X σr)   {y1 : Int32} {s0 : Int32}  {σ : Mem} (h : f_X5_readCurtain_J40  y1 s0 σ = some res) : G X σ 40 [(0, .ref (eA (xE X) 50)), (1, .int y1)] [.int s0] := by
  unfold f_X5_readCurtain_J40 at h
  refine g_istore_n o (q := 41) dX5_readCurtain_40 rfl rfl (by decide) h (fun x24 => [(2, .int x24), (0, .ref (eA (xE X) 50)), (1, .int y1)]) (fun _ => rfl) (fun x24 h => ?_)
  refine g_aload_n o (q := 42) 1 rfl rfl dX5_readCurtain_41 rfl ?_
  refine g_ldcwS o (q := 45) (t := 11) (tx := "likes") (by decide +kernel) dX5_readCurtain_42 rfl ?_
  refine g_cvi o (q := 48) (As := [.ref (eK (xE X) 11)]) (rest := []) kv_X5_takesWord lk_X5_276 kM_50 (by decide) rfl rfl rfl (fun _ _ hc => c_X5_takesWord o.mk 11 (by decide : 11 < 14) hc) dX5_readCurtain_45 rfl ⟨rfl, rfl, Nat.le_of_ble_eq_true rfl, Nat.le_of_ble_eq_true rfl⟩ (Nat.le_of_ble_eq_true rfl) rfl h (fun r26 σ25 h => ?_)
  refine g_if_eq o (tgt := 62) (q := 51) dX5_readCurtain_48 (by decide) rfl h (fun h => ?_) (fun h => ?_)
  · refine g_iconst o (v := 0) (q := 63) (by decide) dX5_readCurtain_62 rfl ?_
    refine g_sub (lv' := [(0, .ref (eA (xE X) 50)), (1, .int y1), (2, .int x24)]) [1, 2, 0] rfl ?_
    exact w_X5_readCurtain_J63 hres o hr   h
  · refine g_aload_n o (q := 52) 1 rfl rfl dX5_readCurtain_51 rfl ?_
    refine g_iconst o (v := 0) (q := 53) (by decide) dX5_readCurtain_52 rfl ?_
    refine g_sipush o (v := 4095) (q := 56) (by decide) dX5_readCurtain_53 rfl ?_
    refine g_cvi o (q := 59) (As := [.int 0, .int 4095]) (rest := []) kv_X5_number lk_X5_279 kM_50 (by decide) rfl rfl rfl (fun _ _ hc => c_X5_number o.mk 0 4095 hc) dX5_readCurtain_56 rfl ⟨rfl, rfl, Nat.le_of_ble_eq_true rfl, Nat.le_of_ble_eq_true rfl⟩ (Nat.le_of_ble_eq_true rfl) rfl h (fun r38 σ37 h => ?_)
    refine g_goto o (tgt := 63) dX5_readCurtain_59 (by decide) ?_
    refine g_sub (lv' := [(0, .ref (eA (xE X) 50)), (1, .int y1), (2, .int x24)]) [1, 2, 0] rfl ?_
    exact w_X5_readCurtain_J63 hres o hr   h
set_option maxRecDepth 100000 in
set_option maxHeartbeats 4000000 in
theorem w_X5_readCurtain_J15 {X : Cx} {l : Launch} {u : Unit} {σr : Mem} {res : Unit × Mem} (hres : res = (u, σr)) (o : OK X cX5_readCurtain RX5 sdM 5 rm_X5_readCurtain l) (hr : RV X σr)   {y1 : Int32} {s1 : Int32}  {σ : Mem} (h : f_X5_readCurtain_J15  y1 s1 σ = some res) : G X σ 15 [(0, .ref (eA (xE X) 50)), (1, .int y1)] [.int s1, .ref (eA (xE X) 50)] := by
  unfold f_X5_readCurtain_J15 at h
  refine g_cvv o (q := 18) (As := [.int s1]) (rest := []) kv_X5_must lk_X5_260 kM_50 (by decide) rfl rfl rfl (fun _ _ hc => c_X5_must o.mk s1 hc) dX5_readCurtain_15 rfl ⟨rfl, rfl, Nat.le_of_ble_eq_true rfl, Nat.le_of_ble_eq_true rfl⟩ (Nat.le_of_ble_eq_true rfl) rfl h (fun _u21 σ21 h => ?_)
  refine g_aload_n o (q := 19) 0 rfl rfl dX5_readCurtain_18 rfl ?_
  refine g_ldcwS o (q := 22) (t := 10) (tx := "mood") (by decide +kernel) dX5_readCurtain_19 rfl ?_
  refine g_cvi o (q := 25) (As := [.ref (eK (xE X) 10)]) (rest := []) kv_X5_takesWord lk_X5_276 kM_50 (by decide) rfl rfl rfl (fun _ _ hc => c_X5_takesWord o.mk 10 (by decide : 10 < 14) hc) dX5_readCurtain_22 rfl ⟨rfl, rfl, Nat.le_of_ble_eq_true rfl, Nat.le_of_ble_eq_true rfl⟩ (Nat.le_of_ble_eq_true rfl) rfl h (fun r23 σ22 h => ?_)
  refine g_if_eq o (tgt := 38) (q := 28) dX5_readCurtain_25 (by decide) rfl h (fun h => ?_) (fun h => ?_)
  · refine g_bipush o (v := 60) (q := 40) (by decide) dX5_readCurtain_38 rfl ?_
    exact w_X5_readCurtain_J40 hres o hr   h
  · refine g_aload_n o (q := 29) 0 rfl rfl dX5_readCurtain_28 rfl ?_
    refine g_iconst o (v := 0) (q := 30) (by decide) dX5_readCurtain_29 rfl ?_
    refine g_bipush o (v := 99) (q := 32) (by decide) dX5_readCurtain_30 rfl ?_
    refine g_cvi o (q := 35) (As := [.int 0, .int 99]) (rest := []) kv_X5_number lk_X5_279 kM_50 (by decide) rfl rfl rfl (fun _ _ hc => c_X5_number o.mk 0 99 hc) dX5_readCurtain_32 rfl ⟨rfl, rfl, Nat.le_of_ble_eq_true rfl, Nat.le_of_ble_eq_true rfl⟩ (Nat.le_of_ble_eq_true rfl) rfl h (fun r40 σ39 h => ?_)
    refine g_goto o (tgt := 40) dX5_readCurtain_35 (by decide) ?_
    exact w_X5_readCurtain_J40 hres o hr   h
set_option maxRecDepth 100000 in
set_option maxHeartbeats 4000000 in
theorem w_X5_readCurtain {X : Cx} {l : Launch} {u : Unit} {σr : Mem} {res : Unit × Mem} (hres : res = (u, σr)) (o : OK X cX5_readCurtain RX5 sdM 5 rm_X5_readCurtain l) (hr : RV X σr) (x1 : Int32)  {σ : Mem} (h : f_X5_readCurtain x1 σ = some res) : G X σ 0 [(0, .ref (eA (xE X) 50)), (1, .int x1)] [] := by
  unfold f_X5_readCurtain at h
  refine g_aload_n o (q := 1) 0 rfl rfl dX5_readCurtain_0 rfl ?_
  refine g_aload_n o (q := 2) 0 rfl rfl dX5_readCurtain_1 rfl ?_
  refine gf_X5_15 o (q := 5) kM_50 lk_X5_271 dX5_readCurtain_2 rfl ?_
  refine g_bipush o (v := 8) (q := 7) (by decide) dX5_readCurtain_5 rfl ?_
  refine g_icmp_ge o (tgt := 14) (q := 10) dX5_readCurtain_7 (by decide) rfl h (fun h => ?_) (fun h => ?_)
  · refine g_iconst o (v := 0) (q := 15) (by decide) dX5_readCurtain_14 rfl ?_
    exact w_X5_readCurtain_J15 hres o hr   h
  · refine g_iconst o (v := 1) (q := 11) (by decide) dX5_readCurtain_10 rfl ?_
    refine g_goto o (tgt := 15) dX5_readCurtain_11 (by decide) ?_
    exact w_X5_readCurtain_J15 hres o hr   h
theorem c_X5_readCurtain {l : Launch} {E : En} {mk : Mem → Mem} (hmk : MK mk sdM) (x1 : Int32)  {σ : Mem} {r : Unit} {τ : Mem} (h : f_X5_readCurtain x1 σ = some (r, τ)) : Met l yX5_readCurtain (Cond.code yX5_readCurtain cX5_readCurtain 5 none :: wt) rm_X5_readCurtain (PW E mk [.ref (eA E 50), .int x1] σ) (QV E mk τ) 0 0 (WA E) :=
  met_v (fun E => [.ref (eA E 50), .int x1]) (by decide) hmk (Nat.le_of_ble_eq_true rfl) (fun X o hr => w_X5_readCurtain rfl o hr x1  h)
set_option maxRecDepth 100000 in
set_option maxHeartbeats 4000000 in
theorem w_X5_readItem_J31 {X : Cx} {l : Launch} {u : Unit} {σr : Mem} {res : Unit × Mem} (hres : res = (u, σr)) (o : OK X cX5_readItem RX5 sdM 3 rm_X5_readItem l) (hr : RV X σr) {k4 : Int32 → Int32 → Mem → Option (Unit × Mem)} (hk4 : ∀ (y1 : Int32) (y2 : Int32) (σ : Mem), k4 y1 y2 σ = some res → G X σ 4 [(0, .ref (eA (xE X) 50)), (1, .int y1), (2, .int y2)] []) {y2 : Int32} {s0 : Int32}  {σ : Mem} (h : f_X5_readItem_J31 k4 y2 s0 σ = some res) : G X σ 31 [(0, .ref (eA (xE X) 50)), (2, .int y2)] [.int s0] := by
  unfold f_X5_readItem_J31 at h
  refine g_istore_n o (q := 32) dX5_readItem_31 rfl rfl (by decide) h (fun x42 => [(1, .int x42), (0, .ref (eA (xE X) 50)), (2, .int y2)]) (fun _ => rfl) (fun x42 h => ?_)
  refine g_iinc o (q := 35) (dn := 1) dX5_readItem_32 rfl 2 rfl (by decide) (by decide) h (fun x43 => [(2, .int x43), (1, .int x42), (0, .ref (eA (xE X) 50))]) (fun _ => rfl) (fun x43 h => ?_)
  refine g_goto o (tgt := 4) dX5_readItem_35 (by decide) ?_
  refine g_sub (lv' := [(0, .ref (eA (xE X) 50)), (1, .int x42), (2, .int x43)]) [2, 1, 0] rfl ?_
  exact hk4 x42 x43 σ  h
set_option maxRecDepth 100000 in
set_option maxHeartbeats 4000000 in
theorem w_X5_readItem_L4 {X : Cx} {l : Launch} {u : Unit} {σr : Mem} {res : Unit × Mem} (hres : res = (u, σr)) (o : OK X cX5_readItem RX5 sdM 3 rm_X5_readItem l) (hr : RV X σr)   : ∀ (n : Nat) (y1 : Int32) (y2 : Int32) (σ : Mem), f_X5_readItem_L4  n y1 y2 σ = some res → G X σ 4 [(0, .ref (eA (xE X) 50)), (1, .int y1), (2, .int y2)] [] := by
  intro n
  induction n with
  | zero => intro y1 y2 σ  h; cases h
  | succ n ih =>
    intro y1 y2 σ  h
    rw [f_X5_readItem_L4_s] at h
    refine g_iload_n o (q := 5) 2 rfl rfl dX5_readItem_4 rfl ?_
    refine g_aload_n o (q := 6) 0 rfl rfl dX5_readItem_5 rfl ?_
    refine gf_X5_12 o (q := 9) kM_50 lk_X5_41 dX5_readItem_6 rfl ?_
    refine g_alen10 o (q := 10) kM_56 (v := 7) (by decide) dX5_readItem_9 rfl ?_
    refine g_icmp_ge o (tgt := 38) (q := 13) dX5_readItem_10 (by decide) rfl h (fun h => ?_) (fun h => ?_)
    · refine g_iload_n o (q := 39) 1 rfl rfl dX5_readItem_38 rfl ?_
      refine g_if_lt o (tgt := 50) (q := 42) dX5_readItem_39 (by decide) rfl h (fun h => ?_) (fun h => ?_)
      · refine g_aload_n o (q := 51) 0 rfl rfl dX5_readItem_50 rfl ?_
        refine g_ldcwS o (q := 54) (t := 7) (tx := "scene") (by decide +kernel) dX5_readItem_51 rfl ?_
        refine g_cvi o (q := 57) (As := [.ref (eK (xE X) 7)]) (rest := []) kv_X5_takesWord lk_X5_276 kM_50 (by decide) rfl rfl rfl (fun _ _ hc => c_X5_takesWord o.mk 7 (by decide : 7 < 14) hc) dX5_readItem_54 rfl ⟨rfl, rfl, Nat.le_of_ble_eq_true rfl, Nat.le_of_ble_eq_true rfl⟩ (Nat.le_of_ble_eq_true rfl) rfl h (fun r24 σ23 h => ?_)
        refine g_if_eq o (tgt := 86) (q := 60) dX5_readItem_57 (by decide) rfl h (fun h => ?_) (fun h => ?_)
        · refine g_aload_n o (q := 87) 0 rfl rfl dX5_readItem_86 rfl ?_
          refine g_ldcwS o (q := 90) (t := 8) (tx := "fire") (by decide +kernel) dX5_readItem_87 rfl ?_
          refine g_cvi o (q := 93) (As := [.ref (eK (xE X) 8)]) (rest := []) kv_X5_takesWord lk_X5_276 kM_50 (by decide) rfl rfl rfl (fun _ _ hc => c_X5_takesWord o.mk 8 (by decide : 8 < 14) hc) dX5_readItem_90 rfl ⟨rfl, rfl, Nat.le_of_ble_eq_true rfl, Nat.le_of_ble_eq_true rfl⟩ (Nat.le_of_ble_eq_true rfl) rfl h (fun r26 σ25 h => ?_)
          refine g_if_eq o (tgt := 109) (q := 96) dX5_readItem_93 (by decide) rfl h (fun h => ?_) (fun h => ?_)
          · refine g_aload_n o (q := 110) 0 rfl rfl dX5_readItem_109 rfl ?_
            refine g_ldcwS o (q := 113) (t := 9) (tx := "out") (by decide +kernel) dX5_readItem_110 rfl ?_
            refine g_cvi o (q := 116) (As := [.ref (eK (xE X) 9)]) (rest := []) kv_X5_takesWord lk_X5_276 kM_50 (by decide) rfl rfl rfl (fun _ _ hc => c_X5_takesWord o.mk 9 (by decide : 9 < 14) hc) dX5_readItem_113 rfl ⟨rfl, rfl, Nat.le_of_ble_eq_true rfl, Nat.le_of_ble_eq_true rfl⟩ (Nat.le_of_ble_eq_true rfl) rfl h (fun r28 σ27 h => ?_)
            refine g_if_eq o (tgt := 132) (q := 119) dX5_readItem_116 (by decide) rfl h (fun h => ?_) (fun h => ?_)
            · refine g_aload_n o (q := 133) 0 rfl rfl dX5_readItem_132 rfl ?_
              refine g_iconst o (v := 0) (q := 134) (by decide) dX5_readItem_133 rfl ?_
              refine g_cvv o (q := 137) (As := [.int 0]) (rest := []) kv_X5_must lk_X5_260 kM_50 (by decide) rfl rfl rfl (fun _ _ hc => c_X5_must o.mk 0 hc) dX5_readItem_134 rfl ⟨rfl, rfl, Nat.le_of_ble_eq_true rfl, Nat.le_of_ble_eq_true rfl⟩ (Nat.le_of_ble_eq_true rfl) rfl h (fun _u29 σ29 h => ?_)
              exact g_vret o hr (h.trans (congrArg some hres)) dX5_readItem_137
            · refine g_aload_n o (q := 120) 0 rfl rfl dX5_readItem_119 rfl ?_
              refine g_bipush o (v := 11) (q := 122) (by decide) dX5_readItem_120 rfl ?_
              refine g_iconst o (v := 0) (q := 123) (by decide) dX5_readItem_122 rfl ?_
              refine g_iconst o (v := 0) (q := 124) (by decide) dX5_readItem_123 rfl ?_
              refine g_iconst o (v := 0) (q := 125) (by decide) dX5_readItem_124 rfl ?_
              refine g_iconst o (v := 0) (q := 126) (by decide) dX5_readItem_125 rfl ?_
              refine g_cvv o (q := 129) (As := [.int 11, .int 0, .int 0, .int 0, .int 0]) (rest := []) kv_X5_addItem lk_X5_288 kM_50 (by decide) rfl rfl rfl (fun _ _ hc => c_X5_addItem o.mk 11 0 0 0 0 hc) dX5_readItem_126 rfl ⟨rfl, rfl, Nat.le_of_ble_eq_true rfl, Nat.le_of_ble_eq_true rfl⟩ (Nat.le_of_ble_eq_true rfl) rfl h (fun _u30 σ30 h => ?_)
              refine g_goto o (tgt := 137) dX5_readItem_129 (by decide) ?_
              exact g_vret o hr (h.trans (congrArg some hres)) dX5_readItem_137
          · refine g_aload_n o (q := 97) 0 rfl rfl dX5_readItem_96 rfl ?_
            refine g_bipush o (v := 11) (q := 99) (by decide) dX5_readItem_97 rfl ?_
            refine g_iconst o (v := 1) (q := 100) (by decide) dX5_readItem_99 rfl ?_
            refine g_iconst o (v := 0) (q := 101) (by decide) dX5_readItem_100 rfl ?_
            refine g_iconst o (v := 0) (q := 102) (by decide) dX5_readItem_101 rfl ?_
            refine g_iconst o (v := 0) (q := 103) (by decide) dX5_readItem_102 rfl ?_
            refine g_cvv o (q := 106) (As := [.int 11, .int 1, .int 0, .int 0, .int 0]) (rest := []) kv_X5_addItem lk_X5_288 kM_50 (by decide) rfl rfl rfl (fun _ _ hc => c_X5_addItem o.mk 11 1 0 0 0 hc) dX5_readItem_103 rfl ⟨rfl, rfl, Nat.le_of_ble_eq_true rfl, Nat.le_of_ble_eq_true rfl⟩ (Nat.le_of_ble_eq_true rfl) rfl h (fun _u31 σ31 h => ?_)
            refine g_goto o (tgt := 137) dX5_readItem_106 (by decide) ?_
            exact g_vret o hr (h.trans (congrArg some hres)) dX5_readItem_137
        · refine g_aload_n o (q := 61) 0 rfl rfl dX5_readItem_60 rfl ?_
          refine g_iconst o (v := 0) (q := 62) (by decide) dX5_readItem_61 rfl ?_
          refine g_iconst o (v := 5) (q := 63) (by decide) dX5_readItem_62 rfl ?_
          refine g_cvi o (q := 66) (As := [.int 0, .int 5]) (rest := []) kv_X5_number lk_X5_279 kM_50 (by decide) rfl rfl rfl (fun _ _ hc => c_X5_number o.mk 0 5 hc) dX5_readItem_63 rfl ⟨rfl, rfl, Nat.le_of_ble_eq_true rfl, Nat.le_of_ble_eq_true rfl⟩ (Nat.le_of_ble_eq_true rfl) rfl h (fun r33 σ32 h => ?_)
          refine g_istore_n o (q := 67) dX5_readItem_66 rfl rfl (by decide) h (fun x34 => [(2, .int x34), (0, .ref (eA (xE X) 50)), (1, .int y1)]) (fun _ => rfl) (fun x34 h => ?_)
          refine g_aload_n o (q := 68) 1 rfl rfl dX5_readItem_67 rfl ?_
          refine g_bipush o (v := 10) (q := 70) (by decide) dX5_readItem_68 rfl ?_
          refine g_iload_n o (q := 71) 0 rfl rfl dX5_readItem_70 rfl ?_
          refine g_aload_n o (q := 72) 1 rfl rfl dX5_readItem_71 rfl ?_
          refine g_iconst o (v := 0) (q := 73) (by decide) dX5_readItem_72 rfl ?_
          refine g_bipush o (v := 11) (q := 75) (by decide) dX5_readItem_73 rfl ?_
          refine g_cvi o (q := 78) (As := [.int 0, .int 11]) (rest := [.int x34, .int 10, .ref (eA (xE X) 50)]) kv_X5_number lk_X5_279 kM_50 (by decide) rfl rfl rfl (fun _ _ hc => c_X5_number o.mk 0 11 hc) dX5_readItem_75 rfl ⟨rfl, rfl, Nat.le_of_ble_eq_true rfl, Nat.le_of_ble_eq_true rfl⟩ (Nat.le_of_ble_eq_true rfl) rfl h (fun r36 σ35 h => ?_)
          refine g_iconst o (v := 0) (q := 79) (by decide) dX5_readItem_78 rfl ?_
          refine g_iconst o (v := 0) (q := 80) (by decide) dX5_readItem_79 rfl ?_
          refine g_cvv o (q := 83) (As := [.int 10, .int x34, .int r36, .int 0, .int 0]) (rest := []) kv_X5_addItem lk_X5_288 kM_50 (by decide) rfl rfl rfl (fun _ _ hc => c_X5_addItem o.mk 10 x34 r36 0 0 hc) dX5_readItem_80 rfl ⟨rfl, rfl, Nat.le_of_ble_eq_true rfl, Nat.le_of_ble_eq_true rfl⟩ (Nat.le_of_ble_eq_true rfl) rfl h (fun _u37 σ37 h => ?_)
          refine g_goto o (tgt := 137) dX5_readItem_83 (by decide) ?_
          exact g_vret o hr (h.trans (congrArg some hres)) dX5_readItem_137
      · refine g_aload_n o (q := 43) 0 rfl rfl dX5_readItem_42 rfl ?_
        refine g_iload_n o (q := 44) 1 rfl rfl dX5_readItem_43 rfl ?_
        refine g_cvv o (q := 47) (As := [.int y1]) (rest := []) kv_X5_readCurtain lk_X5_292 kM_50 (by decide) rfl rfl rfl (fun _ _ hc => c_X5_readCurtain o.mk y1 hc) dX5_readItem_44 rfl ⟨rfl, rfl, Nat.le_of_ble_eq_true rfl, Nat.le_of_ble_eq_true rfl⟩ (Nat.le_of_ble_eq_true rfl) rfl h (fun _u38 σ38 h => ?_)
        refine g_goto o (tgt := 137) dX5_readItem_47 (by decide) ?_
        exact g_vret o hr (h.trans (congrArg some hres)) dX5_readItem_137
    · refine g_aload_n o (q := 14) 0 rfl rfl dX5_readItem_13 rfl ?_
      refine g_aload_n o (q := 15) 0 rfl rfl dX5_readItem_14 rfl ?_
      refine gf_X5_12 o (q := 18) kM_50 lk_X5_41 dX5_readItem_15 rfl ?_
      refine g_iload_n o (q := 19) 2 rfl rfl dX5_readItem_18 rfl ?_
      refine g_aald10 o (q := 20) kM_56 dX5_readItem_19 rfl h (fun j39 hjj39 h => ?_)
      refine g_cvi o (q := 23) (As := [.ref (eK (xE X) j39)]) (rest := []) kv_X5_isWord lk_X5_267 kM_50 (by decide) rfl rfl rfl (fun _ _ hc => c_X5_isWord o.mk j39 (Nat.lt_of_lt_of_le hjj39 (by decide)) hc) dX5_readItem_20 rfl ⟨rfl, rfl, Nat.le_of_ble_eq_true rfl, Nat.le_of_ble_eq_true rfl⟩ (Nat.le_of_ble_eq_true rfl) rfl h (fun r41 σ40 h => ?_)
      refine g_if_eq o (tgt := 30) (q := 26) dX5_readItem_23 (by decide) rfl h (fun h => ?_) (fun h => ?_)
      · refine g_iload_n o (q := 31) 1 rfl rfl dX5_readItem_30 rfl ?_
        refine g_sub (lv' := [(0, .ref (eA (xE X) 50)), (2, .int y2)]) [0, 2] rfl ?_
        exact w_X5_readItem_J31 hres o hr ih  h
      · refine g_iload_n o (q := 27) 2 rfl rfl dX5_readItem_26 rfl ?_
        refine g_goto o (tgt := 31) dX5_readItem_27 (by decide) ?_
        refine g_sub (lv' := [(0, .ref (eA (xE X) 50)), (2, .int y2)]) [0, 2] rfl ?_
        exact w_X5_readItem_J31 hres o hr ih  h
set_option maxRecDepth 100000 in
set_option maxHeartbeats 4000000 in
theorem w_X5_readItem {X : Cx} {l : Launch} {u : Unit} {σr : Mem} {res : Unit × Mem} (hres : res = (u, σr)) (o : OK X cX5_readItem RX5 sdM 3 rm_X5_readItem l) (hr : RV X σr)   {σ : Mem} (h : f_X5_readItem  σ = some res) : G X σ 0 [(0, .ref (eA (xE X) 50))] [] := by
  unfold f_X5_readItem at h
  refine g_iconst o (v := (-1)) (q := 1) (by decide) dX5_readItem_0 rfl ?_
  refine g_istore_n o (q := 2) dX5_readItem_1 rfl rfl (by decide) h (fun x21 => [(1, .int x21), (0, .ref (eA (xE X) 50))]) (fun _ => rfl) (fun x21 h => ?_)
  refine g_iconst o (v := 0) (q := 3) (by decide) dX5_readItem_2 rfl ?_
  refine g_istore_n o (q := 4) dX5_readItem_3 rfl rfl (by decide) h (fun x22 => [(2, .int x22), (1, .int x21), (0, .ref (eA (xE X) 50))]) (fun _ => rfl) (fun x22 h => ?_)
  refine g_sub (lv' := [(0, .ref (eA (xE X) 50)), (1, .int x21), (2, .int x22)]) [2, 1, 0] rfl ?_
  exact w_X5_readItem_L4 hres o hr  FU x21 x22 σ  h
theorem c_X5_readItem {l : Launch} {E : En} {mk : Mem → Mem} (hmk : MK mk sdM)   {σ : Mem} {r : Unit} {τ : Mem} (h : f_X5_readItem  σ = some (r, τ)) : Met l yX5_readItem (Cond.code yX5_readItem cX5_readItem 3 none :: wt) rm_X5_readItem (PW E mk [.ref (eA E 50)] σ) (QV E mk τ) 0 0 (WA E) :=
  met_v (fun E => [.ref (eA E 50)]) (by decide) hmk (Nat.le_of_ble_eq_true rfl) (fun X o hr => w_X5_readItem rfl o hr   h)
set_option maxRecDepth 100000 in
set_option maxHeartbeats 4000000 in
theorem w_X5_isToldSo {X : Cx} {l : Launch} {u : Unit} {σr : Mem} {res : Unit × Mem} (hres : res = (u, σr)) (o : OK X cX5_isToldSo RX5 sdM 4 rm_X5_isToldSo l) (hr : RV X σr) (x1 : Int32)  {σ : Mem} (h : f_X5_isToldSo x1 σ = some res) : G X σ 0 [(0, .ref (eA (xE X) 50)), (1, .int x1)] [] := by
  unfold f_X5_isToldSo at h
  refine g_aload_n o (q := 1) 0 rfl rfl dX5_isToldSo_0 rfl ?_
  refine gf_X5_13 o (q := 4) kM_50 lk_X5_45 dX5_isToldSo_1 rfl ?_
  refine g_iload_n o (q := 5) 1 rfl rfl dX5_isToldSo_4 rfl ?_
  refine g_iconst o (v := 1) (q := 6) (by decide) dX5_isToldSo_5 rfl ?_
  refine g_iadd o (q := 7) dX5_isToldSo_6 rfl ?_
  refine g_iald o (q := 8) kM_57 dX5_isToldSo_7 rfl h (fun j21 hjj21 h => ?_)
  refine g_istore_n o (q := 9) dX5_isToldSo_8 rfl rfl (by decide) h (fun x22 => [(2, .int x22), (0, .ref (eA (xE X) 50)), (1, .int x1)]) (fun _ => rfl) (fun x22 h => ?_)
  refine g_aload_n o (q := 10) 1 rfl rfl dX5_isToldSo_9 rfl ?_
  refine gf_X5_13 o (q := 13) kM_50 lk_X5_45 dX5_isToldSo_10 rfl ?_
  refine g_iload_n o (q := 14) 2 rfl rfl dX5_isToldSo_13 rfl ?_
  refine g_iald o (q := 15) kM_57 dX5_isToldSo_14 rfl h (fun j23 hjj23 h => ?_)
  refine g_lkIn o (tgt := 40) (off := 25) 10 dX5_isToldSo_15 (by decide +kernel) (by decide +kernel) (by decide) h (fun h => ?_) (fun c10 h => ?_)
  · refine g_aload_n o (q := 41) 1 rfl rfl dX5_isToldSo_40 rfl ?_
    refine gf_X5_0 o (q := 44) kM_50 lk_X5_9 dX5_isToldSo_41 rfl ?_
    refine g_bipush o (v := 6) (q := 46) (by decide) dX5_isToldSo_44 rfl ?_
    refine g_iload_n o (q := 47) 0 rfl rfl dX5_isToldSo_46 rfl ?_
    refine g_iadd o (q := 48) dX5_isToldSo_47 rfl ?_
    refine g_aload_n o (q := 49) 1 rfl rfl dX5_isToldSo_48 rfl ?_
    refine gf_X5_13 o (q := 52) kM_50 lk_X5_45 dX5_isToldSo_49 rfl ?_
    refine g_iload_n o (q := 53) 2 rfl rfl dX5_isToldSo_52 rfl ?_
    refine g_iconst o (v := 2) (q := 54) (by decide) dX5_isToldSo_53 rfl ?_
    refine g_iadd o (q := 55) dX5_isToldSo_54 rfl ?_
    refine g_iald o (q := 56) kM_57 dX5_isToldSo_55 rfl h (fun j24 hjj24 h => ?_)
    refine g_iast o (q := 57) kM_51 dX5_isToldSo_56 rfl h (fun j25 σ26 h => ?_)
    refine g_goto o (tgt := 136) dX5_isToldSo_57 (by decide) ?_
    exact g_vret o hr (h.trans (congrArg some hres)) dX5_isToldSo_136
  refine g_lkIn o (tgt := 60) (off := 45) 11 dX5_isToldSo_15 (by decide +kernel) (by decide +kernel) (by decide) h (fun h => ?_) (fun c11 h => ?_)
  · refine g_aload_n o (q := 61) 1 rfl rfl dX5_isToldSo_60 rfl ?_
    refine gf_X5_0 o (q := 64) kM_50 lk_X5_9 dX5_isToldSo_61 rfl ?_
    refine g_iconst o (v := 3) (q := 65) (by decide) dX5_isToldSo_64 rfl ?_
    refine g_iload_n o (q := 66) 0 rfl rfl dX5_isToldSo_65 rfl ?_
    refine g_iast o (q := 67) kM_51 dX5_isToldSo_66 rfl h (fun j27 σ28 h => ?_)
    refine g_goto o (tgt := 136) dX5_isToldSo_67 (by decide) ?_
    exact g_vret o hr (h.trans (congrArg some hres)) dX5_isToldSo_136
  refine g_looksw o (tgt := 70) dX5_isToldSo_15 (by decide +kernel) (lk_out2 c10 c11) (by decide) ?_
  refine g_aload_n o (q := 71) 1 rfl rfl dX5_isToldSo_70 rfl ?_
  refine g_aload_n o (q := 72) 1 rfl rfl dX5_isToldSo_71 rfl ?_
  refine gf_X5_13 o (q := 75) kM_50 lk_X5_45 dX5_isToldSo_72 rfl ?_
  refine g_iload_n o (q := 76) 2 rfl rfl dX5_isToldSo_75 rfl ?_
  refine g_iald o (q := 77) kM_57 dX5_isToldSo_76 rfl h (fun j29 hjj29 h => ?_)
  refine g_aload_n o (q := 78) 1 rfl rfl dX5_isToldSo_77 rfl ?_
  refine gf_X5_13 o (q := 81) kM_50 lk_X5_45 dX5_isToldSo_78 rfl ?_
  refine g_iload_n o (q := 82) 2 rfl rfl dX5_isToldSo_81 rfl ?_
  refine g_iconst o (v := 2) (q := 83) (by decide) dX5_isToldSo_82 rfl ?_
  refine g_iadd o (q := 84) dX5_isToldSo_83 rfl ?_
  refine g_iald o (q := 85) kM_57 dX5_isToldSo_84 rfl h (fun j30 hjj30 h => ?_)
  refine g_cvi o (q := 88) (As := [.int (σ 57 j29), .int (σ 57 j30)]) (rest := []) kv_X5_comes lk_X5_95 kM_50 (by decide) rfl rfl rfl (fun _ _ hc => c_X5_comes o.mk (σ 57 j29) (σ 57 j30) hc) dX5_isToldSo_85 rfl ⟨rfl, rfl, Nat.le_of_ble_eq_true rfl, Nat.le_of_ble_eq_true rfl⟩ (Nat.le_of_ble_eq_true rfl) rfl h (fun r32 σ31 h => ?_)
  refine g_istore_n o (q := 89) dX5_isToldSo_88 rfl rfl (by decide) h (fun x33 => [(3, .int x33), (2, .int x22), (0, .ref (eA (xE X) 50)), (1, .int x1)]) (fun _ => rfl) (fun x33 h => ?_)
  refine g_aload_n o (q := 90) 2 rfl rfl dX5_isToldSo_89 rfl ?_
  refine gf_X5_0 o (q := 93) kM_50 lk_X5_9 dX5_isToldSo_90 rfl ?_
  refine g_iload_n o (q := 94) 0 rfl rfl dX5_isToldSo_93 rfl ?_
  refine g_iconst o (v := 1) (q := 95) (by decide) dX5_isToldSo_94 rfl ?_
  refine g_csi o (q := 98) (As := [.int x33, .int 1]) (rest := [.ref (eA (xE X) 51)]) kv_X5_curtainAt lk_X5_85 rfl (fun _ _ hc => c_X5_curtainAt o.mk x33 1 hc) dX5_isToldSo_95 rfl ⟨rfl, rfl, Nat.le_of_ble_eq_true rfl, Nat.le_of_ble_eq_true rfl⟩ (Nat.le_of_ble_eq_true rfl) rfl h (fun r35 σ34 h => ?_)
  refine g_iload_n o (q := 99) 1 rfl rfl dX5_isToldSo_98 rfl ?_
  refine g_iast o (q := 100) kM_51 dX5_isToldSo_99 rfl h (fun j36 σ37 h => ?_)
  refine g_aload_n o (q := 101) 2 rfl rfl dX5_isToldSo_100 rfl ?_
  refine gf_X5_0 o (q := 104) kM_50 lk_X5_9 dX5_isToldSo_101 rfl ?_
  refine g_iload_n o (q := 105) 0 rfl rfl dX5_isToldSo_104 rfl ?_
  refine g_iconst o (v := 3) (q := 106) (by decide) dX5_isToldSo_105 rfl ?_
  refine g_csi o (q := 109) (As := [.int x33, .int 3]) (rest := [.ref (eA (xE X) 51)]) kv_X5_curtainAt lk_X5_85 rfl (fun _ _ hc => c_X5_curtainAt o.mk x33 3 hc) dX5_isToldSo_106 rfl ⟨rfl, rfl, Nat.le_of_ble_eq_true rfl, Nat.le_of_ble_eq_true rfl⟩ (Nat.le_of_ble_eq_true rfl) rfl h (fun r39 σ38 h => ?_)
  refine g_aload_n o (q := 110) 2 rfl rfl dX5_isToldSo_109 rfl ?_
  refine gf_X5_13 o (q := 113) kM_50 lk_X5_45 dX5_isToldSo_110 rfl ?_
  refine g_iload_n o (q := 114) 3 rfl rfl dX5_isToldSo_113 rfl ?_
  refine g_iconst o (v := 3) (q := 115) (by decide) dX5_isToldSo_114 rfl ?_
  refine g_iadd o (q := 116) dX5_isToldSo_115 rfl ?_
  refine g_iald o (q := 117) kM_57 dX5_isToldSo_116 rfl h (fun j40 hjj40 h => ?_)
  refine g_iast o (q := 118) kM_51 dX5_isToldSo_117 rfl h (fun j41 σ42 h => ?_)
  refine g_aload_n o (q := 119) 2 rfl rfl dX5_isToldSo_118 rfl ?_
  refine gf_X5_0 o (q := 122) kM_50 lk_X5_9 dX5_isToldSo_119 rfl ?_
  refine g_iload_n o (q := 123) 0 rfl rfl dX5_isToldSo_122 rfl ?_
  refine g_iconst o (v := 4) (q := 124) (by decide) dX5_isToldSo_123 rfl ?_
  refine g_csi o (q := 127) (As := [.int x33, .int 4]) (rest := [.ref (eA (xE X) 51)]) kv_X5_curtainAt lk_X5_85 rfl (fun _ _ hc => c_X5_curtainAt o.mk x33 4 hc) dX5_isToldSo_124 rfl ⟨rfl, rfl, Nat.le_of_ble_eq_true rfl, Nat.le_of_ble_eq_true rfl⟩ (Nat.le_of_ble_eq_true rfl) rfl h (fun r44 σ43 h => ?_)
  refine g_aload_n o (q := 128) 2 rfl rfl dX5_isToldSo_127 rfl ?_
  refine gf_X5_13 o (q := 131) kM_50 lk_X5_45 dX5_isToldSo_128 rfl ?_
  refine g_iload_n o (q := 132) 3 rfl rfl dX5_isToldSo_131 rfl ?_
  refine g_iconst o (v := 4) (q := 133) (by decide) dX5_isToldSo_132 rfl ?_
  refine g_iadd o (q := 134) dX5_isToldSo_133 rfl ?_
  refine g_iald o (q := 135) kM_57 dX5_isToldSo_134 rfl h (fun j45 hjj45 h => ?_)
  refine g_iast o (q := 136) kM_51 dX5_isToldSo_135 rfl h (fun j46 σ47 h => ?_)
  exact g_vret o hr (h.trans (congrArg some hres)) dX5_isToldSo_136
theorem c_X5_isToldSo {l : Launch} {E : En} {mk : Mem → Mem} (hmk : MK mk sdM) (x1 : Int32)  {σ : Mem} {r : Unit} {τ : Mem} (h : f_X5_isToldSo x1 σ = some (r, τ)) : Met l yX5_isToldSo (Cond.code yX5_isToldSo cX5_isToldSo 4 none :: wt) rm_X5_isToldSo (PW E mk [.ref (eA E 50), .int x1] σ) (QV E mk τ) 0 0 (WA E) :=
  met_v (fun E => [.ref (eA E 50), .int x1]) (by decide) hmk (Nat.le_of_ble_eq_true rfl) (fun X o hr => w_X5_isToldSo rfl o hr x1  h)
