-- BoundProofsModel setSample ()Z
noncomputable def s_X10_setSample_l41 (c0 : Nat) (a1 : Int64) (a3 : Int32) (h : Hp) : Option ((Int32 × Hp) ⊕ (Hp)) :=
  if a3 < (h.1 c0 3) then (ldI h (c0 + 2) 30 (((3 : Int32) * a3) + (1 : Int32)) fun x6 =>
  (s_X10_coefficientOf c0 a3 (1 : Int32) h).bind fun y7 =>
  (s_X10_coefficientOf c0 a3 (2 : Int32) h).bind fun y8 =>
  ldI h (c0 + 2) 30 (((3 : Int32) * a3) + (2 : Int32)) fun x9 =>
  (s_X10_coefficientOf c0 a3 (0 : Int32) h).bind fun y10 =>
  ldJ h (c0 + 19) 3 (0 : Int32) fun x11 =>
  (s_X10_comesBySort c0 x6 (y7).toInt64 (y8).toInt64 (0 : Int64) ((a1 * (x9).toInt64) - ((y10).toInt64 * x11)) h).bind fun y12 =>
  lt (a3 + (1 : Int32)) fun v3_13 =>
  some (.inl (v3_13, y12)))
  else (some (.inr (h)))
noncomputable def s_X10_setSample_l152 (c0 : Nat) (a1 : Int64) (a3 : Int64) (a5 : Int32) (h : Hp) : Option ((Int32 × Hp) ⊕ (Hp)) :=
  if a5 < (h.1 c0 3) then (ldI h (c0 + 2) 30 (((3 : Int32) * a5) + (2 : Int32)) fun x20 =>
  (s_X10_coefficientOf c0 a5 (0 : Int32) h).bind fun y21 =>
  ldJ h (c0 + 19) 3 (0 : Int32) fun x22 =>
  (s_X10_coefficientOf c0 a5 (1 : Int32) h).bind fun y23 =>
  ldJ h (c0 + 19) 3 (1 : Int32) fun x24 =>
  lt ((((a1 * a3) * (x20).toInt64) - (((y21).toInt64 * x22) * a3)) - (((y23).toInt64 * x24) * a1)) fun v6_25 =>
  ldI h (c0 + 2) 30 (((3 : Int32) * a5) + (1 : Int32)) fun x26 =>
  (s_X10_coefficientOf c0 a5 (2 : Int32) h).bind fun y27 =>
  (s_X10_comesBySort c0 x26 (y27).toInt64 (0 : Int64) (0 : Int64) v6_25 h).bind fun y28 =>
  lt (a5 + (1 : Int32)) fun v5_29 =>
  some (.inl (v5_29, y28)))
  else (some (.inr (h)))
noncomputable def s_X10_setSample_b122 (c0 : Nat)  (h : Hp) : Option (Int32 × Hp) :=
  if (2 : Int32) < (h.1 c0 0) then (lt (sI h c0 9 (0 : Int32)) fun h17 =>
  ldJ h17 (c0 + 20) 3 (0 : Int32) fun x18 =>
  ldJ h17 (c0 + 20) 3 (1 : Int32) fun x19 =>
  (iter (fun s : Int32 × Hp => s_X10_setSample_l152 c0 x18 x19 s.1 s.2) FUEL ((0 : Int32), h17)).bind fun e30 =>
  (s_X10_sees c0  e30).bind fun y31 =>
  (s_X10_setSimplest c0 (2 : Int32) (x18 * x19) y31).bind fun y32 =>
  some ((1 : Int32), y32))
  else (some ((1 : Int32), h))
noncomputable def s_X10_setSample (c0 : Nat)  (h : Hp) : Option (Int32 × Hp) :=
  (s_X10_allBounds c0  h).bind fun y1 =>
  (s_X10_canBe c0 y1 h).bind fun y2 =>
  if y2.1 = 0 then (some ((0 : Int32), y2.2))
  else ((s_X10_setSimplest c0 (0 : Int32) (1 : Int64) y2.2).bind fun y3 =>
  if (1 : Int32) < (y3.1 c0 0) then (lt (sI y3 c0 9 (0 : Int32)) fun h4 =>
  ldJ h4 (c0 + 20) 3 (0 : Int32) fun x5 =>
  (iter (fun s : Int32 × Hp => s_X10_setSample_l41 c0 x5 s.1 s.2) FUEL ((0 : Int32), h4)).bind fun e14 =>
  (s_X10_sees c0  e14).bind fun y15 =>
  (s_X10_setSimplest c0 (1 : Int32) x5 y15).bind fun y16 =>
  s_X10_setSample_b122 c0  y16)
  else (s_X10_setSample_b122 c0  y3))
set_option maxRecDepth 100000 in
set_option maxHeartbeats 4000000 in
theorem o_X10_setSample_l41 {K : gK} (S : Cx K RX10 cX10_setSample 8 4 117) {c0 : Nat} (k0 : kd c0 (10 + 10, 0)) (a1 : Int64) (a3 : Int32) (h : Hp) {o : (Int32 × Hp) ⊕ (Hp)} (hyp : s_X10_setSample_l41 c0 a1 a3 h = some o) (hin : ∀ s', o = .inl s' → Go K 41 [(0, .ref (ad K c0)), (1, .long a1), (3, .int s'.1)] [] s'.2) (hex0 : ∀ s', o = .inr (s') → Go K 112 [(0, .ref (ad K c0)), (1, .long a1)] [] s') : Go K 41 [(0, .ref (ad K c0)), (1, .long a1), (3, .int a3)] [] h := by
  unfold s_X10_setSample_l41 at hyp
  refine g_iload_n (pc := 41) 2 S dX10_setSample_41 rfl ?_
  refine g_aload_n (pc := 42) 0 S dX10_setSample_42 rfl ?_
  refine g_getI (pc := 43) S dX10_setSample_43 fl_X10_97 k0 ?_
  refine g_icmp_ge (pc := 46) (tgt := 112) S dX10_setSample_46 (by decide) hyp (fun hyp => ?_) (fun hyp => ?_)
  · refine g_aload_n (pc := 49) 0 S dX10_setSample_49 rfl ?_
    refine g_aload_n (pc := 50) 0 S dX10_setSample_50 rfl ?_
    refine g_getR (pc := 51) S dX10_setSample_51 fl_X10_17 k0 ?_
    refine g_iconst (pc := 54) (v := (3 : Int32)) S dX10_setSample_54 (by decide) ?_
    refine g_iload_n (pc := 55) 2 S dX10_setSample_55 rfl ?_
    refine g_imul (pc := 56) S dX10_setSample_56 ?_
    refine g_iconst (pc := 57) (v := (1 : Int32)) S dX10_setSample_57 (by decide) ?_
    refine g_iadd (pc := 58) S dX10_setSample_58 ?_
    refine g_iald (pc := 59) S dX10_setSample_59 (kf_10_2 k0) hyp (fun x6 hyp => ?_)
    refine g_aload_n (pc := 60) 0 S dX10_setSample_60 rfl ?_
    refine g_iload_n (pc := 61) 2 S dX10_setSample_61 rfl ?_
    refine g_iconst (pc := 62) (v := (1 : Int32)) S dX10_setSample_62 (by decide) ?_
    refine g_bind hyp (fun y7 hy7 hyp => ?_)
    refine g_callV (pc := 63) (As := [.int a3, .int (1 : Int32)]) (rest := [.int x6, .ref (ad K c0)]) S dX10_setSample_63 k0 rfl tw_1058 tw_1059 tw_42 mw_X10_coefficientOf (m_X10_coefficientOf k0 a3 (1 : Int32) h hy7) rfl rfl (Nat.le_of_ble_eq_true rfl) (Nat.le_of_ble_eq_true rfl) (Nat.le_of_ble_eq_true rfl) ?_
    refine g_i2l (pc := 66) S dX10_setSample_66 ?_
    refine g_aload_n (pc := 67) 0 S dX10_setSample_67 rfl ?_
    refine g_iload_n (pc := 68) 2 S dX10_setSample_68 rfl ?_
    refine g_iconst (pc := 69) (v := (2 : Int32)) S dX10_setSample_69 (by decide) ?_
    refine g_bind hyp (fun y8 hy8 hyp => ?_)
    refine g_callV (pc := 70) (As := [.int a3, .int (2 : Int32)]) (rest := [.long (y7).toInt64, .int x6, .ref (ad K c0)]) S dX10_setSample_70 k0 rfl tw_1058 tw_1059 tw_42 mw_X10_coefficientOf (m_X10_coefficientOf k0 a3 (2 : Int32) h hy8) rfl rfl (Nat.le_of_ble_eq_true rfl) (Nat.le_of_ble_eq_true rfl) (Nat.le_of_ble_eq_true rfl) ?_
    refine g_i2l (pc := 73) S dX10_setSample_73 ?_
    refine g_lconst (pc := 74) (v := (0 : Int64)) S dX10_setSample_74 (by decide) ?_
    refine g_lload_n (pc := 75) 1 S dX10_setSample_75 rfl ?_
    refine g_aload_n (pc := 76) 0 S dX10_setSample_76 rfl ?_
    refine g_getR (pc := 77) S dX10_setSample_77 fl_X10_17 k0 ?_
    refine g_iconst (pc := 80) (v := (3 : Int32)) S dX10_setSample_80 (by decide) ?_
    refine g_iload_n (pc := 81) 2 S dX10_setSample_81 rfl ?_
    refine g_imul (pc := 82) S dX10_setSample_82 ?_
    refine g_iconst (pc := 83) (v := (2 : Int32)) S dX10_setSample_83 (by decide) ?_
    refine g_iadd (pc := 84) S dX10_setSample_84 ?_
    refine g_iald (pc := 85) S dX10_setSample_85 (kf_10_2 k0) hyp (fun x9 hyp => ?_)
    refine g_i2l (pc := 86) S dX10_setSample_86 ?_
    refine g_lmul (pc := 87) S dX10_setSample_87 ?_
    refine g_aload_n (pc := 88) 0 S dX10_setSample_88 rfl ?_
    refine g_iload_n (pc := 89) 2 S dX10_setSample_89 rfl ?_
    refine g_iconst (pc := 90) (v := (0 : Int32)) S dX10_setSample_90 (by decide) ?_
    refine g_bind hyp (fun y10 hy10 hyp => ?_)
    refine g_callV (pc := 91) (As := [.int a3, .int (0 : Int32)]) (rest := [.long (a1 * (x9).toInt64), .long (0 : Int64), .long (y8).toInt64, .long (y7).toInt64, .int x6, .ref (ad K c0)]) S dX10_setSample_91 k0 rfl tw_1058 tw_1059 tw_42 mw_X10_coefficientOf (m_X10_coefficientOf k0 a3 (0 : Int32) h hy10) rfl rfl (Nat.le_of_ble_eq_true rfl) (Nat.le_of_ble_eq_true rfl) (Nat.le_of_ble_eq_true rfl) ?_
    refine g_i2l (pc := 94) S dX10_setSample_94 ?_
    refine g_aload_n (pc := 95) 0 S dX10_setSample_95 rfl ?_
    refine g_getR (pc := 96) S dX10_setSample_96 fl_X10_73 k0 ?_
    refine g_iconst (pc := 99) (v := (0 : Int32)) S dX10_setSample_99 (by decide) ?_
    refine g_lald (pc := 100) S dX10_setSample_100 (kf_10_19 k0) hyp (fun x11 hyp => ?_)
    refine g_lmul (pc := 101) S dX10_setSample_101 ?_
    refine g_lsub (pc := 102) S dX10_setSample_102 ?_
    refine g_bind hyp (fun y12 hy12 hyp => ?_)
    refine g_callV (pc := 103) (As := [.int x6, .long (y7).toInt64, .long (y8).toInt64, .long (0 : Int64), .long ((a1 * (x9).toInt64) - ((y10).toInt64 * x11))]) (rest := []) S dX10_setSample_103 k0 rfl tw_1061 tw_1062 tw_43 mw_X10_comesBySort (m_X10_comesBySort k0 x6 (y7).toInt64 (y8).toInt64 (0 : Int64) ((a1 * (x9).toInt64) - ((y10).toInt64 * x11)) h hy12) rfl rfl (Nat.le_of_ble_eq_true rfl) (Nat.le_of_ble_eq_true rfl) (Nat.le_of_ble_eq_true rfl) ?_
    refine g_iinc (pc := 106) (v := (a3 + (1 : Int32))) (lv' := [(3, .int (a3 + (1 : Int32))), (0, .ref (ad K c0)), (1, .long a1)]) 2 S dX10_setSample_106 rfl (by rfl) (by decide) rfl ?_
    refine g_lti (C := fun v3_13 => Go K (106 + 3) [(3, .int v3_13), (0, .ref (ad K c0)), (1, .long a1)] [] y12) hyp (fun v3_13 hyp => ?_)
    refine g_goto (pc := 109) (tgt := 41) S dX10_setSample_109 (by decide) ?_
    have hyp := Option.some.inj hyp
    subst hyp
    exact g_sub [1, 2, 0] rfl (hin (v3_13, y12) rfl)
  · have hyp := Option.some.inj hyp
    subst hyp
    exact g_sub [0, 1] rfl (hex0 h rfl)
set_option maxRecDepth 100000 in
set_option maxHeartbeats 4000000 in
theorem o_X10_setSample_l152 {K : gK} (S : Cx K RX10 cX10_setSample 8 4 117) {c0 : Nat} (k0 : kd c0 (10 + 10, 0)) (a1 : Int64) (a3 : Int64) (a5 : Int32) (h : Hp) {o : (Int32 × Hp) ⊕ (Hp)} (hyp : s_X10_setSample_l152 c0 a1 a3 a5 h = some o) (hin : ∀ s', o = .inl s' → Go K 152 [(0, .ref (ad K c0)), (1, .long a1), (3, .long a3), (5, .int s'.1)] [] s'.2) (hex0 : ∀ s', o = .inr (s') → Go K 248 [(0, .ref (ad K c0)), (1, .long a1), (3, .long a3)] [] s') : Go K 152 [(0, .ref (ad K c0)), (1, .long a1), (3, .long a3), (5, .int a5)] [] h := by
  unfold s_X10_setSample_l152 at hyp
  refine g_iload (pc := 152) 3 S dX10_setSample_152 rfl ?_
  refine g_aload_n (pc := 154) 0 S dX10_setSample_154 rfl ?_
  refine g_getI (pc := 155) S dX10_setSample_155 fl_X10_97 k0 ?_
  refine g_icmp_ge (pc := 158) (tgt := 248) S dX10_setSample_158 (by decide) hyp (fun hyp => ?_) (fun hyp => ?_)
  · refine g_lload_n (pc := 161) 1 S dX10_setSample_161 rfl ?_
    refine g_lload_n (pc := 162) 2 S dX10_setSample_162 rfl ?_
    refine g_lmul (pc := 163) S dX10_setSample_163 ?_
    refine g_aload_n (pc := 164) 0 S dX10_setSample_164 rfl ?_
    refine g_getR (pc := 165) S dX10_setSample_165 fl_X10_17 k0 ?_
    refine g_iconst (pc := 168) (v := (3 : Int32)) S dX10_setSample_168 (by decide) ?_
    refine g_iload (pc := 169) 3 S dX10_setSample_169 rfl ?_
    refine g_imul (pc := 171) S dX10_setSample_171 ?_
    refine g_iconst (pc := 172) (v := (2 : Int32)) S dX10_setSample_172 (by decide) ?_
    refine g_iadd (pc := 173) S dX10_setSample_173 ?_
    refine g_iald (pc := 174) S dX10_setSample_174 (kf_10_2 k0) hyp (fun x20 hyp => ?_)
    refine g_i2l (pc := 175) S dX10_setSample_175 ?_
    refine g_lmul (pc := 176) S dX10_setSample_176 ?_
    refine g_aload_n (pc := 177) 0 S dX10_setSample_177 rfl ?_
    refine g_iload (pc := 178) 3 S dX10_setSample_178 rfl ?_
    refine g_iconst (pc := 180) (v := (0 : Int32)) S dX10_setSample_180 (by decide) ?_
    refine g_bind hyp (fun y21 hy21 hyp => ?_)
    refine g_callV (pc := 181) (As := [.int a5, .int (0 : Int32)]) (rest := [.long ((a1 * a3) * (x20).toInt64)]) S dX10_setSample_181 k0 rfl tw_1058 tw_1059 tw_42 mw_X10_coefficientOf (m_X10_coefficientOf k0 a5 (0 : Int32) h hy21) rfl rfl (Nat.le_of_ble_eq_true rfl) (Nat.le_of_ble_eq_true rfl) (Nat.le_of_ble_eq_true rfl) ?_
    refine g_i2l (pc := 184) S dX10_setSample_184 ?_
    refine g_aload_n (pc := 185) 0 S dX10_setSample_185 rfl ?_
    refine g_getR (pc := 186) S dX10_setSample_186 fl_X10_73 k0 ?_
    refine g_iconst (pc := 189) (v := (0 : Int32)) S dX10_setSample_189 (by decide) ?_
    refine g_lald (pc := 190) S dX10_setSample_190 (kf_10_19 k0) hyp (fun x22 hyp => ?_)
    refine g_lmul (pc := 191) S dX10_setSample_191 ?_
    refine g_lload_n (pc := 192) 2 S dX10_setSample_192 rfl ?_
    refine g_lmul (pc := 193) S dX10_setSample_193 ?_
    refine g_lsub (pc := 194) S dX10_setSample_194 ?_
    refine g_aload_n (pc := 195) 0 S dX10_setSample_195 rfl ?_
    refine g_iload (pc := 196) 3 S dX10_setSample_196 rfl ?_
    refine g_iconst (pc := 198) (v := (1 : Int32)) S dX10_setSample_198 (by decide) ?_
    refine g_bind hyp (fun y23 hy23 hyp => ?_)
    refine g_callV (pc := 199) (As := [.int a5, .int (1 : Int32)]) (rest := [.long (((a1 * a3) * (x20).toInt64) - (((y21).toInt64 * x22) * a3))]) S dX10_setSample_199 k0 rfl tw_1058 tw_1059 tw_42 mw_X10_coefficientOf (m_X10_coefficientOf k0 a5 (1 : Int32) h hy23) rfl rfl (Nat.le_of_ble_eq_true rfl) (Nat.le_of_ble_eq_true rfl) (Nat.le_of_ble_eq_true rfl) ?_
    refine g_i2l (pc := 202) S dX10_setSample_202 ?_
    refine g_aload_n (pc := 203) 0 S dX10_setSample_203 rfl ?_
    refine g_getR (pc := 204) S dX10_setSample_204 fl_X10_73 k0 ?_
    refine g_iconst (pc := 207) (v := (1 : Int32)) S dX10_setSample_207 (by decide) ?_
    refine g_lald (pc := 208) S dX10_setSample_208 (kf_10_19 k0) hyp (fun x24 hyp => ?_)
    refine g_lmul (pc := 209) S dX10_setSample_209 ?_
    refine g_lload_n (pc := 210) 1 S dX10_setSample_210 rfl ?_
    refine g_lmul (pc := 211) S dX10_setSample_211 ?_
    refine g_lsub (pc := 212) S dX10_setSample_212 ?_
    refine g_lti (C := fun v6_25 => Go K 213 [(0, .ref (ad K c0)), (1, .long a1), (3, .long a3), (5, .int a5)] [.long v6_25] h) hyp (fun v6_25 hyp => ?_)
    refine g_lstore (pc := 213) (lv' := [(6, .long v6_25), (0, .ref (ad K c0)), (1, .long a1), (3, .long a3), (5, .int a5)]) S dX10_setSample_213 (by decide) rfl ?_
    refine g_aload_n (pc := 215) 1 S dX10_setSample_215 rfl ?_
    refine g_aload_n (pc := 216) 1 S dX10_setSample_216 rfl ?_
    refine g_getR (pc := 217) S dX10_setSample_217 fl_X10_17 k0 ?_
    refine g_iconst (pc := 220) (v := (3 : Int32)) S dX10_setSample_220 (by decide) ?_
    refine g_iload (pc := 221) 4 S dX10_setSample_221 rfl ?_
    refine g_imul (pc := 223) S dX10_setSample_223 ?_
    refine g_iconst (pc := 224) (v := (1 : Int32)) S dX10_setSample_224 (by decide) ?_
    refine g_iadd (pc := 225) S dX10_setSample_225 ?_
    refine g_iald (pc := 226) S dX10_setSample_226 (kf_10_2 k0) hyp (fun x26 hyp => ?_)
    refine g_aload_n (pc := 227) 1 S dX10_setSample_227 rfl ?_
    refine g_iload (pc := 228) 4 S dX10_setSample_228 rfl ?_
    refine g_iconst (pc := 230) (v := (2 : Int32)) S dX10_setSample_230 (by decide) ?_
    refine g_bind hyp (fun y27 hy27 hyp => ?_)
    refine g_callV (pc := 231) (As := [.int a5, .int (2 : Int32)]) (rest := [.int x26, .ref (ad K c0)]) S dX10_setSample_231 k0 rfl tw_1058 tw_1059 tw_42 mw_X10_coefficientOf (m_X10_coefficientOf k0 a5 (2 : Int32) h hy27) rfl rfl (Nat.le_of_ble_eq_true rfl) (Nat.le_of_ble_eq_true rfl) (Nat.le_of_ble_eq_true rfl) ?_
    refine g_i2l (pc := 234) S dX10_setSample_234 ?_
    refine g_lconst (pc := 235) (v := (0 : Int64)) S dX10_setSample_235 (by decide) ?_
    refine g_lconst (pc := 236) (v := (0 : Int64)) S dX10_setSample_236 (by decide) ?_
    refine g_lload (pc := 237) 0 S dX10_setSample_237 rfl ?_
    refine g_bind hyp (fun y28 hy28 hyp => ?_)
    refine g_callV (pc := 239) (As := [.int x26, .long (y27).toInt64, .long (0 : Int64), .long (0 : Int64), .long v6_25]) (rest := []) S dX10_setSample_239 k0 rfl tw_1061 tw_1062 tw_43 mw_X10_comesBySort (m_X10_comesBySort k0 x26 (y27).toInt64 (0 : Int64) (0 : Int64) v6_25 h hy28) rfl rfl (Nat.le_of_ble_eq_true rfl) (Nat.le_of_ble_eq_true rfl) (Nat.le_of_ble_eq_true rfl) ?_
    refine g_iinc (pc := 242) (v := (a5 + (1 : Int32))) (lv' := [(5, .int (a5 + (1 : Int32))), (6, .long v6_25), (0, .ref (ad K c0)), (1, .long a1), (3, .long a3)]) 4 S dX10_setSample_242 rfl (by rfl) (by decide) rfl ?_
    refine g_lti (C := fun v5_29 => Go K (242 + 3) [(5, .int v5_29), (6, .long v6_25), (0, .ref (ad K c0)), (1, .long a1), (3, .long a3)] [] y28) hyp (fun v5_29 hyp => ?_)
    refine g_goto (pc := 245) (tgt := 152) S dX10_setSample_245 (by decide) ?_
    have hyp := Option.some.inj hyp
    subst hyp
    exact g_sub [2, 3, 4, 0] rfl (hin (v5_29, y28) rfl)
  · have hyp := Option.some.inj hyp
    subst hyp
    exact g_sub [0, 1, 2] rfl (hex0 h rfl)
set_option maxRecDepth 100000 in
set_option maxHeartbeats 4000000 in
theorem o_X10_setSample_b122 {K : gK} (S : Cx K RX10 cX10_setSample 8 4 117) {c0 : Nat} (k0 : kd c0 (10 + 10, 0))  (h : Hp) {o : Int32 × Hp} (hyp : s_X10_setSample_b122 c0  h = some o) (F : Rt K (some .boolean) (some (.int o.1)) o.2) : Go K 122 [(0, .ref (ad K c0))] [] h := by
  unfold s_X10_setSample_b122 at hyp
  refine g_aload_n (pc := 122) 0 S dX10_setSample_122 rfl ?_
  refine g_getI (pc := 123) S dX10_setSample_123 fl_X10_7 k0 ?_
  refine g_iconst (pc := 126) (v := (2 : Int32)) S dX10_setSample_126 (by decide) ?_
  refine g_icmp_le (pc := 127) (tgt := 260) S dX10_setSample_127 (by decide) hyp (fun hyp => ?_) (fun hyp => ?_)
  · refine g_aload_n (pc := 130) 0 S dX10_setSample_130 rfl ?_
    refine g_iconst (pc := 131) (v := (0 : Int32)) S dX10_setSample_131 (by decide) ?_
    refine g_putI (pc := 132) S dX10_setSample_132 fl_X10_135 k0 hyp (fun h17 hyp => ?_)
    refine g_aload_n (pc := 135) 0 S dX10_setSample_135 rfl ?_
    refine g_getR (pc := 136) S dX10_setSample_136 fl_X10_76 k0 ?_
    refine g_iconst (pc := 139) (v := (0 : Int32)) S dX10_setSample_139 (by decide) ?_
    refine g_lald (pc := 140) S dX10_setSample_140 (kf_10_20 k0) hyp (fun x18 hyp => ?_)
    refine g_lstore_n (pc := 141) (lv' := [(1, .long x18), (0, .ref (ad K c0))]) S dX10_setSample_141 rfl (by decide) rfl ?_
    refine g_aload_n (pc := 142) 1 S dX10_setSample_142 rfl ?_
    refine g_getR (pc := 143) S dX10_setSample_143 fl_X10_76 k0 ?_
    refine g_iconst (pc := 146) (v := (1 : Int32)) S dX10_setSample_146 (by decide) ?_
    refine g_lald (pc := 147) S dX10_setSample_147 (kf_10_20 k0) hyp (fun x19 hyp => ?_)
    refine g_lstore_n (pc := 148) (lv' := [(3, .long x19), (1, .long x18), (0, .ref (ad K c0))]) S dX10_setSample_148 rfl (by decide) rfl ?_
    refine g_iconst (pc := 149) (v := (0 : Int32)) S dX10_setSample_149 (by decide) ?_
    refine g_istore (pc := 150) (lv' := [(5, .int (0 : Int32)), (3, .long x19), (1, .long x18), (0, .ref (ad K c0))]) S dX10_setSample_150 (by decide) rfl ?_
    refine g_bind hyp (fun e30 he30 hyp => ?_)
    refine g_sub [3, 2, 1, 0] rfl (g_loop (f := fun s : Int32 × Hp => s_X10_setSample_l152 c0 x18 x19 s.1 s.2) (ρ := Hp) (Hd := fun s : Int32 × Hp => Go K 152 [(0, .ref (ad K c0)), (1, .long x18), (3, .long x19), (5, .int s.1)] [] s.2) (Ex := fun e30 => Go K 248 [(0, .ref (ad K c0)), (1, .long x18), (3, .long x19)] [] e30) (fun s o h1 h2 h3 => o_X10_setSample_l152 S k0 x18 x19 s.1 s.2 h1 h2 h3) FUEL _ e30 he30 ?_)
    refine g_aload_n (pc := 248) 0 S dX10_setSample_248 rfl ?_
    refine g_bind hyp (fun y31 hy31 hyp => ?_)
    refine g_callV (pc := 249) (As := []) (rest := []) S dX10_setSample_249 k0 rfl tw_1067 tw_1068 tw_45 mw_X10_sees (m_X10_sees k0  e30 hy31) rfl rfl (Nat.le_of_ble_eq_true rfl) (Nat.le_of_ble_eq_true rfl) (Nat.le_of_ble_eq_true rfl) ?_
    refine g_aload_n (pc := 252) 0 S dX10_setSample_252 rfl ?_
    refine g_iconst (pc := 253) (v := (2 : Int32)) S dX10_setSample_253 (by decide) ?_
    refine g_lload_n (pc := 254) 1 S dX10_setSample_254 rfl ?_
    refine g_lload_n (pc := 255) 2 S dX10_setSample_255 rfl ?_
    refine g_lmul (pc := 256) S dX10_setSample_256 ?_
    refine g_bind hyp (fun y32 hy32 hyp => ?_)
    refine g_callV (pc := 257) (As := [.int (2 : Int32), .long (x18 * x19)]) (rest := []) S dX10_setSample_257 k0 rfl tw_1173 tw_1174 tw_66 mw_X10_setSimplest (m_X10_setSimplest k0 (2 : Int32) (x18 * x19) y31 hy32) rfl rfl (Nat.le_of_ble_eq_true rfl) (Nat.le_of_ble_eq_true rfl) (Nat.le_of_ble_eq_true rfl) ?_
    refine g_iconst (pc := 260) (v := (1 : Int32)) S dX10_setSample_260 (by decide) ?_
    have hyp := Option.some.inj hyp
    subst hyp
    exact g_zret (pc := 261) S F dX10_setSample_261 (Or.inr rfl)
  · refine g_iconst (pc := 260) (v := (1 : Int32)) S dX10_setSample_260 (by decide) ?_
    have hyp := Option.some.inj hyp
    subst hyp
    exact g_zret (pc := 261) S F dX10_setSample_261 (Or.inr rfl)
set_option maxRecDepth 100000 in
set_option maxHeartbeats 4000000 in
theorem o_X10_setSample {K : gK} (S : Cx K RX10 cX10_setSample 8 4 117) {c0 : Nat} (k0 : kd c0 (10 + 10, 0))  (h : Hp) {o : Int32 × Hp} (hyp : s_X10_setSample c0  h = some o) (F : Rt K (some .boolean) (some (.int o.1)) o.2) : Go K 0 [(0, .ref (ad K c0))] [] h := by
  unfold s_X10_setSample at hyp
  refine g_aload_n (pc := 0) 0 S dX10_setSample_0 rfl ?_
  refine g_aload_n (pc := 1) 0 S dX10_setSample_1 rfl ?_
  refine g_bind hyp (fun y1 hy1 hyp => ?_)
  refine g_callV (pc := 2) (As := []) (rest := [.ref (ad K c0)]) S dX10_setSample_2 k0 rfl tw_1049 tw_1050 tw_39 mw_X10_allBounds (m_X10_allBounds k0  h hy1) rfl rfl (Nat.le_of_ble_eq_true rfl) (Nat.le_of_ble_eq_true rfl) (Nat.le_of_ble_eq_true rfl) ?_
  refine g_bind hyp (fun y2 hy2 hyp => ?_)
  refine g_callV (pc := 5) (As := [.int y1]) (rest := []) S dX10_setSample_5 k0 rfl tw_1052 tw_1053 tw_40 mw_X10_canBe (m_X10_canBe k0 y1 h hy2) rfl rfl (Nat.le_of_ble_eq_true rfl) (Nat.le_of_ble_eq_true rfl) (Nat.le_of_ble_eq_true rfl) ?_
  refine g_if_ne (pc := 8) (tgt := 13) S dX10_setSample_8 (by decide) hyp (fun hyp => ?_) (fun hyp => ?_)
  · refine g_iconst (pc := 11) (v := (0 : Int32)) S dX10_setSample_11 (by decide) ?_
    have hyp := Option.some.inj hyp
    subst hyp
    exact g_zret (pc := 12) S F dX10_setSample_12 (Or.inl rfl)
  · refine g_aload_n (pc := 13) 0 S dX10_setSample_13 rfl ?_
    refine g_iconst (pc := 14) (v := (0 : Int32)) S dX10_setSample_14 (by decide) ?_
    refine g_lconst (pc := 15) (v := (1 : Int64)) S dX10_setSample_15 (by decide) ?_
    refine g_bind hyp (fun y3 hy3 hyp => ?_)
    refine g_callV (pc := 16) (As := [.int (0 : Int32), .long (1 : Int64)]) (rest := []) S dX10_setSample_16 k0 rfl tw_1173 tw_1174 tw_66 mw_X10_setSimplest (m_X10_setSimplest k0 (0 : Int32) (1 : Int64) y2.2 hy3) rfl rfl (Nat.le_of_ble_eq_true rfl) (Nat.le_of_ble_eq_true rfl) (Nat.le_of_ble_eq_true rfl) ?_
    refine g_aload_n (pc := 19) 0 S dX10_setSample_19 rfl ?_
    refine g_getI (pc := 20) S dX10_setSample_20 fl_X10_7 k0 ?_
    refine g_iconst (pc := 23) (v := (1 : Int32)) S dX10_setSample_23 (by decide) ?_
    refine g_icmp_le (pc := 24) (tgt := 122) S dX10_setSample_24 (by decide) hyp (fun hyp => ?_) (fun hyp => ?_)
    · refine g_aload_n (pc := 27) 0 S dX10_setSample_27 rfl ?_
      refine g_iconst (pc := 28) (v := (0 : Int32)) S dX10_setSample_28 (by decide) ?_
      refine g_putI (pc := 29) S dX10_setSample_29 fl_X10_135 k0 hyp (fun h4 hyp => ?_)
      refine g_aload_n (pc := 32) 0 S dX10_setSample_32 rfl ?_
      refine g_getR (pc := 33) S dX10_setSample_33 fl_X10_76 k0 ?_
      refine g_iconst (pc := 36) (v := (0 : Int32)) S dX10_setSample_36 (by decide) ?_
      refine g_lald (pc := 37) S dX10_setSample_37 (kf_10_20 k0) hyp (fun x5 hyp => ?_)
      refine g_lstore_n (pc := 38) (lv' := [(1, .long x5), (0, .ref (ad K c0))]) S dX10_setSample_38 rfl (by decide) rfl ?_
      refine g_iconst (pc := 39) (v := (0 : Int32)) S dX10_setSample_39 (by decide) ?_
      refine g_istore_n (pc := 40) (lv' := [(3, .int (0 : Int32)), (1, .long x5), (0, .ref (ad K c0))]) S dX10_setSample_40 rfl (by decide) rfl ?_
      refine g_bind hyp (fun e14 he14 hyp => ?_)
      refine g_sub [2, 1, 0] rfl (g_loop (f := fun s : Int32 × Hp => s_X10_setSample_l41 c0 x5 s.1 s.2) (ρ := Hp) (Hd := fun s : Int32 × Hp => Go K 41 [(0, .ref (ad K c0)), (1, .long x5), (3, .int s.1)] [] s.2) (Ex := fun e14 => Go K 112 [(0, .ref (ad K c0)), (1, .long x5)] [] e14) (fun s o h1 h2 h3 => o_X10_setSample_l41 S k0 x5 s.1 s.2 h1 h2 h3) FUEL _ e14 he14 ?_)
      refine g_aload_n (pc := 112) 0 S dX10_setSample_112 rfl ?_
      refine g_bind hyp (fun y15 hy15 hyp => ?_)
      refine g_callV (pc := 113) (As := []) (rest := []) S dX10_setSample_113 k0 rfl tw_1067 tw_1068 tw_45 mw_X10_sees (m_X10_sees k0  e14 hy15) rfl rfl (Nat.le_of_ble_eq_true rfl) (Nat.le_of_ble_eq_true rfl) (Nat.le_of_ble_eq_true rfl) ?_
      refine g_aload_n (pc := 116) 0 S dX10_setSample_116 rfl ?_
      refine g_iconst (pc := 117) (v := (1 : Int32)) S dX10_setSample_117 (by decide) ?_
      refine g_lload_n (pc := 118) 1 S dX10_setSample_118 rfl ?_
      refine g_bind hyp (fun y16 hy16 hyp => ?_)
      refine g_callV (pc := 119) (As := [.int (1 : Int32), .long x5]) (rest := []) S dX10_setSample_119 k0 rfl tw_1173 tw_1174 tw_66 mw_X10_setSimplest (m_X10_setSimplest k0 (1 : Int32) x5 y15 hy16) rfl rfl (Nat.le_of_ble_eq_true rfl) (Nat.le_of_ble_eq_true rfl) (Nat.le_of_ble_eq_true rfl) ?_
      exact g_sub [0] rfl (o_X10_setSample_b122 S k0  y16 hyp F)
    · exact g_sub [0] rfl (o_X10_setSample_b122 S k0  y3 hyp F)
theorem m_X10_setSample {l : Launch} {D : va_G} {cT : Nat → ClassId} {aD : Nat → Nat} {c0 : Nat} (k0 : kd c0 (10 + 10, 0))  (h : Hp) {o : Int32 × Hp} (hyp : s_X10_setSample c0  h = some o) : Ok l D cT aD yX10_setSample cX10_setSample 8 (some .boolean) 4 117 [.ref (aD c0)] h (some (.int o.1)) o.2 :=
  Ok.of (by decide +kernel) rfl (Nat.le_of_ble_eq_true rfl) (fun K e1 e2 e3 e4 S F => by subst e1; exact o_X10_setSample S k0  h hyp F)
-- BoundProofsModel sample (I)I
noncomputable def s_X10_sample (c0 : Nat) (a1 : Int32) (h : Hp) : Option (Int32 × Hp) :=
  (s_X10_isVariable c0 a1 h).bind fun y1 =>
  if y1 = 0 then (some ((-1 : Int32), h))
  else ((s_X10_setSample c0  h).bind fun y2 =>
  if y2.1 = 0 then (some ((-2 : Int32), y2.2))
  else (ldJ y2.2 (c0 + 19) 3 a1 fun x3 =>
  ldJ y2.2 (c0 + 20) 3 a1 fun x4 =>
  (s_X10_says c0 x3 x4 (1 : Int32) y2.2).bind fun y5 =>
  some (y5.1, y5.2)))
set_option maxRecDepth 100000 in
set_option maxHeartbeats 4000000 in
theorem o_X10_sample {K : gK} (S : Cx K RX10 cX10_sample 2 5 148) {c0 : Nat} (k0 : kd c0 (10 + 10, 0)) (a1 : Int32) (h : Hp) {o : Int32 × Hp} (hyp : s_X10_sample c0 a1 h = some o) (F : Rt K (some .int) (some (.int o.1)) o.2) : Go K 0 [(0, .ref (ad K c0)), (1, .int a1)] [] h := by
  unfold s_X10_sample at hyp
  refine g_aload_n (pc := 0) 0 S dX10_sample_0 rfl ?_
  refine g_iload_n (pc := 1) 1 S dX10_sample_1 rfl ?_
  refine g_bind hyp (fun y1 hy1 hyp => ?_)
  refine g_callV (pc := 2) (As := [.int a1]) (rest := []) S dX10_sample_2 k0 rfl tw_1017 tw_1018 tw_35 mw_X10_isVariable (m_X10_isVariable k0 a1 h hy1) rfl rfl (Nat.le_of_ble_eq_true rfl) (Nat.le_of_ble_eq_true rfl) (Nat.le_of_ble_eq_true rfl) ?_
  refine g_if_ne (pc := 5) (tgt := 10) S dX10_sample_5 (by decide) hyp (fun hyp => ?_) (fun hyp => ?_)
  · refine g_iconst (pc := 8) (v := (-1 : Int32)) S dX10_sample_8 (by decide) ?_
    have hyp := Option.some.inj hyp
    subst hyp
    exact g_iret (pc := 9) S F dX10_sample_9
  · refine g_aload_n (pc := 10) 0 S dX10_sample_10 rfl ?_
    refine g_bind hyp (fun y2 hy2 hyp => ?_)
    refine g_callV (pc := 11) (As := []) (rest := []) S dX10_sample_11 k0 rfl tw_1170 tw_1171 tw_65 mw_X10_setSample (m_X10_setSample k0  h hy2) rfl rfl (Nat.le_of_ble_eq_true rfl) (Nat.le_of_ble_eq_true rfl) (Nat.le_of_ble_eq_true rfl) ?_
    refine g_if_eq (pc := 14) (tgt := 37) S dX10_sample_14 (by decide) hyp (fun hyp => ?_) (fun hyp => ?_)
    · refine g_bipush (pc := 37) (v := (-2 : Int32)) S dX10_sample_37 (by decide) ?_
      have hyp := Option.some.inj hyp
      subst hyp
      exact g_iret (pc := 39) S F dX10_sample_39
    · refine g_aload_n (pc := 17) 0 S dX10_sample_17 rfl ?_
      refine g_aload_n (pc := 18) 0 S dX10_sample_18 rfl ?_
      refine g_getR (pc := 19) S dX10_sample_19 fl_X10_73 k0 ?_
      refine g_iload_n (pc := 22) 1 S dX10_sample_22 rfl ?_
      refine g_lald (pc := 23) S dX10_sample_23 (kf_10_19 k0) hyp (fun x3 hyp => ?_)
      refine g_aload_n (pc := 24) 0 S dX10_sample_24 rfl ?_
      refine g_getR (pc := 25) S dX10_sample_25 fl_X10_76 k0 ?_
      refine g_iload_n (pc := 28) 1 S dX10_sample_28 rfl ?_
      refine g_lald (pc := 29) S dX10_sample_29 (kf_10_20 k0) hyp (fun x4 hyp => ?_)
      refine g_iconst (pc := 30) (v := (1 : Int32)) S dX10_sample_30 (by decide) ?_
      refine g_bind hyp (fun y5 hy5 hyp => ?_)
      refine g_callV (pc := 31) (As := [.long x3, .long x4, .int (1 : Int32)]) (rest := []) S dX10_sample_31 k0 rfl tw_1125 tw_1126 tw_59 mw_X10_says (m_X10_says k0 x3 x4 (1 : Int32) y2.2 hy5) rfl rfl (Nat.le_of_ble_eq_true rfl) (Nat.le_of_ble_eq_true rfl) (Nat.le_of_ble_eq_true rfl) ?_
      refine g_goto (pc := 34) (tgt := 39) S dX10_sample_34 (by decide) ?_
      have hyp := Option.some.inj hyp
      subst hyp
      exact g_iret (pc := 39) S F dX10_sample_39
theorem m_X10_sample {l : Launch} {D : va_G} {cT : Nat → ClassId} {aD : Nat → Nat} {c0 : Nat} (k0 : kd c0 (10 + 10, 0)) (a1 : Int32) (h : Hp) {o : Int32 × Hp} (hyp : s_X10_sample c0 a1 h = some o) : Ok l D cT aD yX10_sample cX10_sample 2 (some .int) 5 148 [.ref (aD c0), .int a1] h (some (.int o.1)) o.2 :=
  Ok.of (by decide +kernel) rfl (Nat.le_of_ble_eq_true rfl) (fun K e1 e2 e3 e4 S F => by subst e1; exact o_X10_sample S k0 a1 h hyp F)
-- BoundProofsModel value (I)I
noncomputable def s_X10_value_l28 (c0 : Nat) (a1 : Int32) (a2 : Int64) (a4 : Int64) (a6 : Int32) (h : Hp) : Option ((Int64 × Int64 × Int32) ⊕ (Int64 × Int64)) :=
  if a6 < (h.1 c0 0) then (ldJ h (c0 + 20) 3 a6 fun x3 =>
  ldI h (c0 + 1) 24 (((3 : Int32) * a1) + a6) fun x4 =>
  ldJ h (c0 + 19) 3 a6 fun x5 =>
  lt ((a2 * x3) + ((a4 * (x4).toInt64) * x5)) fun v2_6 =>
  ldJ h (c0 + 20) 3 a6 fun x7 =>
  lt (a4 * x7) fun v4_8 =>
  (s_X10_gcd  v2_6 v4_8 h).bind fun y9 =>
  nzJ y9 <|
  lt (v2_6 / y9) fun v2_10 =>
  nzJ y9 <|
  lt (v4_8 / y9) fun v4_11 =>
  lt (a6 + (1 : Int32)) fun v6_12 =>
  some (.inl (v2_10, v4_11, v6_12)))
  else (some (.inr ((a2, a4))))
noncomputable def s_X10_value (c0 : Nat) (a1 : Int32) (h : Hp) : Option (Int32 × Hp) :=
  (s_X10_isForm c0 a1 h).bind fun y1 =>
  if y1 = 0 then (some ((-1 : Int32), h))
  else ((s_X10_setSample c0  h).bind fun y2 =>
  if y2.1 = 0 then (some ((-2 : Int32), y2.2))
  else ((iter (fun s : Int64 × Int64 × Int32 => s_X10_value_l28 c0 a1 s.1 s.2.1 s.2.2 y2.2) FUEL ((0 : Int64), (1 : Int64), (0 : Int32))).bind fun e13 =>
  (s_X10_says c0 e13.1 e13.2 (1 : Int32) y2.2).bind fun y14 =>
  some (y14.1, y14.2)))
set_option maxRecDepth 100000 in
set_option maxHeartbeats 4000000 in
theorem o_X10_value_l28 {K : gK} (S : Cx K RX10 cX10_value 9 5 148) {c0 : Nat} (k0 : kd c0 (10 + 10, 0)) (a1 : Int32) (a2 : Int64) (a4 : Int64) (a6 : Int32) (h : Hp) {o : (Int64 × Int64 × Int32) ⊕ (Int64 × Int64)} (hyp : s_X10_value_l28 c0 a1 a2 a4 a6 h = some o) (hin : ∀ s', o = .inl s' → Go K 28 [(0, .ref (ad K c0)), (1, .int a1), (2, .long s'.1), (4, .long s'.2.1), (6, .int s'.2.2)] [] h) (hex0 : ∀ s', o = .inr (s') → Go K 109 [(0, .ref (ad K c0)), (2, .long s'.1), (4, .long s'.2)] [] h) : Go K 28 [(0, .ref (ad K c0)), (1, .int a1), (2, .long a2), (4, .long a4), (6, .int a6)] [] h := by
  unfold s_X10_value_l28 at hyp
  refine g_iload (pc := 28) 4 S dX10_value_28 rfl ?_
  refine g_aload_n (pc := 30) 0 S dX10_value_30 rfl ?_
  refine g_getI (pc := 31) S dX10_value_31 fl_X10_7 k0 ?_
  refine g_icmp_ge (pc := 34) (tgt := 109) S dX10_value_34 (by decide) hyp (fun hyp => ?_) (fun hyp => ?_)
  · refine g_lload_n (pc := 37) 2 S dX10_value_37 rfl ?_
    refine g_aload_n (pc := 38) 0 S dX10_value_38 rfl ?_
    refine g_getR (pc := 39) S dX10_value_39 fl_X10_76 k0 ?_
    refine g_iload (pc := 42) 4 S dX10_value_42 rfl ?_
    refine g_lald (pc := 44) S dX10_value_44 (kf_10_20 k0) hyp (fun x3 hyp => ?_)
    refine g_lmul (pc := 45) S dX10_value_45 ?_
    refine g_lload (pc := 46) 3 S dX10_value_46 rfl ?_
    refine g_aload_n (pc := 48) 0 S dX10_value_48 rfl ?_
    refine g_getR (pc := 49) S dX10_value_49 fl_X10_13 k0 ?_
    refine g_iconst (pc := 52) (v := (3 : Int32)) S dX10_value_52 (by decide) ?_
    refine g_iload_n (pc := 53) 1 S dX10_value_53 rfl ?_
    refine g_imul (pc := 54) S dX10_value_54 ?_
    refine g_iload (pc := 55) 4 S dX10_value_55 rfl ?_
    refine g_iadd (pc := 57) S dX10_value_57 ?_
    refine g_iald (pc := 58) S dX10_value_58 (kf_10_1 k0) hyp (fun x4 hyp => ?_)
    refine g_i2l (pc := 59) S dX10_value_59 ?_
    refine g_lmul (pc := 60) S dX10_value_60 ?_
    refine g_aload_n (pc := 61) 0 S dX10_value_61 rfl ?_
    refine g_getR (pc := 62) S dX10_value_62 fl_X10_73 k0 ?_
    refine g_iload (pc := 65) 4 S dX10_value_65 rfl ?_
    refine g_lald (pc := 67) S dX10_value_67 (kf_10_19 k0) hyp (fun x5 hyp => ?_)
    refine g_lmul (pc := 68) S dX10_value_68 ?_
    refine g_ladd (pc := 69) S dX10_value_69 ?_
    refine g_lti (C := fun v2_6 => Go K 70 [(0, .ref (ad K c0)), (1, .int a1), (2, .long a2), (4, .long a4), (6, .int a6)] [.long v2_6] h) hyp (fun v2_6 hyp => ?_)
    refine g_lstore_n (pc := 70) (lv' := [(2, .long v2_6), (0, .ref (ad K c0)), (1, .int a1), (4, .long a4), (6, .int a6)]) S dX10_value_70 rfl (by decide) rfl ?_
    refine g_lload (pc := 71) 3 S dX10_value_71 rfl ?_
    refine g_aload_n (pc := 73) 1 S dX10_value_73 rfl ?_
    refine g_getR (pc := 74) S dX10_value_74 fl_X10_76 k0 ?_
    refine g_iload (pc := 77) 4 S dX10_value_77 rfl ?_
    refine g_lald (pc := 79) S dX10_value_79 (kf_10_20 k0) hyp (fun x7 hyp => ?_)
    refine g_lmul (pc := 80) S dX10_value_80 ?_
    refine g_lti (C := fun v4_8 => Go K 81 [(2, .long v2_6), (0, .ref (ad K c0)), (1, .int a1), (4, .long a4), (6, .int a6)] [.long v4_8] h) hyp (fun v4_8 hyp => ?_)
    refine g_lstore (pc := 81) (lv' := [(4, .long v4_8), (2, .long v2_6), (0, .ref (ad K c0)), (1, .int a1), (6, .int a6)]) S dX10_value_81 (by decide) rfl ?_
    refine g_lload_n (pc := 83) 1 S dX10_value_83 rfl ?_
    refine g_lload (pc := 84) 0 S dX10_value_84 rfl ?_
    refine g_bind hyp (fun y9 hy9 hyp => ?_)
    refine g_callS (pc := 86) (As := [.long v2_6, .long v4_8]) (rest := []) S dX10_value_86 tw_1106 tw_1107 mw_X10_gcd (m_X10_gcd  v2_6 v4_8 h hy9) rfl rfl (Nat.le_of_ble_eq_true rfl) (Nat.le_of_ble_eq_true rfl) (Nat.le_of_ble_eq_true rfl) ?_
    refine g_lstore (pc := 89) (lv' := [(7, .long y9), (4, .long v4_8), (2, .long v2_6), (0, .ref (ad K c0)), (1, .int a1), (6, .int a6)]) S dX10_value_89 (by decide) rfl ?_
    refine g_lload_n (pc := 91) 2 S dX10_value_91 rfl ?_
    refine g_lload (pc := 92) 0 S dX10_value_92 rfl ?_
    refine g_nzJ hyp (fun hz hyp => ?_)
    refine g_ldiv (pc := 94) S dX10_value_94 hz ?_
    refine g_lti (C := fun v2_10 => Go K 95 [(7, .long y9), (4, .long v4_8), (2, .long v2_6), (0, .ref (ad K c0)), (1, .int a1), (6, .int a6)] [.long v2_10] h) hyp (fun v2_10 hyp => ?_)
    refine g_lstore_n (pc := 95) (lv' := [(2, .long v2_10), (7, .long y9), (4, .long v4_8), (0, .ref (ad K c0)), (1, .int a1), (6, .int a6)]) S dX10_value_95 rfl (by decide) rfl ?_
    refine g_lload (pc := 96) 2 S dX10_value_96 rfl ?_
    refine g_lload (pc := 98) 1 S dX10_value_98 rfl ?_
    refine g_nzJ hyp (fun hz hyp => ?_)
    refine g_ldiv (pc := 100) S dX10_value_100 hz ?_
    refine g_lti (C := fun v4_11 => Go K 101 [(2, .long v2_10), (7, .long y9), (4, .long v4_8), (0, .ref (ad K c0)), (1, .int a1), (6, .int a6)] [.long v4_11] h) hyp (fun v4_11 hyp => ?_)
    refine g_lstore (pc := 101) (lv' := [(4, .long v4_11), (2, .long v2_10), (7, .long y9), (0, .ref (ad K c0)), (1, .int a1), (6, .int a6)]) S dX10_value_101 (by decide) rfl ?_
    refine g_iinc (pc := 103) (v := (a6 + (1 : Int32))) (lv' := [(6, .int (a6 + (1 : Int32))), (4, .long v4_11), (2, .long v2_10), (7, .long y9), (0, .ref (ad K c0)), (1, .int a1)]) 5 S dX10_value_103 rfl (by rfl) (by decide) rfl ?_
    refine g_lti (C := fun v6_12 => Go K (103 + 3) [(6, .int v6_12), (4, .long v4_11), (2, .long v2_10), (7, .long y9), (0, .ref (ad K c0)), (1, .int a1)] [] h) hyp (fun v6_12 hyp => ?_)
    refine g_goto (pc := 106) (tgt := 28) S dX10_value_106 (by decide) ?_
    have hyp := Option.some.inj hyp
    subst hyp
    exact g_sub [4, 5, 2, 1, 0] rfl (hin (v2_10, v4_11, v6_12) rfl)
  · have hyp := Option.some.inj hyp
    subst hyp
    exact g_sub [0, 2, 3] rfl (hex0 (a2, a4) rfl)
set_option maxRecDepth 100000 in
set_option maxHeartbeats 4000000 in
theorem o_X10_value {K : gK} (S : Cx K RX10 cX10_value 9 5 148) {c0 : Nat} (k0 : kd c0 (10 + 10, 0)) (a1 : Int32) (h : Hp) {o : Int32 × Hp} (hyp : s_X10_value c0 a1 h = some o) (F : Rt K (some .int) (some (.int o.1)) o.2) : Go K 0 [(0, .ref (ad K c0)), (1, .int a1)] [] h := by
  unfold s_X10_value at hyp
  refine g_aload_n (pc := 0) 0 S dX10_value_0 rfl ?_
  refine g_iload_n (pc := 1) 1 S dX10_value_1 rfl ?_
  refine g_bind hyp (fun y1 hy1 hyp => ?_)
  refine g_callV (pc := 2) (As := [.int a1]) (rest := []) S dX10_value_2 k0 rfl tw_1014 tw_1015 tw_34 mw_X10_isForm (m_X10_isForm k0 a1 h hy1) rfl rfl (Nat.le_of_ble_eq_true rfl) (Nat.le_of_ble_eq_true rfl) (Nat.le_of_ble_eq_true rfl) ?_
  refine g_if_ne (pc := 5) (tgt := 10) S dX10_value_5 (by decide) hyp (fun hyp => ?_) (fun hyp => ?_)
  · refine g_iconst (pc := 8) (v := (-1 : Int32)) S dX10_value_8 (by decide) ?_
    have hyp := Option.some.inj hyp
    subst hyp
    exact g_iret (pc := 9) S F dX10_value_9
  · refine g_aload_n (pc := 10) 0 S dX10_value_10 rfl ?_
    refine g_bind hyp (fun y2 hy2 hyp => ?_)
    refine g_callV (pc := 11) (As := []) (rest := []) S dX10_value_11 k0 rfl tw_1170 tw_1171 tw_65 mw_X10_setSample (m_X10_setSample k0  h hy2) rfl rfl (Nat.le_of_ble_eq_true rfl) (Nat.le_of_ble_eq_true rfl) (Nat.le_of_ble_eq_true rfl) ?_
    refine g_if_ne (pc := 14) (tgt := 20) S dX10_value_14 (by decide) hyp (fun hyp => ?_) (fun hyp => ?_)
    · refine g_bipush (pc := 17) (v := (-2 : Int32)) S dX10_value_17 (by decide) ?_
      have hyp := Option.some.inj hyp
      subst hyp
      exact g_iret (pc := 19) S F dX10_value_19
    · refine g_lconst (pc := 20) (v := (0 : Int64)) S dX10_value_20 (by decide) ?_
      refine g_lstore_n (pc := 21) (lv' := [(2, .long (0 : Int64)), (0, .ref (ad K c0)), (1, .int a1)]) S dX10_value_21 rfl (by decide) rfl ?_
      refine g_lconst (pc := 22) (v := (1 : Int64)) S dX10_value_22 (by decide) ?_
      refine g_lstore (pc := 23) (lv' := [(4, .long (1 : Int64)), (2, .long (0 : Int64)), (0, .ref (ad K c0)), (1, .int a1)]) S dX10_value_23 (by decide) rfl ?_
      refine g_iconst (pc := 25) (v := (0 : Int32)) S dX10_value_25 (by decide) ?_
      refine g_istore (pc := 26) (lv' := [(6, .int (0 : Int32)), (4, .long (1 : Int64)), (2, .long (0 : Int64)), (0, .ref (ad K c0)), (1, .int a1)]) S dX10_value_26 (by decide) rfl ?_
      refine g_bind hyp (fun e13 he13 hyp => ?_)
      refine g_sub [3, 4, 2, 1, 0] rfl (g_loop (f := fun s : Int64 × Int64 × Int32 => s_X10_value_l28 c0 a1 s.1 s.2.1 s.2.2 y2.2) (ρ := Int64 × Int64) (Hd := fun s : Int64 × Int64 × Int32 => Go K 28 [(0, .ref (ad K c0)), (1, .int a1), (2, .long s.1), (4, .long s.2.1), (6, .int s.2.2)] [] y2.2) (Ex := fun e13 => Go K 109 [(0, .ref (ad K c0)), (2, .long e13.1), (4, .long e13.2)] [] y2.2) (fun s o h1 h2 h3 => o_X10_value_l28 S k0 a1 s.1 s.2.1 s.2.2 y2.2 h1 h2 h3) FUEL _ e13 he13 ?_)
      refine g_aload_n (pc := 109) 0 S dX10_value_109 rfl ?_
      refine g_lload_n (pc := 110) 1 S dX10_value_110 rfl ?_
      refine g_lload (pc := 111) 2 S dX10_value_111 rfl ?_
      refine g_iconst (pc := 113) (v := (1 : Int32)) S dX10_value_113 (by decide) ?_
      refine g_bind hyp (fun y14 hy14 hyp => ?_)
      refine g_callV (pc := 114) (As := [.long e13.1, .long e13.2, .int (1 : Int32)]) (rest := []) S dX10_value_114 k0 rfl tw_1125 tw_1126 tw_59 mw_X10_says (m_X10_says k0 e13.1 e13.2 (1 : Int32) y2.2 hy14) rfl rfl (Nat.le_of_ble_eq_true rfl) (Nat.le_of_ble_eq_true rfl) (Nat.le_of_ble_eq_true rfl) ?_
      have hyp := Option.some.inj hyp
      subst hyp
      exact g_iret (pc := 117) S F dX10_value_117
theorem m_X10_value {l : Launch} {D : va_G} {cT : Nat → ClassId} {aD : Nat → Nat} {c0 : Nat} (k0 : kd c0 (10 + 10, 0)) (a1 : Int32) (h : Hp) {o : Int32 × Hp} (hyp : s_X10_value c0 a1 h = some o) : Ok l D cT aD yX10_value cX10_value 9 (some .int) 5 148 [.ref (aD c0), .int a1] h (some (.int o.1)) o.2 :=
  Ok.of (by decide +kernel) rfl (Nat.le_of_ble_eq_true rfl) (fun K e1 e2 e3 e4 S F => by subst e1; exact o_X10_value S k0 a1 h hyp F)
-- BoundProofsModel det (JJJJ)J
noncomputable def s_X10_det  (a0 : Int64) (a2 : Int64) (a4 : Int64) (a6 : Int64) (h : Hp) : Option (Int64) :=
  some ((a0 * a6) - (a2 * a4))
set_option maxRecDepth 100000 in
set_option maxHeartbeats 4000000 in
theorem o_X10_det {K : gK} (S : Cx K RX10 cX10_det 8 0 0)  (a0 : Int64) (a2 : Int64) (a4 : Int64) (a6 : Int64) (h : Hp) {o : Int64} (hyp : s_X10_det  a0 a2 a4 a6 h = some o) (F : Rt K (some .long) (some (.long o)) h) : Go K 0 [(0, .long a0), (2, .long a2), (4, .long a4), (6, .long a6)] [] h := by
  unfold s_X10_det at hyp
  refine g_lload_n (pc := 0) 0 S dX10_det_0 rfl ?_
  refine g_lload (pc := 1) 3 S dX10_det_1 rfl ?_
  refine g_lmul (pc := 3) S dX10_det_3 ?_
  refine g_lload_n (pc := 4) 1 S dX10_det_4 rfl ?_
  refine g_lload (pc := 5) 2 S dX10_det_5 rfl ?_
  refine g_lmul (pc := 7) S dX10_det_7 ?_
  refine g_lsub (pc := 8) S dX10_det_8 ?_
  have hyp := Option.some.inj hyp
  subst hyp
  exact g_lret (pc := 9) S F dX10_det_9
theorem m_X10_det {l : Launch} {D : va_G} {cT : Nat → ClassId} {aD : Nat → Nat}  (a0 : Int64) (a2 : Int64) (a4 : Int64) (a6 : Int64) (h : Hp) {o : Int64} (hyp : s_X10_det  a0 a2 a4 a6 h = some o) : Ok l D cT aD yX10_det cX10_det 8 (some .long) 0 0 [.long a0, .long a2, .long a4, .long a6] h (some (.long o)) h :=
  Ok.of (by decide +kernel) rfl (Nat.le_of_ble_eq_true rfl) (fun K e1 e2 e3 e4 S F => by subst e1; exact o_X10_det S  a0 a2 a4 a6 h hyp F)
-- BoundProofsModel twoDet (III)J
noncomputable def s_X10_twoDet_b108 (c0 : Nat) (a4 : Int64) (a6 : Int64) (a8 : Int64) (t0 : Int64) (h : Hp) : Option (Int64) :=
  (s_X10_det  a4 a6 a8 t0 h).bind fun y5 =>
  some y5
noncomputable def s_X10_twoDet_b80 (c0 : Nat) (a2 : Int32) (a3 : Int32) (a4 : Int64) (a6 : Int64) (t0 : Int64) (h : Hp) : Option (Int64) :=
  if a3 = (1 : Int32) then (ldI h (c0 + 2) 30 (((3 : Int32) * a2) + (2 : Int32)) fun x4 =>
  s_X10_twoDet_b108 c0 a4 a6 t0 (x4).toInt64 h)
  else ((s_X10_coefficientOf c0 a2 (1 : Int32) h).bind fun y6 =>
  s_X10_twoDet_b108 c0 a4 a6 t0 (y6).toInt64 h)
noncomputable def s_X10_twoDet_b53 (c0 : Nat) (a2 : Int32) (a3 : Int32) (a4 : Int64) (t0 : Int64) (h : Hp) : Option (Int64) :=
  if a3 = 0 then (ldI h (c0 + 2) 30 (((3 : Int32) * a2) + (2 : Int32)) fun x3 =>
  s_X10_twoDet_b80 c0 a2 a3 a4 t0 (x3).toInt64 h)
  else ((s_X10_coefficientOf c0 a2 (0 : Int32) h).bind fun y7 =>
  s_X10_twoDet_b80 c0 a2 a3 a4 t0 (y7).toInt64 h)
noncomputable def s_X10_twoDet_b25 (c0 : Nat) (a1 : Int32) (a2 : Int32) (a3 : Int32) (t0 : Int64) (h : Hp) : Option (Int64) :=
  if a3 = (1 : Int32) then (ldI h (c0 + 2) 30 (((3 : Int32) * a1) + (2 : Int32)) fun x2 =>
  s_X10_twoDet_b53 c0 a2 a3 t0 (x2).toInt64 h)
  else ((s_X10_coefficientOf c0 a1 (1 : Int32) h).bind fun y8 =>
  s_X10_twoDet_b53 c0 a2 a3 t0 (y8).toInt64 h)
noncomputable def s_X10_twoDet (c0 : Nat) (a1 : Int32) (a2 : Int32) (a3 : Int32) (h : Hp) : Option (Int64) :=
  if a3 = 0 then (ldI h (c0 + 2) 30 (((3 : Int32) * a1) + (2 : Int32)) fun x1 =>
  s_X10_twoDet_b25 c0 a1 a2 a3 (x1).toInt64 h)
  else ((s_X10_coefficientOf c0 a1 (0 : Int32) h).bind fun y9 =>
  s_X10_twoDet_b25 c0 a1 a2 a3 (y9).toInt64 h)
set_option maxRecDepth 100000 in
set_option maxHeartbeats 4000000 in
theorem o_X10_twoDet_b108 {K : gK} (S : Cx K RX10 cX10_twoDet 12 1 31) {c0 : Nat} (k0 : kd c0 (10 + 10, 0)) (a4 : Int64) (a6 : Int64) (a8 : Int64) (t0 : Int64) (h : Hp) {o : Int64} (hyp : s_X10_twoDet_b108 c0 a4 a6 a8 t0 h = some o) (F : Rt K (some .long) (some (.long o)) h) : Go K 108 [(4, .long a4), (6, .long a6), (8, .long a8)] [.long t0] h := by
  unfold s_X10_twoDet_b108 at hyp
  refine g_lstore (pc := 108) (lv' := [(10, .long t0), (4, .long a4), (6, .long a6), (8, .long a8)]) S dX10_twoDet_108 (by decide) rfl ?_
  refine g_lload (pc := 110) 1 S dX10_twoDet_110 rfl ?_
  refine g_lload (pc := 112) 2 S dX10_twoDet_112 rfl ?_
  refine g_lload (pc := 114) 3 S dX10_twoDet_114 rfl ?_
  refine g_lload (pc := 116) 0 S dX10_twoDet_116 rfl ?_
  refine g_bind hyp (fun y5 hy5 hyp => ?_)
  refine g_callS (pc := 118) (As := [.long a4, .long a6, .long a8, .long t0]) (rest := []) S dX10_twoDet_118 tw_1200 tw_1201 mw_X10_det (m_X10_det  a4 a6 a8 t0 h hy5) rfl rfl (Nat.le_of_ble_eq_true rfl) (Nat.le_of_ble_eq_true rfl) (Nat.le_of_ble_eq_true rfl) ?_
  have hyp := Option.some.inj hyp
  subst hyp
  exact g_lret (pc := 121) S F dX10_twoDet_121
set_option maxRecDepth 100000 in
set_option maxHeartbeats 4000000 in
theorem o_X10_twoDet_b80 {K : gK} (S : Cx K RX10 cX10_twoDet 12 1 31) {c0 : Nat} (k0 : kd c0 (10 + 10, 0)) (a2 : Int32) (a3 : Int32) (a4 : Int64) (a6 : Int64) (t0 : Int64) (h : Hp) {o : Int64} (hyp : s_X10_twoDet_b80 c0 a2 a3 a4 a6 t0 h = some o) (F : Rt K (some .long) (some (.long o)) h) : Go K 80 [(0, .ref (ad K c0)), (2, .int a2), (3, .int a3), (4, .long a4), (6, .long a6)] [.long t0] h := by
  unfold s_X10_twoDet_b80 at hyp
  refine g_lstore (pc := 80) (lv' := [(8, .long t0), (0, .ref (ad K c0)), (2, .int a2), (3, .int a3), (4, .long a4), (6, .long a6)]) S dX10_twoDet_80 (by decide) rfl ?_
  refine g_iload_n (pc := 82) 3 S dX10_twoDet_82 rfl ?_
  refine g_iconst (pc := 83) (v := (1 : Int32)) S dX10_twoDet_83 (by decide) ?_
  refine g_icmp_ne (pc := 84) (tgt := 101) S dX10_twoDet_84 (by decide) hyp (fun hyp => ?_) (fun hyp => ?_)
  · refine g_aload_n (pc := 87) 1 S dX10_twoDet_87 rfl ?_
    refine g_getR (pc := 88) S dX10_twoDet_88 fl_X10_17 k0 ?_
    refine g_iconst (pc := 91) (v := (3 : Int32)) S dX10_twoDet_91 (by decide) ?_
    refine g_iload_n (pc := 92) 2 S dX10_twoDet_92 rfl ?_
    refine g_imul (pc := 93) S dX10_twoDet_93 ?_
    refine g_iconst (pc := 94) (v := (2 : Int32)) S dX10_twoDet_94 (by decide) ?_
    refine g_iadd (pc := 95) S dX10_twoDet_95 ?_
    refine g_iald (pc := 96) S dX10_twoDet_96 (kf_10_2 k0) hyp (fun x4 hyp => ?_)
    refine g_i2l (pc := 97) S dX10_twoDet_97 ?_
    refine g_goto (pc := 98) (tgt := 108) S dX10_twoDet_98 (by decide) ?_
    exact g_sub [4, 5, 0] rfl (o_X10_twoDet_b108 S k0 a4 a6 t0 (x4).toInt64 h hyp F)
  · refine g_aload_n (pc := 101) 1 S dX10_twoDet_101 rfl ?_
    refine g_iload_n (pc := 102) 2 S dX10_twoDet_102 rfl ?_
    refine g_iconst (pc := 103) (v := (1 : Int32)) S dX10_twoDet_103 (by decide) ?_
    refine g_bind hyp (fun y6 hy6 hyp => ?_)
    refine g_callV (pc := 104) (As := [.int a2, .int (1 : Int32)]) (rest := []) S dX10_twoDet_104 k0 rfl tw_1058 tw_1059 tw_42 mw_X10_coefficientOf (m_X10_coefficientOf k0 a2 (1 : Int32) h hy6) rfl rfl (Nat.le_of_ble_eq_true rfl) (Nat.le_of_ble_eq_true rfl) (Nat.le_of_ble_eq_true rfl) ?_
    refine g_i2l (pc := 107) S dX10_twoDet_107 ?_
    exact g_sub [4, 5, 0] rfl (o_X10_twoDet_b108 S k0 a4 a6 t0 (y6).toInt64 h hyp F)
set_option maxRecDepth 100000 in
set_option maxHeartbeats 4000000 in
theorem o_X10_twoDet_b53 {K : gK} (S : Cx K RX10 cX10_twoDet 12 1 31) {c0 : Nat} (k0 : kd c0 (10 + 10, 0)) (a2 : Int32) (a3 : Int32) (a4 : Int64) (t0 : Int64) (h : Hp) {o : Int64} (hyp : s_X10_twoDet_b53 c0 a2 a3 a4 t0 h = some o) (F : Rt K (some .long) (some (.long o)) h) : Go K 53 [(0, .ref (ad K c0)), (2, .int a2), (3, .int a3), (4, .long a4)] [.long t0] h := by
  unfold s_X10_twoDet_b53 at hyp
  refine g_lstore (pc := 53) (lv' := [(6, .long t0), (0, .ref (ad K c0)), (2, .int a2), (3, .int a3), (4, .long a4)]) S dX10_twoDet_53 (by decide) rfl ?_
  refine g_iload_n (pc := 55) 3 S dX10_twoDet_55 rfl ?_
  refine g_if_ne (pc := 56) (tgt := 73) S dX10_twoDet_56 (by decide) hyp (fun hyp => ?_) (fun hyp => ?_)
  · refine g_aload_n (pc := 59) 1 S dX10_twoDet_59 rfl ?_
    refine g_getR (pc := 60) S dX10_twoDet_60 fl_X10_17 k0 ?_
    refine g_iconst (pc := 63) (v := (3 : Int32)) S dX10_twoDet_63 (by decide) ?_
    refine g_iload_n (pc := 64) 2 S dX10_twoDet_64 rfl ?_
    refine g_imul (pc := 65) S dX10_twoDet_65 ?_
    refine g_iconst (pc := 66) (v := (2 : Int32)) S dX10_twoDet_66 (by decide) ?_
    refine g_iadd (pc := 67) S dX10_twoDet_67 ?_
    refine g_iald (pc := 68) S dX10_twoDet_68 (kf_10_2 k0) hyp (fun x3 hyp => ?_)
    refine g_i2l (pc := 69) S dX10_twoDet_69 ?_
    refine g_goto (pc := 70) (tgt := 80) S dX10_twoDet_70 (by decide) ?_
    exact g_sub [1, 2, 3, 4, 0] rfl (o_X10_twoDet_b80 S k0 a2 a3 a4 t0 (x3).toInt64 h hyp F)
  · refine g_aload_n (pc := 73) 1 S dX10_twoDet_73 rfl ?_
    refine g_iload_n (pc := 74) 2 S dX10_twoDet_74 rfl ?_
    refine g_iconst (pc := 75) (v := (0 : Int32)) S dX10_twoDet_75 (by decide) ?_
    refine g_bind hyp (fun y7 hy7 hyp => ?_)
    refine g_callV (pc := 76) (As := [.int a2, .int (0 : Int32)]) (rest := []) S dX10_twoDet_76 k0 rfl tw_1058 tw_1059 tw_42 mw_X10_coefficientOf (m_X10_coefficientOf k0 a2 (0 : Int32) h hy7) rfl rfl (Nat.le_of_ble_eq_true rfl) (Nat.le_of_ble_eq_true rfl) (Nat.le_of_ble_eq_true rfl) ?_
    refine g_i2l (pc := 79) S dX10_twoDet_79 ?_
    exact g_sub [1, 2, 3, 4, 0] rfl (o_X10_twoDet_b80 S k0 a2 a3 a4 t0 (y7).toInt64 h hyp F)
set_option maxRecDepth 100000 in
set_option maxHeartbeats 4000000 in
theorem o_X10_twoDet_b25 {K : gK} (S : Cx K RX10 cX10_twoDet 12 1 31) {c0 : Nat} (k0 : kd c0 (10 + 10, 0)) (a1 : Int32) (a2 : Int32) (a3 : Int32) (t0 : Int64) (h : Hp) {o : Int64} (hyp : s_X10_twoDet_b25 c0 a1 a2 a3 t0 h = some o) (F : Rt K (some .long) (some (.long o)) h) : Go K 25 [(0, .ref (ad K c0)), (1, .int a1), (2, .int a2), (3, .int a3)] [.long t0] h := by
  unfold s_X10_twoDet_b25 at hyp
  refine g_lstore (pc := 25) (lv' := [(4, .long t0), (0, .ref (ad K c0)), (1, .int a1), (2, .int a2), (3, .int a3)]) S dX10_twoDet_25 (by decide) rfl ?_
  refine g_iload_n (pc := 27) 4 S dX10_twoDet_27 rfl ?_
  refine g_iconst (pc := 28) (v := (1 : Int32)) S dX10_twoDet_28 (by decide) ?_
  refine g_icmp_ne (pc := 29) (tgt := 46) S dX10_twoDet_29 (by decide) hyp (fun hyp => ?_) (fun hyp => ?_)
  · refine g_aload_n (pc := 32) 1 S dX10_twoDet_32 rfl ?_
    refine g_getR (pc := 33) S dX10_twoDet_33 fl_X10_17 k0 ?_
    refine g_iconst (pc := 36) (v := (3 : Int32)) S dX10_twoDet_36 (by decide) ?_
    refine g_iload_n (pc := 37) 2 S dX10_twoDet_37 rfl ?_
    refine g_imul (pc := 38) S dX10_twoDet_38 ?_
    refine g_iconst (pc := 39) (v := (2 : Int32)) S dX10_twoDet_39 (by decide) ?_
    refine g_iadd (pc := 40) S dX10_twoDet_40 ?_
    refine g_iald (pc := 41) S dX10_twoDet_41 (kf_10_2 k0) hyp (fun x2 hyp => ?_)
    refine g_i2l (pc := 42) S dX10_twoDet_42 ?_
    refine g_goto (pc := 43) (tgt := 53) S dX10_twoDet_43 (by decide) ?_
    exact g_sub [1, 3, 4, 0] rfl (o_X10_twoDet_b53 S k0 a2 a3 t0 (x2).toInt64 h hyp F)
  · refine g_aload_n (pc := 46) 1 S dX10_twoDet_46 rfl ?_
    refine g_iload_n (pc := 47) 2 S dX10_twoDet_47 rfl ?_
    refine g_iconst (pc := 48) (v := (1 : Int32)) S dX10_twoDet_48 (by decide) ?_
    refine g_bind hyp (fun y8 hy8 hyp => ?_)
    refine g_callV (pc := 49) (As := [.int a1, .int (1 : Int32)]) (rest := []) S dX10_twoDet_49 k0 rfl tw_1058 tw_1059 tw_42 mw_X10_coefficientOf (m_X10_coefficientOf k0 a1 (1 : Int32) h hy8) rfl rfl (Nat.le_of_ble_eq_true rfl) (Nat.le_of_ble_eq_true rfl) (Nat.le_of_ble_eq_true rfl) ?_
    refine g_i2l (pc := 52) S dX10_twoDet_52 ?_
    exact g_sub [1, 3, 4, 0] rfl (o_X10_twoDet_b53 S k0 a2 a3 t0 (y8).toInt64 h hyp F)
set_option maxRecDepth 100000 in
set_option maxHeartbeats 4000000 in
theorem o_X10_twoDet {K : gK} (S : Cx K RX10 cX10_twoDet 12 1 31) {c0 : Nat} (k0 : kd c0 (10 + 10, 0)) (a1 : Int32) (a2 : Int32) (a3 : Int32) (h : Hp) {o : Int64} (hyp : s_X10_twoDet c0 a1 a2 a3 h = some o) (F : Rt K (some .long) (some (.long o)) h) : Go K 0 [(0, .ref (ad K c0)), (1, .int a1), (2, .int a2), (3, .int a3)] [] h := by
  unfold s_X10_twoDet at hyp
  refine g_iload_n (pc := 0) 3 S dX10_twoDet_0 rfl ?_
  refine g_if_ne (pc := 1) (tgt := 18) S dX10_twoDet_1 (by decide) hyp (fun hyp => ?_) (fun hyp => ?_)
  · refine g_aload_n (pc := 4) 0 S dX10_twoDet_4 rfl ?_
    refine g_getR (pc := 5) S dX10_twoDet_5 fl_X10_17 k0 ?_
    refine g_iconst (pc := 8) (v := (3 : Int32)) S dX10_twoDet_8 (by decide) ?_
    refine g_iload_n (pc := 9) 1 S dX10_twoDet_9 rfl ?_
    refine g_imul (pc := 10) S dX10_twoDet_10 ?_
    refine g_iconst (pc := 11) (v := (2 : Int32)) S dX10_twoDet_11 (by decide) ?_
    refine g_iadd (pc := 12) S dX10_twoDet_12 ?_
    refine g_iald (pc := 13) S dX10_twoDet_13 (kf_10_2 k0) hyp (fun x1 hyp => ?_)
    refine g_i2l (pc := 14) S dX10_twoDet_14 ?_
    refine g_goto (pc := 15) (tgt := 25) S dX10_twoDet_15 (by decide) ?_
    exact g_sub [0, 1, 2, 3] rfl (o_X10_twoDet_b25 S k0 a1 a2 a3 (x1).toInt64 h hyp F)
  · refine g_aload_n (pc := 18) 0 S dX10_twoDet_18 rfl ?_
    refine g_iload_n (pc := 19) 1 S dX10_twoDet_19 rfl ?_
    refine g_iconst (pc := 20) (v := (0 : Int32)) S dX10_twoDet_20 (by decide) ?_
    refine g_bind hyp (fun y9 hy9 hyp => ?_)
    refine g_callV (pc := 21) (As := [.int a1, .int (0 : Int32)]) (rest := []) S dX10_twoDet_21 k0 rfl tw_1058 tw_1059 tw_42 mw_X10_coefficientOf (m_X10_coefficientOf k0 a1 (0 : Int32) h hy9) rfl rfl (Nat.le_of_ble_eq_true rfl) (Nat.le_of_ble_eq_true rfl) (Nat.le_of_ble_eq_true rfl) ?_
    refine g_i2l (pc := 24) S dX10_twoDet_24 ?_
    exact g_sub [0, 1, 2, 3] rfl (o_X10_twoDet_b25 S k0 a1 a2 a3 (y9).toInt64 h hyp F)
theorem m_X10_twoDet {l : Launch} {D : va_G} {cT : Nat → ClassId} {aD : Nat → Nat} {c0 : Nat} (k0 : kd c0 (10 + 10, 0)) (a1 : Int32) (a2 : Int32) (a3 : Int32) (h : Hp) {o : Int64} (hyp : s_X10_twoDet c0 a1 a2 a3 h = some o) : Ok l D cT aD yX10_twoDet cX10_twoDet 12 (some .long) 1 31 [.ref (aD c0), .int a1, .int a2, .int a3] h (some (.long o)) h :=
  Ok.of (by decide +kernel) rfl (Nat.le_of_ble_eq_true rfl) (fun K e1 e2 e3 e4 S F => by subst e1; exact o_X10_twoDet S k0 a1 a2 a3 h hyp F)
-- BoundProofsModel cell (III)J
noncomputable def s_X10_cell (c0 : Nat) (a1 : Int32) (a2 : Int32) (a3 : Int32) (h : Hp) : Option (Int64) :=
  if a2 = a3 then (ldI h (c0 + 2) 30 (((3 : Int32) * a1) + (2 : Int32)) fun x1 =>
  some (x1).toInt64)
  else ((s_X10_coefficientOf c0 a1 a2 h).bind fun y2 =>
  some (y2).toInt64)
set_option maxRecDepth 100000 in
set_option maxHeartbeats 4000000 in
theorem o_X10_cell {K : gK} (S : Cx K RX10 cX10_cell 4 1 26) {c0 : Nat} (k0 : kd c0 (10 + 10, 0)) (a1 : Int32) (a2 : Int32) (a3 : Int32) (h : Hp) {o : Int64} (hyp : s_X10_cell c0 a1 a2 a3 h = some o) (F : Rt K (some .long) (some (.long o)) h) : Go K 0 [(0, .ref (ad K c0)), (1, .int a1), (2, .int a2), (3, .int a3)] [] h := by
  unfold s_X10_cell at hyp
  refine g_iload_n (pc := 0) 2 S dX10_cell_0 rfl ?_
  refine g_iload_n (pc := 1) 3 S dX10_cell_1 rfl ?_
  refine g_icmp_ne (pc := 2) (tgt := 19) S dX10_cell_2 (by decide) hyp (fun hyp => ?_) (fun hyp => ?_)
  · refine g_aload_n (pc := 5) 0 S dX10_cell_5 rfl ?_
    refine g_getR (pc := 6) S dX10_cell_6 fl_X10_17 k0 ?_
    refine g_iconst (pc := 9) (v := (3 : Int32)) S dX10_cell_9 (by decide) ?_
    refine g_iload_n (pc := 10) 1 S dX10_cell_10 rfl ?_
    refine g_imul (pc := 11) S dX10_cell_11 ?_
    refine g_iconst (pc := 12) (v := (2 : Int32)) S dX10_cell_12 (by decide) ?_
    refine g_iadd (pc := 13) S dX10_cell_13 ?_
    refine g_iald (pc := 14) S dX10_cell_14 (kf_10_2 k0) hyp (fun x1 hyp => ?_)
    refine g_i2l (pc := 15) S dX10_cell_15 ?_
    refine g_goto (pc := 16) (tgt := 26) S dX10_cell_16 (by decide) ?_
    have hyp := Option.some.inj hyp
    subst hyp
    exact g_lret (pc := 26) S F dX10_cell_26
  · refine g_aload_n (pc := 19) 0 S dX10_cell_19 rfl ?_
    refine g_iload_n (pc := 20) 1 S dX10_cell_20 rfl ?_
    refine g_iload_n (pc := 21) 2 S dX10_cell_21 rfl ?_
    refine g_bind hyp (fun y2 hy2 hyp => ?_)
    refine g_callV (pc := 22) (As := [.int a1, .int a2]) (rest := []) S dX10_cell_22 k0 rfl tw_1058 tw_1059 tw_42 mw_X10_coefficientOf (m_X10_coefficientOf k0 a1 a2 h hy2) rfl rfl (Nat.le_of_ble_eq_true rfl) (Nat.le_of_ble_eq_true rfl) (Nat.le_of_ble_eq_true rfl) ?_
    refine g_i2l (pc := 25) S dX10_cell_25 ?_
    have hyp := Option.some.inj hyp
    subst hyp
    exact g_lret (pc := 26) S F dX10_cell_26
theorem m_X10_cell {l : Launch} {D : va_G} {cT : Nat → ClassId} {aD : Nat → Nat} {c0 : Nat} (k0 : kd c0 (10 + 10, 0)) (a1 : Int32) (a2 : Int32) (a3 : Int32) (h : Hp) {o : Int64} (hyp : s_X10_cell c0 a1 a2 a3 h = some o) : Ok l D cT aD yX10_cell cX10_cell 4 (some .long) 1 26 [.ref (aD c0), .int a1, .int a2, .int a3] h (some (.long o)) h :=
  Ok.of (by decide +kernel) rfl (Nat.le_of_ble_eq_true rfl) (fun K e1 e2 e3 e4 S F => by subst e1; exact o_X10_cell S k0 a1 a2 a3 h hyp F)
-- BoundProofsModel threeDet (IIII)J
noncomputable def s_X10_threeDet (c0 : Nat) (a1 : Int32) (a2 : Int32) (a3 : Int32) (a4 : Int32) (h : Hp) : Option (Int64) :=
  (s_X10_cell c0 a2 (1 : Int32) a4 h).bind fun y1 =>
  (s_X10_cell c0 a2 (2 : Int32) a4 h).bind fun y2 =>
  (s_X10_cell c0 a3 (1 : Int32) a4 h).bind fun y3 =>
  (s_X10_cell c0 a3 (2 : Int32) a4 h).bind fun y4 =>
  (s_X10_det  y1 y2 y3 y4 h).bind fun y5 =>
  (s_X10_cell c0 a2 (0 : Int32) a4 h).bind fun y6 =>
  (s_X10_cell c0 a2 (2 : Int32) a4 h).bind fun y7 =>
  (s_X10_cell c0 a3 (0 : Int32) a4 h).bind fun y8 =>
  (s_X10_cell c0 a3 (2 : Int32) a4 h).bind fun y9 =>
  (s_X10_det  y6 y7 y8 y9 h).bind fun y10 =>
  (s_X10_cell c0 a2 (0 : Int32) a4 h).bind fun y11 =>
  (s_X10_cell c0 a2 (1 : Int32) a4 h).bind fun y12 =>
  (s_X10_cell c0 a3 (0 : Int32) a4 h).bind fun y13 =>
  (s_X10_cell c0 a3 (1 : Int32) a4 h).bind fun y14 =>
  (s_X10_det  y11 y12 y13 y14 h).bind fun y15 =>
  (s_X10_cell c0 a1 (0 : Int32) a4 h).bind fun y16 =>
  (s_X10_cell c0 a1 (1 : Int32) a4 h).bind fun y17 =>
  (s_X10_cell c0 a1 (2 : Int32) a4 h).bind fun y18 =>
  some (((y16 * y5) - (y17 * y10)) + (y18 * y15))
set_option maxRecDepth 100000 in
set_option maxHeartbeats 4000000 in
theorem o_X10_threeDet {K : gK} (S : Cx K RX10 cX10_threeDet 11 2 53) {c0 : Nat} (k0 : kd c0 (10 + 10, 0)) (a1 : Int32) (a2 : Int32) (a3 : Int32) (a4 : Int32) (h : Hp) {o : Int64} (hyp : s_X10_threeDet c0 a1 a2 a3 a4 h = some o) (F : Rt K (some .long) (some (.long o)) h) : Go K 0 [(0, .ref (ad K c0)), (1, .int a1), (2, .int a2), (3, .int a3), (4, .int a4)] [] h := by
  unfold s_X10_threeDet at hyp
  refine g_aload_n (pc := 0) 0 S dX10_threeDet_0 rfl ?_
  refine g_iload_n (pc := 1) 2 S dX10_threeDet_1 rfl ?_
  refine g_iconst (pc := 2) (v := (1 : Int32)) S dX10_threeDet_2 (by decide) ?_
  refine g_iload (pc := 3) 4 S dX10_threeDet_3 rfl ?_
  refine g_bind hyp (fun y1 hy1 hyp => ?_)
  refine g_callV (pc := 5) (As := [.int a2, .int (1 : Int32), .int a4]) (rest := []) S dX10_threeDet_5 k0 rfl tw_1206 tw_1207 tw_72 mw_X10_cell (m_X10_cell k0 a2 (1 : Int32) a4 h hy1) rfl rfl (Nat.le_of_ble_eq_true rfl) (Nat.le_of_ble_eq_true rfl) (Nat.le_of_ble_eq_true rfl) ?_
  refine g_aload_n (pc := 8) 0 S dX10_threeDet_8 rfl ?_
  refine g_iload_n (pc := 9) 2 S dX10_threeDet_9 rfl ?_
  refine g_iconst (pc := 10) (v := (2 : Int32)) S dX10_threeDet_10 (by decide) ?_
  refine g_iload (pc := 11) 4 S dX10_threeDet_11 rfl ?_
  refine g_bind hyp (fun y2 hy2 hyp => ?_)
  refine g_callV (pc := 13) (As := [.int a2, .int (2 : Int32), .int a4]) (rest := [.long y1]) S dX10_threeDet_13 k0 rfl tw_1206 tw_1207 tw_72 mw_X10_cell (m_X10_cell k0 a2 (2 : Int32) a4 h hy2) rfl rfl (Nat.le_of_ble_eq_true rfl) (Nat.le_of_ble_eq_true rfl) (Nat.le_of_ble_eq_true rfl) ?_
  refine g_aload_n (pc := 16) 0 S dX10_threeDet_16 rfl ?_
  refine g_iload_n (pc := 17) 3 S dX10_threeDet_17 rfl ?_
  refine g_iconst (pc := 18) (v := (1 : Int32)) S dX10_threeDet_18 (by decide) ?_
  refine g_iload (pc := 19) 4 S dX10_threeDet_19 rfl ?_
  refine g_bind hyp (fun y3 hy3 hyp => ?_)
  refine g_callV (pc := 21) (As := [.int a3, .int (1 : Int32), .int a4]) (rest := [.long y2, .long y1]) S dX10_threeDet_21 k0 rfl tw_1206 tw_1207 tw_72 mw_X10_cell (m_X10_cell k0 a3 (1 : Int32) a4 h hy3) rfl rfl (Nat.le_of_ble_eq_true rfl) (Nat.le_of_ble_eq_true rfl) (Nat.le_of_ble_eq_true rfl) ?_
  refine g_aload_n (pc := 24) 0 S dX10_threeDet_24 rfl ?_
  refine g_iload_n (pc := 25) 3 S dX10_threeDet_25 rfl ?_
  refine g_iconst (pc := 26) (v := (2 : Int32)) S dX10_threeDet_26 (by decide) ?_
  refine g_iload (pc := 27) 4 S dX10_threeDet_27 rfl ?_
  refine g_bind hyp (fun y4 hy4 hyp => ?_)
  refine g_callV (pc := 29) (As := [.int a3, .int (2 : Int32), .int a4]) (rest := [.long y3, .long y2, .long y1]) S dX10_threeDet_29 k0 rfl tw_1206 tw_1207 tw_72 mw_X10_cell (m_X10_cell k0 a3 (2 : Int32) a4 h hy4) rfl rfl (Nat.le_of_ble_eq_true rfl) (Nat.le_of_ble_eq_true rfl) (Nat.le_of_ble_eq_true rfl) ?_
  refine g_bind hyp (fun y5 hy5 hyp => ?_)
  refine g_callS (pc := 32) (As := [.long y1, .long y2, .long y3, .long y4]) (rest := []) S dX10_threeDet_32 tw_1200 tw_1201 mw_X10_det (m_X10_det  y1 y2 y3 y4 h hy5) rfl rfl (Nat.le_of_ble_eq_true rfl) (Nat.le_of_ble_eq_true rfl) (Nat.le_of_ble_eq_true rfl) ?_
  refine g_lstore (pc := 35) (lv' := [(5, .long y5), (0, .ref (ad K c0)), (1, .int a1), (2, .int a2), (3, .int a3), (4, .int a4)]) S dX10_threeDet_35 (by decide) rfl ?_
  refine g_aload_n (pc := 37) 1 S dX10_threeDet_37 rfl ?_
  refine g_iload_n (pc := 38) 3 S dX10_threeDet_38 rfl ?_
  refine g_iconst (pc := 39) (v := (0 : Int32)) S dX10_threeDet_39 (by decide) ?_
  refine g_iload (pc := 40) 5 S dX10_threeDet_40 rfl ?_
  refine g_bind hyp (fun y6 hy6 hyp => ?_)
  refine g_callV (pc := 42) (As := [.int a2, .int (0 : Int32), .int a4]) (rest := []) S dX10_threeDet_42 k0 rfl tw_1206 tw_1207 tw_72 mw_X10_cell (m_X10_cell k0 a2 (0 : Int32) a4 h hy6) rfl rfl (Nat.le_of_ble_eq_true rfl) (Nat.le_of_ble_eq_true rfl) (Nat.le_of_ble_eq_true rfl) ?_
  refine g_aload_n (pc := 45) 1 S dX10_threeDet_45 rfl ?_
  refine g_iload_n (pc := 46) 3 S dX10_threeDet_46 rfl ?_
  refine g_iconst (pc := 47) (v := (2 : Int32)) S dX10_threeDet_47 (by decide) ?_
  refine g_iload (pc := 48) 5 S dX10_threeDet_48 rfl ?_
  refine g_bind hyp (fun y7 hy7 hyp => ?_)
  refine g_callV (pc := 50) (As := [.int a2, .int (2 : Int32), .int a4]) (rest := [.long y6]) S dX10_threeDet_50 k0 rfl tw_1206 tw_1207 tw_72 mw_X10_cell (m_X10_cell k0 a2 (2 : Int32) a4 h hy7) rfl rfl (Nat.le_of_ble_eq_true rfl) (Nat.le_of_ble_eq_true rfl) (Nat.le_of_ble_eq_true rfl) ?_
  refine g_aload_n (pc := 53) 1 S dX10_threeDet_53 rfl ?_
  refine g_iload_n (pc := 54) 4 S dX10_threeDet_54 rfl ?_
  refine g_iconst (pc := 55) (v := (0 : Int32)) S dX10_threeDet_55 (by decide) ?_
  refine g_iload (pc := 56) 5 S dX10_threeDet_56 rfl ?_
  refine g_bind hyp (fun y8 hy8 hyp => ?_)
  refine g_callV (pc := 58) (As := [.int a3, .int (0 : Int32), .int a4]) (rest := [.long y7, .long y6]) S dX10_threeDet_58 k0 rfl tw_1206 tw_1207 tw_72 mw_X10_cell (m_X10_cell k0 a3 (0 : Int32) a4 h hy8) rfl rfl (Nat.le_of_ble_eq_true rfl) (Nat.le_of_ble_eq_true rfl) (Nat.le_of_ble_eq_true rfl) ?_
  refine g_aload_n (pc := 61) 1 S dX10_threeDet_61 rfl ?_
  refine g_iload_n (pc := 62) 4 S dX10_threeDet_62 rfl ?_
  refine g_iconst (pc := 63) (v := (2 : Int32)) S dX10_threeDet_63 (by decide) ?_
  refine g_iload (pc := 64) 5 S dX10_threeDet_64 rfl ?_
  refine g_bind hyp (fun y9 hy9 hyp => ?_)
  refine g_callV (pc := 66) (As := [.int a3, .int (2 : Int32), .int a4]) (rest := [.long y8, .long y7, .long y6]) S dX10_threeDet_66 k0 rfl tw_1206 tw_1207 tw_72 mw_X10_cell (m_X10_cell k0 a3 (2 : Int32) a4 h hy9) rfl rfl (Nat.le_of_ble_eq_true rfl) (Nat.le_of_ble_eq_true rfl) (Nat.le_of_ble_eq_true rfl) ?_
  refine g_bind hyp (fun y10 hy10 hyp => ?_)
  refine g_callS (pc := 69) (As := [.long y6, .long y7, .long y8, .long y9]) (rest := []) S dX10_threeDet_69 tw_1200 tw_1201 mw_X10_det (m_X10_det  y6 y7 y8 y9 h hy10) rfl rfl (Nat.le_of_ble_eq_true rfl) (Nat.le_of_ble_eq_true rfl) (Nat.le_of_ble_eq_true rfl) ?_
  refine g_lstore (pc := 72) (lv' := [(7, .long y10), (5, .long y5), (0, .ref (ad K c0)), (1, .int a1), (2, .int a2), (3, .int a3), (4, .int a4)]) S dX10_threeDet_72 (by decide) rfl ?_
  refine g_aload_n (pc := 74) 2 S dX10_threeDet_74 rfl ?_
  refine g_iload_n (pc := 75) 4 S dX10_threeDet_75 rfl ?_
  refine g_iconst (pc := 76) (v := (0 : Int32)) S dX10_threeDet_76 (by decide) ?_
  refine g_iload (pc := 77) 6 S dX10_threeDet_77 rfl ?_
  refine g_bind hyp (fun y11 hy11 hyp => ?_)
  refine g_callV (pc := 79) (As := [.int a2, .int (0 : Int32), .int a4]) (rest := []) S dX10_threeDet_79 k0 rfl tw_1206 tw_1207 tw_72 mw_X10_cell (m_X10_cell k0 a2 (0 : Int32) a4 h hy11) rfl rfl (Nat.le_of_ble_eq_true rfl) (Nat.le_of_ble_eq_true rfl) (Nat.le_of_ble_eq_true rfl) ?_
  refine g_aload_n (pc := 82) 2 S dX10_threeDet_82 rfl ?_
  refine g_iload_n (pc := 83) 4 S dX10_threeDet_83 rfl ?_
  refine g_iconst (pc := 84) (v := (1 : Int32)) S dX10_threeDet_84 (by decide) ?_
  refine g_iload (pc := 85) 6 S dX10_threeDet_85 rfl ?_
  refine g_bind hyp (fun y12 hy12 hyp => ?_)
  refine g_callV (pc := 87) (As := [.int a2, .int (1 : Int32), .int a4]) (rest := [.long y11]) S dX10_threeDet_87 k0 rfl tw_1206 tw_1207 tw_72 mw_X10_cell (m_X10_cell k0 a2 (1 : Int32) a4 h hy12) rfl rfl (Nat.le_of_ble_eq_true rfl) (Nat.le_of_ble_eq_true rfl) (Nat.le_of_ble_eq_true rfl) ?_
  refine g_aload_n (pc := 90) 2 S dX10_threeDet_90 rfl ?_
  refine g_iload_n (pc := 91) 5 S dX10_threeDet_91 rfl ?_
  refine g_iconst (pc := 92) (v := (0 : Int32)) S dX10_threeDet_92 (by decide) ?_
  refine g_iload (pc := 93) 6 S dX10_threeDet_93 rfl ?_
  refine g_bind hyp (fun y13 hy13 hyp => ?_)
  refine g_callV (pc := 95) (As := [.int a3, .int (0 : Int32), .int a4]) (rest := [.long y12, .long y11]) S dX10_threeDet_95 k0 rfl tw_1206 tw_1207 tw_72 mw_X10_cell (m_X10_cell k0 a3 (0 : Int32) a4 h hy13) rfl rfl (Nat.le_of_ble_eq_true rfl) (Nat.le_of_ble_eq_true rfl) (Nat.le_of_ble_eq_true rfl) ?_
  refine g_aload_n (pc := 98) 2 S dX10_threeDet_98 rfl ?_
  refine g_iload_n (pc := 99) 5 S dX10_threeDet_99 rfl ?_
  refine g_iconst (pc := 100) (v := (1 : Int32)) S dX10_threeDet_100 (by decide) ?_
  refine g_iload (pc := 101) 6 S dX10_threeDet_101 rfl ?_
  refine g_bind hyp (fun y14 hy14 hyp => ?_)
  refine g_callV (pc := 103) (As := [.int a3, .int (1 : Int32), .int a4]) (rest := [.long y13, .long y12, .long y11]) S dX10_threeDet_103 k0 rfl tw_1206 tw_1207 tw_72 mw_X10_cell (m_X10_cell k0 a3 (1 : Int32) a4 h hy14) rfl rfl (Nat.le_of_ble_eq_true rfl) (Nat.le_of_ble_eq_true rfl) (Nat.le_of_ble_eq_true rfl) ?_
  refine g_bind hyp (fun y15 hy15 hyp => ?_)
  refine g_callS (pc := 106) (As := [.long y11, .long y12, .long y13, .long y14]) (rest := []) S dX10_threeDet_106 tw_1200 tw_1201 mw_X10_det (m_X10_det  y11 y12 y13 y14 h hy15) rfl rfl (Nat.le_of_ble_eq_true rfl) (Nat.le_of_ble_eq_true rfl) (Nat.le_of_ble_eq_true rfl) ?_
  refine g_lstore (pc := 109) (lv' := [(9, .long y15), (7, .long y10), (5, .long y5), (0, .ref (ad K c0)), (1, .int a1), (2, .int a2), (3, .int a3), (4, .int a4)]) S dX10_threeDet_109 (by decide) rfl ?_
  refine g_aload_n (pc := 111) 3 S dX10_threeDet_111 rfl ?_
  refine g_iload_n (pc := 112) 4 S dX10_threeDet_112 rfl ?_
  refine g_iconst (pc := 113) (v := (0 : Int32)) S dX10_threeDet_113 (by decide) ?_
  refine g_iload (pc := 114) 7 S dX10_threeDet_114 rfl ?_
  refine g_bind hyp (fun y16 hy16 hyp => ?_)
  refine g_callV (pc := 116) (As := [.int a1, .int (0 : Int32), .int a4]) (rest := []) S dX10_threeDet_116 k0 rfl tw_1206 tw_1207 tw_72 mw_X10_cell (m_X10_cell k0 a1 (0 : Int32) a4 h hy16) rfl rfl (Nat.le_of_ble_eq_true rfl) (Nat.le_of_ble_eq_true rfl) (Nat.le_of_ble_eq_true rfl) ?_
  refine g_lload (pc := 119) 2 S dX10_threeDet_119 rfl ?_
  refine g_lmul (pc := 121) S dX10_threeDet_121 ?_
  refine g_aload_n (pc := 122) 3 S dX10_threeDet_122 rfl ?_
  refine g_iload_n (pc := 123) 4 S dX10_threeDet_123 rfl ?_
  refine g_iconst (pc := 124) (v := (1 : Int32)) S dX10_threeDet_124 (by decide) ?_
  refine g_iload (pc := 125) 7 S dX10_threeDet_125 rfl ?_
  refine g_bind hyp (fun y17 hy17 hyp => ?_)
  refine g_callV (pc := 127) (As := [.int a1, .int (1 : Int32), .int a4]) (rest := [.long (y16 * y5)]) S dX10_threeDet_127 k0 rfl tw_1206 tw_1207 tw_72 mw_X10_cell (m_X10_cell k0 a1 (1 : Int32) a4 h hy17) rfl rfl (Nat.le_of_ble_eq_true rfl) (Nat.le_of_ble_eq_true rfl) (Nat.le_of_ble_eq_true rfl) ?_
  refine g_lload (pc := 130) 1 S dX10_threeDet_130 rfl ?_
  refine g_lmul (pc := 132) S dX10_threeDet_132 ?_
  refine g_lsub (pc := 133) S dX10_threeDet_133 ?_
  refine g_aload_n (pc := 134) 3 S dX10_threeDet_134 rfl ?_
  refine g_iload_n (pc := 135) 4 S dX10_threeDet_135 rfl ?_
  refine g_iconst (pc := 136) (v := (2 : Int32)) S dX10_threeDet_136 (by decide) ?_
  refine g_iload (pc := 137) 7 S dX10_threeDet_137 rfl ?_
  refine g_bind hyp (fun y18 hy18 hyp => ?_)
  refine g_callV (pc := 139) (As := [.int a1, .int (2 : Int32), .int a4]) (rest := [.long ((y16 * y5) - (y17 * y10))]) S dX10_threeDet_139 k0 rfl tw_1206 tw_1207 tw_72 mw_X10_cell (m_X10_cell k0 a1 (2 : Int32) a4 h hy18) rfl rfl (Nat.le_of_ble_eq_true rfl) (Nat.le_of_ble_eq_true rfl) (Nat.le_of_ble_eq_true rfl) ?_
  refine g_lload (pc := 142) 0 S dX10_threeDet_142 rfl ?_
  refine g_lmul (pc := 144) S dX10_threeDet_144 ?_
  refine g_ladd (pc := 145) S dX10_threeDet_145 ?_
  have hyp := Option.some.inj hyp
  subst hyp
  exact g_lret (pc := 146) S F dX10_threeDet_146
theorem m_X10_threeDet {l : Launch} {D : va_G} {cT : Nat → ClassId} {aD : Nat → Nat} {c0 : Nat} (k0 : kd c0 (10 + 10, 0)) (a1 : Int32) (a2 : Int32) (a3 : Int32) (a4 : Int32) (h : Hp) {o : Int64} (hyp : s_X10_threeDet c0 a1 a2 a3 a4 h = some o) : Ok l D cT aD yX10_threeDet cX10_threeDet 11 (some .long) 2 53 [.ref (aD c0), .int a1, .int a2, .int a3, .int a4] h (some (.long o)) h :=
  Ok.of (by decide +kernel) rfl (Nat.le_of_ble_eq_true rfl) (fun K e1 e2 e3 e4 S F => by subst e1; exact o_X10_threeDet S k0 a1 a2 a3 a4 h hyp F)
