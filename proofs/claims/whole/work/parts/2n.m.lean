-- BoundProofsModel seesForm (II)V
noncomputable def s_X10_seesForm_b223 (c0 : Nat) (a1 : Int32) (a2 : Int32) (a3 : Int32) (a4 : Int32) (a5 : Int32) (a7 : Int32) (a8 : Int32) (a9 : Int32) (h : Hp) : Option ((Int32 × Hp) ⊕ (Hp)) :=
  lt (a9 + (1 : Int32)) fun v9_17 =>
  some (.inl (v9_17, h))
noncomputable def s_X10_seesForm_l96 (c0 : Nat) (a1 : Int32) (a2 : Int32) (a3 : Int32) (a4 : Int32) (a5 : Int32) (a7 : Int32) (a8 : Int32) (a9 : Int32) (h : Hp) : Option ((Int32 × Hp) ⊕ (Hp)) :=
  if a9 < (h.1 c0 3) then (if ((a1 >>> (a9 &&& 31)) &&& (1 : Int32)) = (1 : Int32) then ((s_X10_coefficientOf c0 a9 a3 h).bind fun y6 =>
  lt (a7 * y6) fun v10_7 =>
  (s_X10_coefficientOf c0 a9 a4 h).bind fun y8 =>
  ldI h (c0 + 1) 24 (((3 : Int32) * a2) + a4) fun x9 =>
  lt ((a8 * y8) - (v10_7 * x9)) fun v11_10 =>
  (s_X10_coefficientOf c0 a9 a5 h).bind fun y11 =>
  ldI h (c0 + 1) 24 (((3 : Int32) * a2) + a5) fun x12 =>
  lt ((a8 * y11) - (v10_7 * x12)) fun v12_13 =>
  ldI h (c0 + 2) 30 (((3 : Int32) * a9) + (1 : Int32)) fun x14 =>
  ldI h (c0 + 2) 30 (((3 : Int32) * a9) + (2 : Int32)) fun x15 =>
  (s_X10_comesBySort c0 x14 (v10_7).toInt64 (v11_10).toInt64 (v12_13).toInt64 ((a8).toInt64 * (x15).toInt64) h).bind fun y16 =>
  s_X10_seesForm_b223 c0 a1 a2 a3 a4 a5 a7 a8 a9 y16)
  else (s_X10_seesForm_b223 c0 a1 a2 a3 a4 a5 a7 a8 a9 h))
  else (some (.inr (h)))
noncomputable def s_X10_seesForm_b79 (c0 : Nat) (a1 : Int32) (a2 : Int32) (a3 : Int32) (a4 : Int32) (a5 : Int32) (a6 : Int32) (t0 : Int32) (h : Hp) : Option (Hp) :=
  lt (t0 * a6) fun v8_4 =>
  lt (sI h c0 9 (0 : Int32)) fun h5 =>
  (iter (fun s : Int32 × Hp => s_X10_seesForm_l96 c0 a1 a2 a3 a4 a5 t0 v8_4 s.1 s.2) FUEL ((0 : Int32), h5)).bind fun e18 =>
  (s_X10_sees c0  e18).bind fun y19 =>
  some y19
noncomputable def s_X10_seesForm_b55 (c0 : Nat) (a1 : Int32) (a2 : Int32) (a3 : Int32) (a4 : Int32) (t0 : Int32) (h : Hp) : Option (Hp) :=
  ldI h (c0 + 1) 24 (((3 : Int32) * a2) + a3) fun x3 =>
  if x3 < 0 then (s_X10_seesForm_b79 c0 a1 a2 a3 a4 t0 x3 (-1 : Int32) h)
  else (s_X10_seesForm_b79 c0 a1 a2 a3 a4 t0 x3 (1 : Int32) h)
noncomputable def s_X10_seesForm_b43 (c0 : Nat) (a1 : Int32) (a2 : Int32) (a3 : Int32) (t0 : Int32) (h : Hp) : Option (Hp) :=
  if a3 = (2 : Int32) then (s_X10_seesForm_b55 c0 a1 a2 a3 t0 (1 : Int32) h)
  else (s_X10_seesForm_b55 c0 a1 a2 a3 t0 (2 : Int32) h)
noncomputable def s_X10_seesForm_b33 (c0 : Nat) (a1 : Int32) (a2 : Int32) (t0 : Int32) (h : Hp) : Option (Hp) :=
  if t0 = 0 then (s_X10_seesForm_b43 c0 a1 a2 t0 (1 : Int32) h)
  else (s_X10_seesForm_b43 c0 a1 a2 t0 (0 : Int32) h)
noncomputable def s_X10_seesForm (c0 : Nat) (a1 : Int32) (a2 : Int32) (h : Hp) : Option (Hp) :=
  ldI h (c0 + 1) 24 ((3 : Int32) * a2) fun x1 =>
  if x1 = 0 then (ldI h (c0 + 1) 24 (((3 : Int32) * a2) + (1 : Int32)) fun x2 =>
  if x2 = 0 then (s_X10_seesForm_b33 c0 a1 a2 (2 : Int32) h)
  else (s_X10_seesForm_b33 c0 a1 a2 (1 : Int32) h))
  else (s_X10_seesForm_b33 c0 a1 a2 (0 : Int32) h)
set_option maxRecDepth 100000 in
set_option maxHeartbeats 4000000 in
theorem o_X10_seesForm_b223 {K : gK} (S : Cx K RX10 cX10_seesForm 13 3 91) {c0 : Nat} (k0 : kd c0 (10 + 10, 0)) (a1 : Int32) (a2 : Int32) (a3 : Int32) (a4 : Int32) (a5 : Int32) (a7 : Int32) (a8 : Int32) (a9 : Int32) (h : Hp) {o : (Int32 × Hp) ⊕ (Hp)} (hyp : s_X10_seesForm_b223 c0 a1 a2 a3 a4 a5 a7 a8 a9 h = some o) (hin : ∀ s', o = .inl s' → Go K 96 [(0, .ref (ad K c0)), (1, .int a1), (2, .int a2), (3, .int a3), (4, .int a4), (5, .int a5), (7, .int a7), (8, .int a8), (9, .int s'.1)] [] s'.2) (hex0 : ∀ s', o = .inr (s') → Go K 229 [(0, .ref (ad K c0))] [] s') : Go K 223 [(0, .ref (ad K c0)), (1, .int a1), (2, .int a2), (3, .int a3), (4, .int a4), (5, .int a5), (7, .int a7), (8, .int a8), (9, .int a9)] [] h := by
  unfold s_X10_seesForm_b223 at hyp
  refine g_iinc (pc := 223) (v := (a9 + (1 : Int32))) (lv' := [(9, .int (a9 + (1 : Int32))), (0, .ref (ad K c0)), (1, .int a1), (2, .int a2), (3, .int a3), (4, .int a4), (5, .int a5), (7, .int a7), (8, .int a8)]) 8 S dX10_seesForm_223 rfl (by rfl) (by decide) rfl ?_
  refine g_lti (C := fun v9_17 => Go K (223 + 3) [(9, .int v9_17), (0, .ref (ad K c0)), (1, .int a1), (2, .int a2), (3, .int a3), (4, .int a4), (5, .int a5), (7, .int a7), (8, .int a8)] [] h) hyp (fun v9_17 hyp => ?_)
  refine g_goto (pc := 226) (tgt := 96) S dX10_seesForm_226 (by decide) ?_
  have hyp := Option.some.inj hyp
  subst hyp
  exact g_sub [1, 2, 3, 4, 5, 6, 7, 8, 0] rfl (hin (v9_17, h) rfl)
set_option maxRecDepth 100000 in
set_option maxHeartbeats 4000000 in
theorem o_X10_seesForm_l96 {K : gK} (S : Cx K RX10 cX10_seesForm 13 3 91) {c0 : Nat} (k0 : kd c0 (10 + 10, 0)) (a1 : Int32) (a2 : Int32) (a3 : Int32) (a4 : Int32) (a5 : Int32) (a7 : Int32) (a8 : Int32) (a9 : Int32) (h : Hp) {o : (Int32 × Hp) ⊕ (Hp)} (hyp : s_X10_seesForm_l96 c0 a1 a2 a3 a4 a5 a7 a8 a9 h = some o) (hin : ∀ s', o = .inl s' → Go K 96 [(0, .ref (ad K c0)), (1, .int a1), (2, .int a2), (3, .int a3), (4, .int a4), (5, .int a5), (7, .int a7), (8, .int a8), (9, .int s'.1)] [] s'.2) (hex0 : ∀ s', o = .inr (s') → Go K 229 [(0, .ref (ad K c0))] [] s') : Go K 96 [(0, .ref (ad K c0)), (1, .int a1), (2, .int a2), (3, .int a3), (4, .int a4), (5, .int a5), (7, .int a7), (8, .int a8), (9, .int a9)] [] h := by
  unfold s_X10_seesForm_l96 at hyp
  refine g_iload (pc := 96) 8 S dX10_seesForm_96 rfl ?_
  refine g_aload_n (pc := 98) 0 S dX10_seesForm_98 rfl ?_
  refine g_getI (pc := 99) S dX10_seesForm_99 fl_X10_97 k0 ?_
  refine g_icmp_ge (pc := 102) (tgt := 229) S dX10_seesForm_102 (by decide) hyp (fun hyp => ?_) (fun hyp => ?_)
  · refine g_iload_n (pc := 105) 1 S dX10_seesForm_105 rfl ?_
    refine g_iload (pc := 106) 8 S dX10_seesForm_106 rfl ?_
    refine g_ishr (pc := 108) S dX10_seesForm_108 ?_
    refine g_iconst (pc := 109) (v := (1 : Int32)) S dX10_seesForm_109 (by decide) ?_
    refine g_iand (pc := 110) S dX10_seesForm_110 ?_
    refine g_iconst (pc := 111) (v := (1 : Int32)) S dX10_seesForm_111 (by decide) ?_
    refine g_icmp_ne (pc := 112) (tgt := 223) S dX10_seesForm_112 (by decide) hyp (fun hyp => ?_) (fun hyp => ?_)
    · refine g_iload (pc := 115) 6 S dX10_seesForm_115 rfl ?_
      refine g_aload_n (pc := 117) 0 S dX10_seesForm_117 rfl ?_
      refine g_iload (pc := 118) 8 S dX10_seesForm_118 rfl ?_
      refine g_iload_n (pc := 120) 3 S dX10_seesForm_120 rfl ?_
      refine g_bind hyp (fun y6 hy6 hyp => ?_)
      refine g_callV (pc := 121) (As := [.int a9, .int a3]) (rest := [.int a7]) S dX10_seesForm_121 k0 rfl tw_1058 tw_1059 tw_42 mw_X10_coefficientOf (m_X10_coefficientOf k0 a9 a3 h hy6) rfl rfl (Nat.le_of_ble_eq_true rfl) (Nat.le_of_ble_eq_true rfl) (Nat.le_of_ble_eq_true rfl) ?_
      refine g_imul (pc := 124) S dX10_seesForm_124 ?_
      refine g_lti (C := fun v10_7 => Go K 125 [(0, .ref (ad K c0)), (1, .int a1), (2, .int a2), (3, .int a3), (4, .int a4), (5, .int a5), (7, .int a7), (8, .int a8), (9, .int a9)] [.int v10_7] h) hyp (fun v10_7 hyp => ?_)
      refine g_istore (pc := 125) (lv' := [(10, .int v10_7), (0, .ref (ad K c0)), (1, .int a1), (2, .int a2), (3, .int a3), (4, .int a4), (5, .int a5), (7, .int a7), (8, .int a8), (9, .int a9)]) S dX10_seesForm_125 (by decide) rfl ?_
      refine g_iload (pc := 127) 8 S dX10_seesForm_127 rfl ?_
      refine g_aload_n (pc := 129) 1 S dX10_seesForm_129 rfl ?_
      refine g_iload (pc := 130) 9 S dX10_seesForm_130 rfl ?_
      refine g_iload (pc := 132) 5 S dX10_seesForm_132 rfl ?_
      refine g_bind hyp (fun y8 hy8 hyp => ?_)
      refine g_callV (pc := 134) (As := [.int a9, .int a4]) (rest := [.int a8]) S dX10_seesForm_134 k0 rfl tw_1058 tw_1059 tw_42 mw_X10_coefficientOf (m_X10_coefficientOf k0 a9 a4 h hy8) rfl rfl (Nat.le_of_ble_eq_true rfl) (Nat.le_of_ble_eq_true rfl) (Nat.le_of_ble_eq_true rfl) ?_
      refine g_imul (pc := 137) S dX10_seesForm_137 ?_
      refine g_iload (pc := 138) 0 S dX10_seesForm_138 rfl ?_
      refine g_aload_n (pc := 140) 1 S dX10_seesForm_140 rfl ?_
      refine g_getR (pc := 141) S dX10_seesForm_141 fl_X10_13 k0 ?_
      refine g_iconst (pc := 144) (v := (3 : Int32)) S dX10_seesForm_144 (by decide) ?_
      refine g_iload_n (pc := 145) 3 S dX10_seesForm_145 rfl ?_
      refine g_imul (pc := 146) S dX10_seesForm_146 ?_
      refine g_iload (pc := 147) 5 S dX10_seesForm_147 rfl ?_
      refine g_iadd (pc := 149) S dX10_seesForm_149 ?_
      refine g_iald (pc := 150) S dX10_seesForm_150 (kf_10_1 k0) hyp (fun x9 hyp => ?_)
      refine g_imul (pc := 151) S dX10_seesForm_151 ?_
      refine g_isub (pc := 152) S dX10_seesForm_152 ?_
      refine g_lti (C := fun v11_10 => Go K 153 [(10, .int v10_7), (0, .ref (ad K c0)), (1, .int a1), (2, .int a2), (3, .int a3), (4, .int a4), (5, .int a5), (7, .int a7), (8, .int a8), (9, .int a9)] [.int v11_10] h) hyp (fun v11_10 hyp => ?_)
      refine g_istore (pc := 153) (lv' := [(11, .int v11_10), (10, .int v10_7), (0, .ref (ad K c0)), (1, .int a1), (2, .int a2), (3, .int a3), (4, .int a4), (5, .int a5), (7, .int a7), (8, .int a8), (9, .int a9)]) S dX10_seesForm_153 (by decide) rfl ?_
      refine g_iload (pc := 155) 9 S dX10_seesForm_155 rfl ?_
      refine g_aload_n (pc := 157) 2 S dX10_seesForm_157 rfl ?_
      refine g_iload (pc := 158) 10 S dX10_seesForm_158 rfl ?_
      refine g_iload (pc := 160) 7 S dX10_seesForm_160 rfl ?_
      refine g_bind hyp (fun y11 hy11 hyp => ?_)
      refine g_callV (pc := 162) (As := [.int a9, .int a5]) (rest := [.int a8]) S dX10_seesForm_162 k0 rfl tw_1058 tw_1059 tw_42 mw_X10_coefficientOf (m_X10_coefficientOf k0 a9 a5 h hy11) rfl rfl (Nat.le_of_ble_eq_true rfl) (Nat.le_of_ble_eq_true rfl) (Nat.le_of_ble_eq_true rfl) ?_
      refine g_imul (pc := 165) S dX10_seesForm_165 ?_
      refine g_iload (pc := 166) 1 S dX10_seesForm_166 rfl ?_
      refine g_aload_n (pc := 168) 2 S dX10_seesForm_168 rfl ?_
      refine g_getR (pc := 169) S dX10_seesForm_169 fl_X10_13 k0 ?_
      refine g_iconst (pc := 172) (v := (3 : Int32)) S dX10_seesForm_172 (by decide) ?_
      refine g_iload_n (pc := 173) 4 S dX10_seesForm_173 rfl ?_
      refine g_imul (pc := 174) S dX10_seesForm_174 ?_
      refine g_iload (pc := 175) 7 S dX10_seesForm_175 rfl ?_
      refine g_iadd (pc := 177) S dX10_seesForm_177 ?_
      refine g_iald (pc := 178) S dX10_seesForm_178 (kf_10_1 k0) hyp (fun x12 hyp => ?_)
      refine g_imul (pc := 179) S dX10_seesForm_179 ?_
      refine g_isub (pc := 180) S dX10_seesForm_180 ?_
      refine g_lti (C := fun v12_13 => Go K 181 [(11, .int v11_10), (10, .int v10_7), (0, .ref (ad K c0)), (1, .int a1), (2, .int a2), (3, .int a3), (4, .int a4), (5, .int a5), (7, .int a7), (8, .int a8), (9, .int a9)] [.int v12_13] h) hyp (fun v12_13 hyp => ?_)
      refine g_istore (pc := 181) (lv' := [(12, .int v12_13), (11, .int v11_10), (10, .int v10_7), (0, .ref (ad K c0)), (1, .int a1), (2, .int a2), (3, .int a3), (4, .int a4), (5, .int a5), (7, .int a7), (8, .int a8), (9, .int a9)]) S dX10_seesForm_181 (by decide) rfl ?_
      refine g_aload_n (pc := 183) 3 S dX10_seesForm_183 rfl ?_
      refine g_aload_n (pc := 184) 3 S dX10_seesForm_184 rfl ?_
      refine g_getR (pc := 185) S dX10_seesForm_185 fl_X10_17 k0 ?_
      refine g_iconst (pc := 188) (v := (3 : Int32)) S dX10_seesForm_188 (by decide) ?_
      refine g_iload (pc := 189) 11 S dX10_seesForm_189 rfl ?_
      refine g_imul (pc := 191) S dX10_seesForm_191 ?_
      refine g_iconst (pc := 192) (v := (1 : Int32)) S dX10_seesForm_192 (by decide) ?_
      refine g_iadd (pc := 193) S dX10_seesForm_193 ?_
      refine g_iald (pc := 194) S dX10_seesForm_194 (kf_10_2 k0) hyp (fun x14 hyp => ?_)
      refine g_iload (pc := 195) 2 S dX10_seesForm_195 rfl ?_
      refine g_i2l (pc := 197) S dX10_seesForm_197 ?_
      refine g_iload (pc := 198) 1 S dX10_seesForm_198 rfl ?_
      refine g_i2l (pc := 200) S dX10_seesForm_200 ?_
      refine g_iload (pc := 201) 0 S dX10_seesForm_201 rfl ?_
      refine g_i2l (pc := 203) S dX10_seesForm_203 ?_
      refine g_iload (pc := 204) 10 S dX10_seesForm_204 rfl ?_
      refine g_i2l (pc := 206) S dX10_seesForm_206 ?_
      refine g_aload_n (pc := 207) 3 S dX10_seesForm_207 rfl ?_
      refine g_getR (pc := 208) S dX10_seesForm_208 fl_X10_17 k0 ?_
      refine g_iconst (pc := 211) (v := (3 : Int32)) S dX10_seesForm_211 (by decide) ?_
      refine g_iload (pc := 212) 11 S dX10_seesForm_212 rfl ?_
      refine g_imul (pc := 214) S dX10_seesForm_214 ?_
      refine g_iconst (pc := 215) (v := (2 : Int32)) S dX10_seesForm_215 (by decide) ?_
      refine g_iadd (pc := 216) S dX10_seesForm_216 ?_
      refine g_iald (pc := 217) S dX10_seesForm_217 (kf_10_2 k0) hyp (fun x15 hyp => ?_)
      refine g_i2l (pc := 218) S dX10_seesForm_218 ?_
      refine g_lmul (pc := 219) S dX10_seesForm_219 ?_
      refine g_bind hyp (fun y16 hy16 hyp => ?_)
      refine g_callV (pc := 220) (As := [.int x14, .long (v10_7).toInt64, .long (v11_10).toInt64, .long (v12_13).toInt64, .long ((a8).toInt64 * (x15).toInt64)]) (rest := []) S dX10_seesForm_220 k0 rfl tw_1061 tw_1062 tw_43 mw_X10_comesBySort (m_X10_comesBySort k0 x14 (v10_7).toInt64 (v11_10).toInt64 (v12_13).toInt64 ((a8).toInt64 * (x15).toInt64) h hy16) rfl rfl (Nat.le_of_ble_eq_true rfl) (Nat.le_of_ble_eq_true rfl) (Nat.le_of_ble_eq_true rfl) ?_
      exact g_sub [3, 4, 5, 6, 7, 8, 9, 10, 11] rfl (o_X10_seesForm_b223 S k0 a1 a2 a3 a4 a5 a7 a8 a9 y16 hyp hin hex0)
    · exact g_sub [0, 1, 2, 3, 4, 5, 6, 7, 8] rfl (o_X10_seesForm_b223 S k0 a1 a2 a3 a4 a5 a7 a8 a9 h hyp hin hex0)
  · have hyp := Option.some.inj hyp
    subst hyp
    exact g_sub [0] rfl (hex0 h rfl)
set_option maxRecDepth 100000 in
set_option maxHeartbeats 4000000 in
theorem o_X10_seesForm_b79 {K : gK} (S : Cx K RX10 cX10_seesForm 13 3 91) {c0 : Nat} (k0 : kd c0 (10 + 10, 0)) (a1 : Int32) (a2 : Int32) (a3 : Int32) (a4 : Int32) (a5 : Int32) (a6 : Int32) (t0 : Int32) (h : Hp) {o : Hp} (hyp : s_X10_seesForm_b79 c0 a1 a2 a3 a4 a5 a6 t0 h = some o) (F : Rt K none none o) : Go K 79 [(0, .ref (ad K c0)), (1, .int a1), (2, .int a2), (3, .int a3), (4, .int a4), (5, .int a5), (6, .int a6)] [.int t0] h := by
  unfold s_X10_seesForm_b79 at hyp
  refine g_istore (pc := 79) (lv' := [(7, .int t0), (0, .ref (ad K c0)), (1, .int a1), (2, .int a2), (3, .int a3), (4, .int a4), (5, .int a5), (6, .int a6)]) S dX10_seesForm_79 (by decide) rfl ?_
  refine g_iload (pc := 81) 0 S dX10_seesForm_81 rfl ?_
  refine g_iload (pc := 83) 7 S dX10_seesForm_83 rfl ?_
  refine g_imul (pc := 85) S dX10_seesForm_85 ?_
  refine g_lti (C := fun v8_4 => Go K 86 [(7, .int t0), (0, .ref (ad K c0)), (1, .int a1), (2, .int a2), (3, .int a3), (4, .int a4), (5, .int a5), (6, .int a6)] [.int v8_4] h) hyp (fun v8_4 hyp => ?_)
  refine g_istore (pc := 86) (lv' := [(8, .int v8_4), (7, .int t0), (0, .ref (ad K c0)), (1, .int a1), (2, .int a2), (3, .int a3), (4, .int a4), (5, .int a5), (6, .int a6)]) S dX10_seesForm_86 (by decide) rfl ?_
  refine g_aload_n (pc := 88) 2 S dX10_seesForm_88 rfl ?_
  refine g_iconst (pc := 89) (v := (0 : Int32)) S dX10_seesForm_89 (by decide) ?_
  refine g_putI (pc := 90) S dX10_seesForm_90 fl_X10_135 k0 hyp (fun h5 hyp => ?_)
  refine g_iconst (pc := 93) (v := (0 : Int32)) S dX10_seesForm_93 (by decide) ?_
  refine g_istore (pc := 94) (lv' := [(9, .int (0 : Int32)), (8, .int v8_4), (7, .int t0), (0, .ref (ad K c0)), (1, .int a1), (2, .int a2), (3, .int a3), (4, .int a4), (5, .int a5), (6, .int a6)]) S dX10_seesForm_94 (by decide) rfl ?_
  refine g_bind hyp (fun e18 he18 hyp => ?_)
  refine g_sub [3, 4, 5, 6, 7, 8, 2, 1, 0] rfl (g_loop (f := fun s : Int32 × Hp => s_X10_seesForm_l96 c0 a1 a2 a3 a4 a5 t0 v8_4 s.1 s.2) (ρ := Hp) (Hd := fun s : Int32 × Hp => Go K 96 [(0, .ref (ad K c0)), (1, .int a1), (2, .int a2), (3, .int a3), (4, .int a4), (5, .int a5), (7, .int t0), (8, .int v8_4), (9, .int s.1)] [] s.2) (Ex := fun e18 => Go K 229 [(0, .ref (ad K c0))] [] e18) (fun s o h1 h2 h3 => o_X10_seesForm_l96 S k0 a1 a2 a3 a4 a5 t0 v8_4 s.1 s.2 h1 h2 h3) FUEL _ e18 he18 ?_)
  refine g_aload_n (pc := 229) 0 S dX10_seesForm_229 rfl ?_
  refine g_bind hyp (fun y19 hy19 hyp => ?_)
  refine g_callV (pc := 230) (As := []) (rest := []) S dX10_seesForm_230 k0 rfl tw_1067 tw_1068 tw_45 mw_X10_sees (m_X10_sees k0  e18 hy19) rfl rfl (Nat.le_of_ble_eq_true rfl) (Nat.le_of_ble_eq_true rfl) (Nat.le_of_ble_eq_true rfl) ?_
  have hyp := Option.some.inj hyp
  subst hyp
  exact g_vret (pc := 233) S F dX10_seesForm_233
set_option maxRecDepth 100000 in
set_option maxHeartbeats 4000000 in
theorem o_X10_seesForm_b55 {K : gK} (S : Cx K RX10 cX10_seesForm 13 3 91) {c0 : Nat} (k0 : kd c0 (10 + 10, 0)) (a1 : Int32) (a2 : Int32) (a3 : Int32) (a4 : Int32) (t0 : Int32) (h : Hp) {o : Hp} (hyp : s_X10_seesForm_b55 c0 a1 a2 a3 a4 t0 h = some o) (F : Rt K none none o) : Go K 55 [(0, .ref (ad K c0)), (1, .int a1), (2, .int a2), (3, .int a3), (4, .int a4)] [.int t0] h := by
  unfold s_X10_seesForm_b55 at hyp
  refine g_istore (pc := 55) (lv' := [(5, .int t0), (0, .ref (ad K c0)), (1, .int a1), (2, .int a2), (3, .int a3), (4, .int a4)]) S dX10_seesForm_55 (by decide) rfl ?_
  refine g_aload_n (pc := 57) 1 S dX10_seesForm_57 rfl ?_
  refine g_getR (pc := 58) S dX10_seesForm_58 fl_X10_13 k0 ?_
  refine g_iconst (pc := 61) (v := (3 : Int32)) S dX10_seesForm_61 (by decide) ?_
  refine g_iload_n (pc := 62) 3 S dX10_seesForm_62 rfl ?_
  refine g_imul (pc := 63) S dX10_seesForm_63 ?_
  refine g_iload_n (pc := 64) 4 S dX10_seesForm_64 rfl ?_
  refine g_iadd (pc := 65) S dX10_seesForm_65 ?_
  refine g_iald (pc := 66) S dX10_seesForm_66 (kf_10_1 k0) hyp (fun x3 hyp => ?_)
  refine g_istore (pc := 67) (lv' := [(6, .int x3), (5, .int t0), (0, .ref (ad K c0)), (1, .int a1), (2, .int a2), (3, .int a3), (4, .int a4)]) S dX10_seesForm_67 (by decide) rfl ?_
  refine g_iload (pc := 69) 0 S dX10_seesForm_69 rfl ?_
  refine g_if_ge (pc := 71) (tgt := 78) S dX10_seesForm_71 (by decide) hyp (fun hyp => ?_) (fun hyp => ?_)
  · refine g_iconst (pc := 74) (v := (-1 : Int32)) S dX10_seesForm_74 (by decide) ?_
    refine g_goto (pc := 75) (tgt := 79) S dX10_seesForm_75 (by decide) ?_
    exact g_sub [2, 3, 4, 5, 6, 1, 0] rfl (o_X10_seesForm_b79 S k0 a1 a2 a3 a4 t0 x3 (-1 : Int32) h hyp F)
  · refine g_iconst (pc := 78) (v := (1 : Int32)) S dX10_seesForm_78 (by decide) ?_
    exact g_sub [2, 3, 4, 5, 6, 1, 0] rfl (o_X10_seesForm_b79 S k0 a1 a2 a3 a4 t0 x3 (1 : Int32) h hyp F)
set_option maxRecDepth 100000 in
set_option maxHeartbeats 4000000 in
theorem o_X10_seesForm_b43 {K : gK} (S : Cx K RX10 cX10_seesForm 13 3 91) {c0 : Nat} (k0 : kd c0 (10 + 10, 0)) (a1 : Int32) (a2 : Int32) (a3 : Int32) (t0 : Int32) (h : Hp) {o : Hp} (hyp : s_X10_seesForm_b43 c0 a1 a2 a3 t0 h = some o) (F : Rt K none none o) : Go K 43 [(0, .ref (ad K c0)), (1, .int a1), (2, .int a2), (3, .int a3)] [.int t0] h := by
  unfold s_X10_seesForm_b43 at hyp
  refine g_istore (pc := 43) (lv' := [(4, .int t0), (0, .ref (ad K c0)), (1, .int a1), (2, .int a2), (3, .int a3)]) S dX10_seesForm_43 (by decide) rfl ?_
  refine g_iload_n (pc := 45) 4 S dX10_seesForm_45 rfl ?_
  refine g_iconst (pc := 46) (v := (2 : Int32)) S dX10_seesForm_46 (by decide) ?_
  refine g_icmp_ne (pc := 47) (tgt := 54) S dX10_seesForm_47 (by decide) hyp (fun hyp => ?_) (fun hyp => ?_)
  · refine g_iconst (pc := 50) (v := (1 : Int32)) S dX10_seesForm_50 (by decide) ?_
    refine g_goto (pc := 51) (tgt := 55) S dX10_seesForm_51 (by decide) ?_
    exact g_sub [1, 2, 3, 4, 0] rfl (o_X10_seesForm_b55 S k0 a1 a2 a3 t0 (1 : Int32) h hyp F)
  · refine g_iconst (pc := 54) (v := (2 : Int32)) S dX10_seesForm_54 (by decide) ?_
    exact g_sub [1, 2, 3, 4, 0] rfl (o_X10_seesForm_b55 S k0 a1 a2 a3 t0 (2 : Int32) h hyp F)
set_option maxRecDepth 100000 in
set_option maxHeartbeats 4000000 in
theorem o_X10_seesForm_b33 {K : gK} (S : Cx K RX10 cX10_seesForm 13 3 91) {c0 : Nat} (k0 : kd c0 (10 + 10, 0)) (a1 : Int32) (a2 : Int32) (t0 : Int32) (h : Hp) {o : Hp} (hyp : s_X10_seesForm_b33 c0 a1 a2 t0 h = some o) (F : Rt K none none o) : Go K 33 [(0, .ref (ad K c0)), (1, .int a1), (2, .int a2)] [.int t0] h := by
  unfold s_X10_seesForm_b33 at hyp
  refine g_istore_n (pc := 33) (lv' := [(3, .int t0), (0, .ref (ad K c0)), (1, .int a1), (2, .int a2)]) S dX10_seesForm_33 rfl (by decide) rfl ?_
  refine g_iload_n (pc := 34) 0 S dX10_seesForm_34 rfl ?_
  refine g_if_ne (pc := 35) (tgt := 42) S dX10_seesForm_35 (by decide) hyp (fun hyp => ?_) (fun hyp => ?_)
  · refine g_iconst (pc := 38) (v := (1 : Int32)) S dX10_seesForm_38 (by decide) ?_
    refine g_goto (pc := 39) (tgt := 43) S dX10_seesForm_39 (by decide) ?_
    exact g_sub [1, 2, 3, 0] rfl (o_X10_seesForm_b43 S k0 a1 a2 t0 (1 : Int32) h hyp F)
  · refine g_iconst (pc := 42) (v := (0 : Int32)) S dX10_seesForm_42 (by decide) ?_
    exact g_sub [1, 2, 3, 0] rfl (o_X10_seesForm_b43 S k0 a1 a2 t0 (0 : Int32) h hyp F)
set_option maxRecDepth 100000 in
set_option maxHeartbeats 4000000 in
theorem o_X10_seesForm {K : gK} (S : Cx K RX10 cX10_seesForm 13 3 91) {c0 : Nat} (k0 : kd c0 (10 + 10, 0)) (a1 : Int32) (a2 : Int32) (h : Hp) {o : Hp} (hyp : s_X10_seesForm c0 a1 a2 h = some o) (F : Rt K none none o) : Go K 0 [(0, .ref (ad K c0)), (1, .int a1), (2, .int a2)] [] h := by
  unfold s_X10_seesForm at hyp
  refine g_aload_n (pc := 0) 0 S dX10_seesForm_0 rfl ?_
  refine g_getR (pc := 1) S dX10_seesForm_1 fl_X10_13 k0 ?_
  refine g_iconst (pc := 4) (v := (3 : Int32)) S dX10_seesForm_4 (by decide) ?_
  refine g_iload_n (pc := 5) 2 S dX10_seesForm_5 rfl ?_
  refine g_imul (pc := 6) S dX10_seesForm_6 ?_
  refine g_iald (pc := 7) S dX10_seesForm_7 (kf_10_1 k0) hyp (fun x1 hyp => ?_)
  refine g_if_eq (pc := 8) (tgt := 15) S dX10_seesForm_8 (by decide) hyp (fun hyp => ?_) (fun hyp => ?_)
  · refine g_aload_n (pc := 15) 0 S dX10_seesForm_15 rfl ?_
    refine g_getR (pc := 16) S dX10_seesForm_16 fl_X10_13 k0 ?_
    refine g_iconst (pc := 19) (v := (3 : Int32)) S dX10_seesForm_19 (by decide) ?_
    refine g_iload_n (pc := 20) 2 S dX10_seesForm_20 rfl ?_
    refine g_imul (pc := 21) S dX10_seesForm_21 ?_
    refine g_iconst (pc := 22) (v := (1 : Int32)) S dX10_seesForm_22 (by decide) ?_
    refine g_iadd (pc := 23) S dX10_seesForm_23 ?_
    refine g_iald (pc := 24) S dX10_seesForm_24 (kf_10_1 k0) hyp (fun x2 hyp => ?_)
    refine g_if_eq (pc := 25) (tgt := 32) S dX10_seesForm_25 (by decide) hyp (fun hyp => ?_) (fun hyp => ?_)
    · refine g_iconst (pc := 32) (v := (2 : Int32)) S dX10_seesForm_32 (by decide) ?_
      exact g_sub [0, 1, 2] rfl (o_X10_seesForm_b33 S k0 a1 a2 (2 : Int32) h hyp F)
    · refine g_iconst (pc := 28) (v := (1 : Int32)) S dX10_seesForm_28 (by decide) ?_
      refine g_goto (pc := 29) (tgt := 33) S dX10_seesForm_29 (by decide) ?_
      exact g_sub [0, 1, 2] rfl (o_X10_seesForm_b33 S k0 a1 a2 (1 : Int32) h hyp F)
  · refine g_iconst (pc := 11) (v := (0 : Int32)) S dX10_seesForm_11 (by decide) ?_
    refine g_goto (pc := 12) (tgt := 33) S dX10_seesForm_12 (by decide) ?_
    exact g_sub [0, 1, 2] rfl (o_X10_seesForm_b33 S k0 a1 a2 (0 : Int32) h hyp F)
theorem m_X10_seesForm {l : Launch} {D : va_G} {cT : Nat → ClassId} {aD : Nat → Nat} {c0 : Nat} (k0 : kd c0 (10 + 10, 0)) (a1 : Int32) (a2 : Int32) (h : Hp) {o : Hp} (hyp : s_X10_seesForm c0 a1 a2 h = some o) : Ok l D cT aD yX10_seesForm cX10_seesForm 13 none 3 91 [.ref (aD c0), .int a1, .int a2] h none o :=
  Ok.of (by decide +kernel) rfl (Nat.le_of_ble_eq_true rfl) (fun K e1 e2 e3 e4 S F => by subst e1; exact o_X10_seesForm S k0 a1 a2 h hyp F)
-- BoundProofsModel coreOf ()I
noncomputable def s_X10_coreOf_b51 (c0 : Nat) (a2 : Int32) (t0 : Int32) (h : Hp) : Option ((Int32 × Int32 × Hp) ⊕ (Int32 × Hp)) :=
  lt (a2 + (-1 : Int32)) fun v2_5 =>
  some (.inl (t0, v2_5, h))
noncomputable def s_X10_coreOf_l22 (c0 : Nat) (a1 : Int32) (a2 : Int32) (h : Hp) : Option ((Int32 × Int32 × Hp) ⊕ (Int32 × Hp)) :=
  if a2 < 0 then (some (.inr ((a1, h))))
  else ((s_X10_canBe c0 (a1 &&& (((1 : Int32) <<< (a2 &&& 31)) ^^^ (-1 : Int32))) h).bind fun y4 =>
  if y4.1 = 0 then (s_X10_coreOf_b51 c0 a2 (a1 &&& (((1 : Int32) <<< (a2 &&& 31)) ^^^ (-1 : Int32))) y4.2)
  else (s_X10_coreOf_b51 c0 a2 a1 y4.2))
noncomputable def s_X10_coreOf (c0 : Nat)  (h : Hp) : Option (Int32 × Hp) :=
  (s_X10_allBounds c0  h).bind fun y1 =>
  (s_X10_canBe c0 y1 h).bind fun y2 =>
  if y2.1 = 0 then (lt ((y2.2.1 c0 3) - (1 : Int32)) fun v2_3 =>
  (iter (fun s : Int32 × Int32 × Hp => s_X10_coreOf_l22 c0 s.1 s.2.1 s.2.2) FUEL (y1, v2_3, y2.2)).bind fun e6 =>
  some (e6.1, e6.2))
  else (some ((0 : Int32), y2.2))
set_option maxRecDepth 100000 in
set_option maxHeartbeats 4000000 in
theorem o_X10_coreOf_b51 {K : gK} (S : Cx K RX10 cX10_coreOf 3 4 117) {c0 : Nat} (k0 : kd c0 (10 + 10, 0)) (a2 : Int32) (t0 : Int32) (h : Hp) {o : (Int32 × Int32 × Hp) ⊕ (Int32 × Hp)} (hyp : s_X10_coreOf_b51 c0 a2 t0 h = some o) (hin : ∀ s', o = .inl s' → Go K 22 [(0, .ref (ad K c0)), (1, .int s'.1), (2, .int s'.2.1)] [] s'.2.2) (hex0 : ∀ s', o = .inr (s') → Go K 58 [(1, .int s'.1)] [] s'.2) : Go K 51 [(0, .ref (ad K c0)), (2, .int a2)] [.int t0] h := by
  unfold s_X10_coreOf_b51 at hyp
  refine g_istore_n (pc := 51) (lv' := [(1, .int t0), (0, .ref (ad K c0)), (2, .int a2)]) S dX10_coreOf_51 rfl (by decide) rfl ?_
  refine g_iinc (pc := 52) (v := (a2 + (-1 : Int32))) (lv' := [(2, .int (a2 + (-1 : Int32))), (1, .int t0), (0, .ref (ad K c0))]) 2 S dX10_coreOf_52 rfl (by rfl) (by decide) rfl ?_
  refine g_lti (C := fun v2_5 => Go K (52 + 3) [(2, .int v2_5), (1, .int t0), (0, .ref (ad K c0))] [] h) hyp (fun v2_5 hyp => ?_)
  refine g_goto (pc := 55) (tgt := 22) S dX10_coreOf_55 (by decide) ?_
  have hyp := Option.some.inj hyp
  subst hyp
  exact g_sub [2, 1, 0] rfl (hin (t0, v2_5, h) rfl)
set_option maxRecDepth 100000 in
set_option maxHeartbeats 4000000 in
theorem o_X10_coreOf_l22 {K : gK} (S : Cx K RX10 cX10_coreOf 3 4 117) {c0 : Nat} (k0 : kd c0 (10 + 10, 0)) (a1 : Int32) (a2 : Int32) (h : Hp) {o : (Int32 × Int32 × Hp) ⊕ (Int32 × Hp)} (hyp : s_X10_coreOf_l22 c0 a1 a2 h = some o) (hin : ∀ s', o = .inl s' → Go K 22 [(0, .ref (ad K c0)), (1, .int s'.1), (2, .int s'.2.1)] [] s'.2.2) (hex0 : ∀ s', o = .inr (s') → Go K 58 [(1, .int s'.1)] [] s'.2) : Go K 22 [(0, .ref (ad K c0)), (1, .int a1), (2, .int a2)] [] h := by
  unfold s_X10_coreOf_l22 at hyp
  refine g_iload_n (pc := 22) 2 S dX10_coreOf_22 rfl ?_
  refine g_if_lt (pc := 23) (tgt := 58) S dX10_coreOf_23 (by decide) hyp (fun hyp => ?_) (fun hyp => ?_)
  · have hyp := Option.some.inj hyp
    subst hyp
    exact g_sub [1] rfl (hex0 (a1, h) rfl)
  · refine g_aload_n (pc := 26) 0 S dX10_coreOf_26 rfl ?_
    refine g_iload_n (pc := 27) 1 S dX10_coreOf_27 rfl ?_
    refine g_iconst (pc := 28) (v := (1 : Int32)) S dX10_coreOf_28 (by decide) ?_
    refine g_iload_n (pc := 29) 2 S dX10_coreOf_29 rfl ?_
    refine g_ishl (pc := 30) S dX10_coreOf_30 ?_
    refine g_iconst (pc := 31) (v := (-1 : Int32)) S dX10_coreOf_31 (by decide) ?_
    refine g_ixor (pc := 32) S dX10_coreOf_32 ?_
    refine g_iand (pc := 33) S dX10_coreOf_33 ?_
    refine g_bind hyp (fun y4 hy4 hyp => ?_)
    refine g_callV (pc := 34) (As := [.int (a1 &&& (((1 : Int32) <<< (a2 &&& 31)) ^^^ (-1 : Int32)))]) (rest := []) S dX10_coreOf_34 k0 rfl tw_1052 tw_1053 tw_40 mw_X10_canBe (m_X10_canBe k0 (a1 &&& (((1 : Int32) <<< (a2 &&& 31)) ^^^ (-1 : Int32))) h hy4) rfl rfl (Nat.le_of_ble_eq_true rfl) (Nat.le_of_ble_eq_true rfl) (Nat.le_of_ble_eq_true rfl) ?_
    refine g_if_eq (pc := 37) (tgt := 44) S dX10_coreOf_37 (by decide) hyp (fun hyp => ?_) (fun hyp => ?_)
    · refine g_iload_n (pc := 44) 1 S dX10_coreOf_44 rfl ?_
      refine g_iconst (pc := 45) (v := (1 : Int32)) S dX10_coreOf_45 (by decide) ?_
      refine g_iload_n (pc := 46) 2 S dX10_coreOf_46 rfl ?_
      refine g_ishl (pc := 47) S dX10_coreOf_47 ?_
      refine g_iconst (pc := 48) (v := (-1 : Int32)) S dX10_coreOf_48 (by decide) ?_
      refine g_ixor (pc := 49) S dX10_coreOf_49 ?_
      refine g_iand (pc := 50) S dX10_coreOf_50 ?_
      exact g_sub [0, 2] rfl (o_X10_coreOf_b51 S k0 a2 (a1 &&& (((1 : Int32) <<< (a2 &&& 31)) ^^^ (-1 : Int32))) y4.2 hyp hin hex0)
    · refine g_iload_n (pc := 40) 1 S dX10_coreOf_40 rfl ?_
      refine g_goto (pc := 41) (tgt := 51) S dX10_coreOf_41 (by decide) ?_
      exact g_sub [0, 2] rfl (o_X10_coreOf_b51 S k0 a2 a1 y4.2 hyp hin hex0)
set_option maxRecDepth 100000 in
set_option maxHeartbeats 4000000 in
theorem o_X10_coreOf {K : gK} (S : Cx K RX10 cX10_coreOf 3 4 117) {c0 : Nat} (k0 : kd c0 (10 + 10, 0))  (h : Hp) {o : Int32 × Hp} (hyp : s_X10_coreOf c0  h = some o) (F : Rt K (some .int) (some (.int o.1)) o.2) : Go K 0 [(0, .ref (ad K c0))] [] h := by
  unfold s_X10_coreOf at hyp
  refine g_aload_n (pc := 0) 0 S dX10_coreOf_0 rfl ?_
  refine g_bind hyp (fun y1 hy1 hyp => ?_)
  refine g_callV (pc := 1) (As := []) (rest := []) S dX10_coreOf_1 k0 rfl tw_1049 tw_1050 tw_39 mw_X10_allBounds (m_X10_allBounds k0  h hy1) rfl rfl (Nat.le_of_ble_eq_true rfl) (Nat.le_of_ble_eq_true rfl) (Nat.le_of_ble_eq_true rfl) ?_
  refine g_istore_n (pc := 4) (lv' := [(1, .int y1), (0, .ref (ad K c0))]) S dX10_coreOf_4 rfl (by decide) rfl ?_
  refine g_aload_n (pc := 5) 1 S dX10_coreOf_5 rfl ?_
  refine g_iload_n (pc := 6) 0 S dX10_coreOf_6 rfl ?_
  refine g_bind hyp (fun y2 hy2 hyp => ?_)
  refine g_callV (pc := 7) (As := [.int y1]) (rest := []) S dX10_coreOf_7 k0 rfl tw_1052 tw_1053 tw_40 mw_X10_canBe (m_X10_canBe k0 y1 h hy2) rfl rfl (Nat.le_of_ble_eq_true rfl) (Nat.le_of_ble_eq_true rfl) (Nat.le_of_ble_eq_true rfl) ?_
  refine g_if_eq (pc := 10) (tgt := 15) S dX10_coreOf_10 (by decide) hyp (fun hyp => ?_) (fun hyp => ?_)
  · refine g_aload_n (pc := 15) 1 S dX10_coreOf_15 rfl ?_
    refine g_getI (pc := 16) S dX10_coreOf_16 fl_X10_97 k0 ?_
    refine g_iconst (pc := 19) (v := (1 : Int32)) S dX10_coreOf_19 (by decide) ?_
    refine g_isub (pc := 20) S dX10_coreOf_20 ?_
    refine g_lti (C := fun v2_3 => Go K 21 [(1, .int y1), (0, .ref (ad K c0))] [.int v2_3] y2.2) hyp (fun v2_3 hyp => ?_)
    refine g_istore_n (pc := 21) (lv' := [(2, .int v2_3), (1, .int y1), (0, .ref (ad K c0))]) S dX10_coreOf_21 rfl (by decide) rfl ?_
    refine g_bind hyp (fun e6 he6 hyp => ?_)
    refine g_sub [2, 1, 0] rfl (g_loop (f := fun s : Int32 × Int32 × Hp => s_X10_coreOf_l22 c0 s.1 s.2.1 s.2.2) (ρ := Int32 × Hp) (Hd := fun s : Int32 × Int32 × Hp => Go K 22 [(0, .ref (ad K c0)), (1, .int s.1), (2, .int s.2.1)] [] s.2.2) (Ex := fun e6 => Go K 58 [(1, .int e6.1)] [] e6.2) (fun s o h1 h2 h3 => o_X10_coreOf_l22 S k0 s.1 s.2.1 s.2.2 h1 h2 h3) FUEL _ e6 he6 ?_)
    refine g_iload_n (pc := 58) 0 S dX10_coreOf_58 rfl ?_
    have hyp := Option.some.inj hyp
    subst hyp
    exact g_iret (pc := 59) S F dX10_coreOf_59
  · refine g_iconst (pc := 13) (v := (0 : Int32)) S dX10_coreOf_13 (by decide) ?_
    have hyp := Option.some.inj hyp
    subst hyp
    exact g_iret (pc := 14) S F dX10_coreOf_14
theorem m_X10_coreOf {l : Launch} {D : va_G} {cT : Nat → ClassId} {aD : Nat → Nat} {c0 : Nat} (k0 : kd c0 (10 + 10, 0))  (h : Hp) {o : Int32 × Hp} (hyp : s_X10_coreOf c0  h = some o) : Ok l D cT aD yX10_coreOf cX10_coreOf 3 (some .int) 4 117 [.ref (aD c0)] h (some (.int o.1)) o.2 :=
  Ok.of (by decide +kernel) rfl (Nat.le_of_ble_eq_true rfl) (fun K e1 e2 e3 e4 S F => by subst e1; exact o_X10_coreOf S k0  h hyp F)
-- BoundProofsModel core ()I
noncomputable def s_X10_core (c0 : Nat)  (h : Hp) : Option (Int32 × Hp) :=
  (s_X10_coreOf c0  h).bind fun y1 =>
  some (y1.1, y1.2)
set_option maxRecDepth 100000 in
set_option maxHeartbeats 4000000 in
theorem o_X10_core {K : gK} (S : Cx K RX10 cX10_core 1 5 143) {c0 : Nat} (k0 : kd c0 (10 + 10, 0))  (h : Hp) {o : Int32 × Hp} (hyp : s_X10_core c0  h = some o) (F : Rt K (some .int) (some (.int o.1)) o.2) : Go K 0 [(0, .ref (ad K c0))] [] h := by
  unfold s_X10_core at hyp
  refine g_aload_n (pc := 0) 0 S dX10_core_0 rfl ?_
  refine g_bind hyp (fun y1 hy1 hyp => ?_)
  refine g_callV (pc := 1) (As := []) (rest := []) S dX10_core_1 k0 rfl tw_1084 tw_1085 tw_49 mw_X10_coreOf (m_X10_coreOf k0  h hy1) rfl rfl (Nat.le_of_ble_eq_true rfl) (Nat.le_of_ble_eq_true rfl) (Nat.le_of_ble_eq_true rfl) ?_
  have hyp := Option.some.inj hyp
  subst hyp
  exact g_iret (pc := 4) S F dX10_core_4
theorem m_X10_core {l : Launch} {D : va_G} {cT : Nat → ClassId} {aD : Nat → Nat} {c0 : Nat} (k0 : kd c0 (10 + 10, 0))  (h : Hp) {o : Int32 × Hp} (hyp : s_X10_core c0  h = some o) : Ok l D cT aD yX10_core cX10_core 1 (some .int) 5 143 [.ref (aD c0)] h (some (.int o.1)) o.2 :=
  Ok.of (by decide +kernel) rfl (Nat.le_of_ble_eq_true rfl) (fun K e1 e2 e3 e4 S F => by subst e1; exact o_X10_core S k0  h hyp F)
-- BoundProofsModel gcd (JJ)J
noncomputable def s_X10_gcd_l28  (a4 : Int64) (a6 : Int64) (h : Hp) : Option ((Int64 × Int64) ⊕ (Int64)) :=
  if a6 = (0 : Int64) then (some (.inr (a4)))
  else (nzJ a6 <|
  lt (a4 - a4 / a6 * a6) fun v8_1 =>
  some (.inl (a6, v8_1)))
noncomputable def s_X10_gcd_b26  (a4 : Int64) (t0 : Int64) (h : Hp) : Option (Int64) :=
  (iter (fun s : Int64 × Int64 => s_X10_gcd_l28  s.1 s.2 h) FUEL (a4, t0)).bind fun e2 =>
  some e2
noncomputable def s_X10_gcd_b12  (a2 : Int64) (t0 : Int64) (h : Hp) : Option (Int64) :=
  if a2 < (0 : Int64) then (s_X10_gcd_b26  t0 (-a2) h)
  else (s_X10_gcd_b26  t0 a2 h)
noncomputable def s_X10_gcd  (a0 : Int64) (a2 : Int64) (h : Hp) : Option (Int64) :=
  if a0 < (0 : Int64) then (s_X10_gcd_b12  a2 (-a0) h)
  else (s_X10_gcd_b12  a2 a0 h)
set_option maxRecDepth 100000 in
set_option maxHeartbeats 4000000 in
theorem o_X10_gcd_l28 {K : gK} (S : Cx K RX10 cX10_gcd 10 0 0)  (a4 : Int64) (a6 : Int64) (h : Hp) {o : (Int64 × Int64) ⊕ (Int64)} (hyp : s_X10_gcd_l28  a4 a6 h = some o) (hin : ∀ s', o = .inl s' → Go K 28 [(4, .long s'.1), (6, .long s'.2)] [] h) (hex0 : ∀ s', o = .inr (s') → Go K 53 [(4, .long s')] [] h) : Go K 28 [(4, .long a4), (6, .long a6)] [] h := by
  unfold s_X10_gcd_l28 at hyp
  refine g_lload (pc := 28) 1 S dX10_gcd_28 rfl ?_
  refine g_lconst (pc := 30) (v := (0 : Int64)) S dX10_gcd_30 (by decide) ?_
  refine g_lcmp_eq (pc := 31) (tgt := 53) S dX10_gcd_31 dX10_gcd_32 (by decide) hyp (fun hyp => ?_) (fun hyp => ?_)
  · have hyp := Option.some.inj hyp
    subst hyp
    exact g_sub [0] rfl (hex0 a4 rfl)
  · refine g_lload (pc := 35) 0 S dX10_gcd_35 rfl ?_
    refine g_lload (pc := 37) 1 S dX10_gcd_37 rfl ?_
    refine g_nzJ hyp (fun hz hyp => ?_)
    refine g_lrem (pc := 39) S dX10_gcd_39 hz ?_
    refine g_lti (C := fun v8_1 => Go K 40 [(4, .long a4), (6, .long a6)] [.long v8_1] h) hyp (fun v8_1 hyp => ?_)
    refine g_lstore (pc := 40) (lv' := [(8, .long v8_1), (4, .long a4), (6, .long a6)]) S dX10_gcd_40 (by decide) rfl ?_
    refine g_lload (pc := 42) 2 S dX10_gcd_42 rfl ?_
    refine g_lstore (pc := 44) (lv' := [(4, .long a6), (8, .long v8_1), (6, .long a6)]) S dX10_gcd_44 (by decide) rfl ?_
    refine g_lload (pc := 46) 1 S dX10_gcd_46 rfl ?_
    refine g_lstore (pc := 48) (lv' := [(6, .long v8_1), (4, .long a6), (8, .long v8_1)]) S dX10_gcd_48 (by decide) rfl ?_
    refine g_goto (pc := 50) (tgt := 28) S dX10_gcd_50 (by decide) ?_
    have hyp := Option.some.inj hyp
    subst hyp
    exact g_sub [1, 0] rfl (hin (a6, v8_1) rfl)
set_option maxRecDepth 100000 in
set_option maxHeartbeats 4000000 in
theorem o_X10_gcd_b26 {K : gK} (S : Cx K RX10 cX10_gcd 10 0 0)  (a4 : Int64) (t0 : Int64) (h : Hp) {o : Int64} (hyp : s_X10_gcd_b26  a4 t0 h = some o) (F : Rt K (some .long) (some (.long o)) h) : Go K 26 [(4, .long a4)] [.long t0] h := by
  unfold s_X10_gcd_b26 at hyp
  refine g_lstore (pc := 26) (lv' := [(6, .long t0), (4, .long a4)]) S dX10_gcd_26 (by decide) rfl ?_
  refine g_bind hyp (fun e2 he2 hyp => ?_)
  refine g_sub [1, 0] rfl (g_loop (f := fun s : Int64 × Int64 => s_X10_gcd_l28  s.1 s.2 h) (ρ := Int64) (Hd := fun s : Int64 × Int64 => Go K 28 [(4, .long s.1), (6, .long s.2)] [] h) (Ex := fun e2 => Go K 53 [(4, .long e2)] [] h) (fun s o h1 h2 h3 => o_X10_gcd_l28 S  s.1 s.2 h h1 h2 h3) FUEL _ e2 he2 ?_)
  refine g_lload (pc := 53) 0 S dX10_gcd_53 rfl ?_
  have hyp := Option.some.inj hyp
  subst hyp
  exact g_lret (pc := 55) S F dX10_gcd_55
set_option maxRecDepth 100000 in
set_option maxHeartbeats 4000000 in
theorem o_X10_gcd_b12 {K : gK} (S : Cx K RX10 cX10_gcd 10 0 0)  (a2 : Int64) (t0 : Int64) (h : Hp) {o : Int64} (hyp : s_X10_gcd_b12  a2 t0 h = some o) (F : Rt K (some .long) (some (.long o)) h) : Go K 12 [(2, .long a2)] [.long t0] h := by
  unfold s_X10_gcd_b12 at hyp
  refine g_lstore (pc := 12) (lv' := [(4, .long t0), (2, .long a2)]) S dX10_gcd_12 (by decide) rfl ?_
  refine g_lload_n (pc := 14) 1 S dX10_gcd_14 rfl ?_
  refine g_lconst (pc := 15) (v := (0 : Int64)) S dX10_gcd_15 (by decide) ?_
  refine g_lcmp_ge (pc := 16) (tgt := 25) S dX10_gcd_16 dX10_gcd_17 (by decide) hyp (fun hyp => ?_) (fun hyp => ?_)
  · refine g_lload_n (pc := 20) 1 S dX10_gcd_20 rfl ?_
    refine g_lneg (pc := 21) S dX10_gcd_21 ?_
    refine g_goto (pc := 22) (tgt := 26) S dX10_gcd_22 (by decide) ?_
    exact g_sub [0] rfl (o_X10_gcd_b26 S  t0 (-a2) h hyp F)
  · refine g_lload_n (pc := 25) 1 S dX10_gcd_25 rfl ?_
    exact g_sub [0] rfl (o_X10_gcd_b26 S  t0 a2 h hyp F)
set_option maxRecDepth 100000 in
set_option maxHeartbeats 4000000 in
theorem o_X10_gcd {K : gK} (S : Cx K RX10 cX10_gcd 10 0 0)  (a0 : Int64) (a2 : Int64) (h : Hp) {o : Int64} (hyp : s_X10_gcd  a0 a2 h = some o) (F : Rt K (some .long) (some (.long o)) h) : Go K 0 [(0, .long a0), (2, .long a2)] [] h := by
  unfold s_X10_gcd at hyp
  refine g_lload_n (pc := 0) 0 S dX10_gcd_0 rfl ?_
  refine g_lconst (pc := 1) (v := (0 : Int64)) S dX10_gcd_1 (by decide) ?_
  refine g_lcmp_ge (pc := 2) (tgt := 11) S dX10_gcd_2 dX10_gcd_3 (by decide) hyp (fun hyp => ?_) (fun hyp => ?_)
  · refine g_lload_n (pc := 6) 0 S dX10_gcd_6 rfl ?_
    refine g_lneg (pc := 7) S dX10_gcd_7 ?_
    refine g_goto (pc := 8) (tgt := 12) S dX10_gcd_8 (by decide) ?_
    exact g_sub [1] rfl (o_X10_gcd_b12 S  a2 (-a0) h hyp F)
  · refine g_lload_n (pc := 11) 0 S dX10_gcd_11 rfl ?_
    exact g_sub [1] rfl (o_X10_gcd_b12 S  a2 a0 h hyp F)
theorem m_X10_gcd {l : Launch} {D : va_G} {cT : Nat → ClassId} {aD : Nat → Nat}  (a0 : Int64) (a2 : Int64) (h : Hp) {o : Int64} (hyp : s_X10_gcd  a0 a2 h = some o) : Ok l D cT aD yX10_gcd cX10_gcd 10 (some .long) 0 0 [.long a0, .long a2] h (some (.long o)) h :=
  Ok.of (by decide +kernel) rfl (Nat.le_of_ble_eq_true rfl) (fun K e1 e2 e3 e4 S F => by subst e1; exact o_X10_gcd S  a0 a2 h hyp F)
-- BoundProofsModel turn (I)I
noncomputable def s_X10_turn (c0 : Nat) (a1 : Int32) (h : Hp) : Option (Int32) :=
  ldI h (c0 + 2) 30 (((3 : Int32) * a1) + (1 : Int32)) fun x1 =>
  if x1 = (2 : Int32) then (some (-1 : Int32))
  else (if x1 = (3 : Int32) then (some (-1 : Int32))
  else (some (1 : Int32)))
set_option maxRecDepth 100000 in
set_option maxHeartbeats 4000000 in
theorem o_X10_turn {K : gK} (S : Cx K RX10 cX10_turn 3 0 0) {c0 : Nat} (k0 : kd c0 (10 + 10, 0)) (a1 : Int32) (h : Hp) {o : Int32} (hyp : s_X10_turn c0 a1 h = some o) (F : Rt K (some .int) (some (.int o)) h) : Go K 0 [(0, .ref (ad K c0)), (1, .int a1)] [] h := by
  unfold s_X10_turn at hyp
  refine g_aload_n (pc := 0) 0 S dX10_turn_0 rfl ?_
  refine g_getR (pc := 1) S dX10_turn_1 fl_X10_17 k0 ?_
  refine g_iconst (pc := 4) (v := (3 : Int32)) S dX10_turn_4 (by decide) ?_
  refine g_iload_n (pc := 5) 1 S dX10_turn_5 rfl ?_
  refine g_imul (pc := 6) S dX10_turn_6 ?_
  refine g_iconst (pc := 7) (v := (1 : Int32)) S dX10_turn_7 (by decide) ?_
  refine g_iadd (pc := 8) S dX10_turn_8 ?_
  refine g_iald (pc := 9) S dX10_turn_9 (kf_10_2 k0) hyp (fun x1 hyp => ?_)
  refine g_istore_n (pc := 10) (lv' := [(2, .int x1), (0, .ref (ad K c0)), (1, .int a1)]) S dX10_turn_10 rfl (by decide) rfl ?_
  refine g_iload_n (pc := 11) 0 S dX10_turn_11 rfl ?_
  refine g_iconst (pc := 12) (v := (2 : Int32)) S dX10_turn_12 (by decide) ?_
  refine g_icmp_eq (pc := 13) (tgt := 21) S dX10_turn_13 (by decide) hyp (fun hyp => ?_) (fun hyp => ?_)
  · refine g_iconst (pc := 21) (v := (-1 : Int32)) S dX10_turn_21 (by decide) ?_
    refine g_goto (pc := 22) (tgt := 26) S dX10_turn_22 (by decide) ?_
    have hyp := Option.some.inj hyp
    subst hyp
    exact g_iret (pc := 26) S F dX10_turn_26
  · refine g_iload_n (pc := 16) 0 S dX10_turn_16 rfl ?_
    refine g_iconst (pc := 17) (v := (3 : Int32)) S dX10_turn_17 (by decide) ?_
    refine g_icmp_ne (pc := 18) (tgt := 25) S dX10_turn_18 (by decide) hyp (fun hyp => ?_) (fun hyp => ?_)
    · refine g_iconst (pc := 21) (v := (-1 : Int32)) S dX10_turn_21 (by decide) ?_
      refine g_goto (pc := 22) (tgt := 26) S dX10_turn_22 (by decide) ?_
      have hyp := Option.some.inj hyp
      subst hyp
      exact g_iret (pc := 26) S F dX10_turn_26
    · refine g_iconst (pc := 25) (v := (1 : Int32)) S dX10_turn_25 (by decide) ?_
      have hyp := Option.some.inj hyp
      subst hyp
      exact g_iret (pc := 26) S F dX10_turn_26
theorem m_X10_turn {l : Launch} {D : va_G} {cT : Nat → ClassId} {aD : Nat → Nat} {c0 : Nat} (k0 : kd c0 (10 + 10, 0)) (a1 : Int32) (h : Hp) {o : Int32} (hyp : s_X10_turn c0 a1 h = some o) : Ok l D cT aD yX10_turn cX10_turn 3 (some .int) 0 0 [.ref (aD c0), .int a1] h (some (.int o)) h :=
  Ok.of (by decide +kernel) rfl (Nat.le_of_ble_eq_true rfl) (fun K e1 e2 e3 e4 S F => by subst e1; exact o_X10_turn S k0 a1 h hyp F)
-- BoundProofsModel setTable (I)V
noncomputable def s_X10_setTable_l36 (c0 : Nat) (a1 : Int32) (a2 : Int32) (a3 : Int32) (h : Hp) : Option ((Int32 × Hp) ⊕ (Hp)) :=
  if a3 < (3 : Int32) then ((s_X10_turn c0 a2 h).bind fun y3 =>
  (s_X10_coefficientOf c0 a2 a3 h).bind fun y4 =>
  stJ h (c0 + 16) 30 (((10 : Int32) * a3) + (h.1 c0 29)) ((y3 * y4)).toInt64 fun h5 =>
  lt (a3 + (1 : Int32)) fun v3_6 =>
  some (.inl (v3_6, h5)))
  else (some (.inr (h)))
noncomputable def s_X10_setTable_b84 (c0 : Nat) (a1 : Int32) (a2 : Int32) (h : Hp) : Option ((Int32 × Hp) ⊕ (Hp)) :=
  lt (a2 + (1 : Int32)) fun v2_9 =>
  some (.inl (v2_9, h))
noncomputable def s_X10_setTable_l7 (c0 : Nat) (a1 : Int32) (a2 : Int32) (h : Hp) : Option ((Int32 × Hp) ⊕ (Hp)) :=
  if a2 < (h.1 c0 3) then (if ((a1 >>> (a2 &&& 31)) &&& (1 : Int32)) = (1 : Int32) then (stI h (c0 + 15) 10 (h.1 c0 29) a2 fun h2 =>
  (iter (fun s : Int32 × Hp => s_X10_setTable_l36 c0 a1 a2 s.1 s.2) FUEL ((0 : Int32), h2)).bind fun e7 =>
  lt (sI e7 c0 29 ((e7.1 c0 29) + (1 : Int32))) fun h8 =>
  s_X10_setTable_b84 c0 a1 a2 h8)
  else (s_X10_setTable_b84 c0 a1 a2 h))
  else (some (.inr (h)))
noncomputable def s_X10_setTable (c0 : Nat) (a1 : Int32) (h : Hp) : Option (Hp) :=
  lt (sI h c0 29 (0 : Int32)) fun h1 =>
  (iter (fun s : Int32 × Hp => s_X10_setTable_l7 c0 a1 s.1 s.2) FUEL ((0 : Int32), h1)).bind fun e10 =>
  some e10
set_option maxRecDepth 100000 in
set_option maxHeartbeats 4000000 in
theorem o_X10_setTable_l36 {K : gK} (S : Cx K RX10 cX10_setTable 4 1 26) {c0 : Nat} (k0 : kd c0 (10 + 10, 0)) (a1 : Int32) (a2 : Int32) (a3 : Int32) (h : Hp) {o : (Int32 × Hp) ⊕ (Hp)} (hyp : s_X10_setTable_l36 c0 a1 a2 a3 h = some o) (hin : ∀ s', o = .inl s' → Go K 36 [(0, .ref (ad K c0)), (1, .int a1), (2, .int a2), (3, .int s'.1)] [] s'.2) (hex0 : ∀ s', o = .inr (s') → Go K 74 [(0, .ref (ad K c0)), (1, .int a1), (2, .int a2)] [] s') : Go K 36 [(0, .ref (ad K c0)), (1, .int a1), (2, .int a2), (3, .int a3)] [] h := by
  unfold s_X10_setTable_l36 at hyp
  refine g_iload_n (pc := 36) 3 S dX10_setTable_36 rfl ?_
  refine g_iconst (pc := 37) (v := (3 : Int32)) S dX10_setTable_37 (by decide) ?_
  refine g_icmp_ge (pc := 38) (tgt := 74) S dX10_setTable_38 (by decide) hyp (fun hyp => ?_) (fun hyp => ?_)
  · refine g_aload_n (pc := 41) 0 S dX10_setTable_41 rfl ?_
    refine g_getR (pc := 42) S dX10_setTable_42 fl_X10_60 k0 ?_
    refine g_bipush (pc := 45) (v := (10 : Int32)) S dX10_setTable_45 (by decide) ?_
    refine g_iload_n (pc := 47) 3 S dX10_setTable_47 rfl ?_
    refine g_imul (pc := 48) S dX10_setTable_48 ?_
    refine g_aload_n (pc := 49) 0 S dX10_setTable_49 rfl ?_
    refine g_getI (pc := 50) S dX10_setTable_50 fl_X10_210 k0 ?_
    refine g_iadd (pc := 53) S dX10_setTable_53 ?_
    refine g_aload_n (pc := 54) 0 S dX10_setTable_54 rfl ?_
    refine g_iload_n (pc := 55) 2 S dX10_setTable_55 rfl ?_
    refine g_bind hyp (fun y3 hy3 hyp => ?_)
    refine g_callV (pc := 56) (As := [.int a2]) (rest := [.int (((10 : Int32) * a3) + (h.1 c0 29)), .ref (ad K (c0 + 16))]) S dX10_setTable_56 k0 rfl tw_1097 tw_1098 tw_52 mw_X10_turn (m_X10_turn k0 a2 h hy3) rfl rfl (Nat.le_of_ble_eq_true rfl) (Nat.le_of_ble_eq_true rfl) (Nat.le_of_ble_eq_true rfl) ?_
    refine g_aload_n (pc := 59) 0 S dX10_setTable_59 rfl ?_
    refine g_iload_n (pc := 60) 2 S dX10_setTable_60 rfl ?_
    refine g_iload_n (pc := 61) 3 S dX10_setTable_61 rfl ?_
    refine g_bind hyp (fun y4 hy4 hyp => ?_)
    refine g_callV (pc := 62) (As := [.int a2, .int a3]) (rest := [.int y3, .int (((10 : Int32) * a3) + (h.1 c0 29)), .ref (ad K (c0 + 16))]) S dX10_setTable_62 k0 rfl tw_1058 tw_1059 tw_42 mw_X10_coefficientOf (m_X10_coefficientOf k0 a2 a3 h hy4) rfl rfl (Nat.le_of_ble_eq_true rfl) (Nat.le_of_ble_eq_true rfl) (Nat.le_of_ble_eq_true rfl) ?_
    refine g_imul (pc := 65) S dX10_setTable_65 ?_
    refine g_i2l (pc := 66) S dX10_setTable_66 ?_
    refine g_last (pc := 67) S dX10_setTable_67 (kf_10_16 k0) hyp (fun h5 hyp => ?_)
    refine g_iinc (pc := 68) (v := (a3 + (1 : Int32))) (lv' := [(3, .int (a3 + (1 : Int32))), (0, .ref (ad K c0)), (1, .int a1), (2, .int a2)]) 3 S dX10_setTable_68 rfl (by rfl) (by decide) rfl ?_
    refine g_lti (C := fun v3_6 => Go K (68 + 3) [(3, .int v3_6), (0, .ref (ad K c0)), (1, .int a1), (2, .int a2)] [] h5) hyp (fun v3_6 hyp => ?_)
    refine g_goto (pc := 71) (tgt := 36) S dX10_setTable_71 (by decide) ?_
    have hyp := Option.some.inj hyp
    subst hyp
    exact g_sub [1, 2, 3, 0] rfl (hin (v3_6, h5) rfl)
  · have hyp := Option.some.inj hyp
    subst hyp
    exact g_sub [0, 1, 2] rfl (hex0 h rfl)
set_option maxRecDepth 100000 in
set_option maxHeartbeats 4000000 in
theorem o_X10_setTable_b84 {K : gK} (S : Cx K RX10 cX10_setTable 4 1 26) {c0 : Nat} (k0 : kd c0 (10 + 10, 0)) (a1 : Int32) (a2 : Int32) (h : Hp) {o : (Int32 × Hp) ⊕ (Hp)} (hyp : s_X10_setTable_b84 c0 a1 a2 h = some o) (hin : ∀ s', o = .inl s' → Go K 7 [(0, .ref (ad K c0)), (1, .int a1), (2, .int s'.1)] [] s'.2) (hex0 : ∀ s', o = .inr (s') → Go K 90 [] [] s') : Go K 84 [(0, .ref (ad K c0)), (1, .int a1), (2, .int a2)] [] h := by
  unfold s_X10_setTable_b84 at hyp
  refine g_iinc (pc := 84) (v := (a2 + (1 : Int32))) (lv' := [(2, .int (a2 + (1 : Int32))), (0, .ref (ad K c0)), (1, .int a1)]) 2 S dX10_setTable_84 rfl (by rfl) (by decide) rfl ?_
  refine g_lti (C := fun v2_9 => Go K (84 + 3) [(2, .int v2_9), (0, .ref (ad K c0)), (1, .int a1)] [] h) hyp (fun v2_9 hyp => ?_)
  refine g_goto (pc := 87) (tgt := 7) S dX10_setTable_87 (by decide) ?_
  have hyp := Option.some.inj hyp
  subst hyp
  exact g_sub [1, 2, 0] rfl (hin (v2_9, h) rfl)
set_option maxRecDepth 100000 in
set_option maxHeartbeats 4000000 in
theorem o_X10_setTable_l7 {K : gK} (S : Cx K RX10 cX10_setTable 4 1 26) {c0 : Nat} (k0 : kd c0 (10 + 10, 0)) (a1 : Int32) (a2 : Int32) (h : Hp) {o : (Int32 × Hp) ⊕ (Hp)} (hyp : s_X10_setTable_l7 c0 a1 a2 h = some o) (hin : ∀ s', o = .inl s' → Go K 7 [(0, .ref (ad K c0)), (1, .int a1), (2, .int s'.1)] [] s'.2) (hex0 : ∀ s', o = .inr (s') → Go K 90 [] [] s') : Go K 7 [(0, .ref (ad K c0)), (1, .int a1), (2, .int a2)] [] h := by
  unfold s_X10_setTable_l7 at hyp
  refine g_iload_n (pc := 7) 2 S dX10_setTable_7 rfl ?_
  refine g_aload_n (pc := 8) 0 S dX10_setTable_8 rfl ?_
  refine g_getI (pc := 9) S dX10_setTable_9 fl_X10_97 k0 ?_
  refine g_icmp_ge (pc := 12) (tgt := 90) S dX10_setTable_12 (by decide) hyp (fun hyp => ?_) (fun hyp => ?_)
  · refine g_iload_n (pc := 15) 1 S dX10_setTable_15 rfl ?_
    refine g_iload_n (pc := 16) 2 S dX10_setTable_16 rfl ?_
    refine g_ishr (pc := 17) S dX10_setTable_17 ?_
    refine g_iconst (pc := 18) (v := (1 : Int32)) S dX10_setTable_18 (by decide) ?_
    refine g_iand (pc := 19) S dX10_setTable_19 ?_
    refine g_iconst (pc := 20) (v := (1 : Int32)) S dX10_setTable_20 (by decide) ?_
    refine g_icmp_ne (pc := 21) (tgt := 84) S dX10_setTable_21 (by decide) hyp (fun hyp => ?_) (fun hyp => ?_)
    · refine g_aload_n (pc := 24) 0 S dX10_setTable_24 rfl ?_
      refine g_getR (pc := 25) S dX10_setTable_25 fl_X10_57 k0 ?_
      refine g_aload_n (pc := 28) 0 S dX10_setTable_28 rfl ?_
      refine g_getI (pc := 29) S dX10_setTable_29 fl_X10_210 k0 ?_
      refine g_iload_n (pc := 32) 2 S dX10_setTable_32 rfl ?_
      refine g_iast (pc := 33) S dX10_setTable_33 (kf_10_15 k0) hyp (fun h2 hyp => ?_)
      refine g_iconst (pc := 34) (v := (0 : Int32)) S dX10_setTable_34 (by decide) ?_
      refine g_istore_n (pc := 35) (lv' := [(3, .int (0 : Int32)), (0, .ref (ad K c0)), (1, .int a1), (2, .int a2)]) S dX10_setTable_35 rfl (by decide) rfl ?_
      refine g_bind hyp (fun e7 he7 hyp => ?_)
      refine g_sub [1, 2, 3, 0] rfl (g_loop (f := fun s : Int32 × Hp => s_X10_setTable_l36 c0 a1 a2 s.1 s.2) (ρ := Hp) (Hd := fun s : Int32 × Hp => Go K 36 [(0, .ref (ad K c0)), (1, .int a1), (2, .int a2), (3, .int s.1)] [] s.2) (Ex := fun e7 => Go K 74 [(0, .ref (ad K c0)), (1, .int a1), (2, .int a2)] [] e7) (fun s o h1 h2 h3 => o_X10_setTable_l36 S k0 a1 a2 s.1 s.2 h1 h2 h3) FUEL _ e7 he7 ?_)
      refine g_aload_n (pc := 74) 0 S dX10_setTable_74 rfl ?_
      refine g_dup (pc := 75) S dX10_setTable_75 rfl ?_
      refine g_getI (pc := 76) S dX10_setTable_76 fl_X10_210 k0 ?_
      refine g_iconst (pc := 79) (v := (1 : Int32)) S dX10_setTable_79 (by decide) ?_
      refine g_iadd (pc := 80) S dX10_setTable_80 ?_
      refine g_putI (pc := 81) S dX10_setTable_81 fl_X10_210 k0 hyp (fun h8 hyp => ?_)
      exact g_sub [0, 1, 2] rfl (o_X10_setTable_b84 S k0 a1 a2 h8 hyp hin hex0)
    · exact g_sub [0, 1, 2] rfl (o_X10_setTable_b84 S k0 a1 a2 h hyp hin hex0)
  · have hyp := Option.some.inj hyp
    subst hyp
    exact g_sub [] rfl (hex0 h rfl)
set_option maxRecDepth 100000 in
set_option maxHeartbeats 4000000 in
theorem o_X10_setTable {K : gK} (S : Cx K RX10 cX10_setTable 4 1 26) {c0 : Nat} (k0 : kd c0 (10 + 10, 0)) (a1 : Int32) (h : Hp) {o : Hp} (hyp : s_X10_setTable c0 a1 h = some o) (F : Rt K none none o) : Go K 0 [(0, .ref (ad K c0)), (1, .int a1)] [] h := by
  unfold s_X10_setTable at hyp
  refine g_aload_n (pc := 0) 0 S dX10_setTable_0 rfl ?_
  refine g_iconst (pc := 1) (v := (0 : Int32)) S dX10_setTable_1 (by decide) ?_
  refine g_putI (pc := 2) S dX10_setTable_2 fl_X10_210 k0 hyp (fun h1 hyp => ?_)
  refine g_iconst (pc := 5) (v := (0 : Int32)) S dX10_setTable_5 (by decide) ?_
  refine g_istore_n (pc := 6) (lv' := [(2, .int (0 : Int32)), (0, .ref (ad K c0)), (1, .int a1)]) S dX10_setTable_6 rfl (by decide) rfl ?_
  refine g_bind hyp (fun e10 he10 hyp => ?_)
  refine g_sub [1, 2, 0] rfl (g_loop (f := fun s : Int32 × Hp => s_X10_setTable_l7 c0 a1 s.1 s.2) (ρ := Hp) (Hd := fun s : Int32 × Hp => Go K 7 [(0, .ref (ad K c0)), (1, .int a1), (2, .int s.1)] [] s.2) (Ex := fun e10 => Go K 90 [] [] e10) (fun s o h1 h2 h3 => o_X10_setTable_l7 S k0 a1 s.1 s.2 h1 h2 h3) FUEL _ e10 he10 ?_)
  have hyp := Option.some.inj hyp
  subst hyp
  exact g_vret (pc := 90) S F dX10_setTable_90
theorem m_X10_setTable {l : Launch} {D : va_G} {cT : Nat → ClassId} {aD : Nat → Nat} {c0 : Nat} (k0 : kd c0 (10 + 10, 0)) (a1 : Int32) (h : Hp) {o : Hp} (hyp : s_X10_setTable c0 a1 h = some o) : Ok l D cT aD yX10_setTable cX10_setTable 4 none 1 26 [.ref (aD c0), .int a1] h none o :=
  Ok.of (by decide +kernel) rfl (Nat.le_of_ble_eq_true rfl) (fun K e1 e2 e3 e4 S F => by subst e1; exact o_X10_setTable S k0 a1 h hyp F)
-- BoundProofsModel swapsRows (II)V
noncomputable def s_X10_swapsRows_l2 (c0 : Nat) (a1 : Int32) (a2 : Int32) (a3 : Int32) (h : Hp) : Option ((Int32 × Hp) ⊕ (Hp)) :=
  if a3 < (h.1 c0 29) then (ldJ h (c0 + 16) 30 (((10 : Int32) * a1) + a3) fun x1 =>
  ldJ h (c0 + 16) 30 (((10 : Int32) * a2) + a3) fun x2 =>
  stJ h (c0 + 16) 30 (((10 : Int32) * a1) + a3) x2 fun h3 =>
  stJ h3 (c0 + 16) 30 (((10 : Int32) * a2) + a3) x1 fun h4 =>
  lt (a3 + (1 : Int32)) fun v3_5 =>
  some (.inl (v3_5, h4)))
  else (some (.inr (h)))
noncomputable def s_X10_swapsRows (c0 : Nat) (a1 : Int32) (a2 : Int32) (h : Hp) : Option (Hp) :=
  (iter (fun s : Int32 × Hp => s_X10_swapsRows_l2 c0 a1 a2 s.1 s.2) FUEL ((0 : Int32), h)).bind fun e6 =>
  some e6
set_option maxRecDepth 100000 in
set_option maxHeartbeats 4000000 in
theorem o_X10_swapsRows_l2 {K : gK} (S : Cx K RX10 cX10_swapsRows 6 0 0) {c0 : Nat} (k0 : kd c0 (10 + 10, 0)) (a1 : Int32) (a2 : Int32) (a3 : Int32) (h : Hp) {o : (Int32 × Hp) ⊕ (Hp)} (hyp : s_X10_swapsRows_l2 c0 a1 a2 a3 h = some o) (hin : ∀ s', o = .inl s' → Go K 2 [(0, .ref (ad K c0)), (1, .int a1), (2, .int a2), (3, .int s'.1)] [] s'.2) (hex0 : ∀ s', o = .inr (s') → Go K 64 [] [] s') : Go K 2 [(0, .ref (ad K c0)), (1, .int a1), (2, .int a2), (3, .int a3)] [] h := by
  unfold s_X10_swapsRows_l2 at hyp
  refine g_iload_n (pc := 2) 3 S dX10_swapsRows_2 rfl ?_
  refine g_aload_n (pc := 3) 0 S dX10_swapsRows_3 rfl ?_
  refine g_getI (pc := 4) S dX10_swapsRows_4 fl_X10_210 k0 ?_
  refine g_icmp_ge (pc := 7) (tgt := 64) S dX10_swapsRows_7 (by decide) hyp (fun hyp => ?_) (fun hyp => ?_)
  · refine g_aload_n (pc := 10) 0 S dX10_swapsRows_10 rfl ?_
    refine g_getR (pc := 11) S dX10_swapsRows_11 fl_X10_60 k0 ?_
    refine g_bipush (pc := 14) (v := (10 : Int32)) S dX10_swapsRows_14 (by decide) ?_
    refine g_iload_n (pc := 16) 1 S dX10_swapsRows_16 rfl ?_
    refine g_imul (pc := 17) S dX10_swapsRows_17 ?_
    refine g_iload_n (pc := 18) 3 S dX10_swapsRows_18 rfl ?_
    refine g_iadd (pc := 19) S dX10_swapsRows_19 ?_
    refine g_lald (pc := 20) S dX10_swapsRows_20 (kf_10_16 k0) hyp (fun x1 hyp => ?_)
    refine g_lstore (pc := 21) (lv' := [(4, .long x1), (0, .ref (ad K c0)), (1, .int a1), (2, .int a2), (3, .int a3)]) S dX10_swapsRows_21 (by decide) rfl ?_
    refine g_aload_n (pc := 23) 1 S dX10_swapsRows_23 rfl ?_
    refine g_getR (pc := 24) S dX10_swapsRows_24 fl_X10_60 k0 ?_
    refine g_bipush (pc := 27) (v := (10 : Int32)) S dX10_swapsRows_27 (by decide) ?_
    refine g_iload_n (pc := 29) 2 S dX10_swapsRows_29 rfl ?_
    refine g_imul (pc := 30) S dX10_swapsRows_30 ?_
    refine g_iload_n (pc := 31) 4 S dX10_swapsRows_31 rfl ?_
    refine g_iadd (pc := 32) S dX10_swapsRows_32 ?_
    refine g_aload_n (pc := 33) 1 S dX10_swapsRows_33 rfl ?_
    refine g_getR (pc := 34) S dX10_swapsRows_34 fl_X10_60 k0 ?_
    refine g_bipush (pc := 37) (v := (10 : Int32)) S dX10_swapsRows_37 (by decide) ?_
    refine g_iload_n (pc := 39) 3 S dX10_swapsRows_39 rfl ?_
    refine g_imul (pc := 40) S dX10_swapsRows_40 ?_
    refine g_iload_n (pc := 41) 4 S dX10_swapsRows_41 rfl ?_
    refine g_iadd (pc := 42) S dX10_swapsRows_42 ?_
    refine g_lald (pc := 43) S dX10_swapsRows_43 (kf_10_16 k0) hyp (fun x2 hyp => ?_)
    refine g_last (pc := 44) S dX10_swapsRows_44 (kf_10_16 k0) hyp (fun h3 hyp => ?_)
    refine g_aload_n (pc := 45) 1 S dX10_swapsRows_45 rfl ?_
    refine g_getR (pc := 46) S dX10_swapsRows_46 fl_X10_60 k0 ?_
    refine g_bipush (pc := 49) (v := (10 : Int32)) S dX10_swapsRows_49 (by decide) ?_
    refine g_iload_n (pc := 51) 3 S dX10_swapsRows_51 rfl ?_
    refine g_imul (pc := 52) S dX10_swapsRows_52 ?_
    refine g_iload_n (pc := 53) 4 S dX10_swapsRows_53 rfl ?_
    refine g_iadd (pc := 54) S dX10_swapsRows_54 ?_
    refine g_lload (pc := 55) 0 S dX10_swapsRows_55 rfl ?_
    refine g_last (pc := 57) S dX10_swapsRows_57 (kf_10_16 k0) hyp (fun h4 hyp => ?_)
    refine g_iinc (pc := 58) (v := (a3 + (1 : Int32))) (lv' := [(3, .int (a3 + (1 : Int32))), (4, .long x1), (0, .ref (ad K c0)), (1, .int a1), (2, .int a2)]) 4 S dX10_swapsRows_58 rfl (by rfl) (by decide) rfl ?_
    refine g_lti (C := fun v3_5 => Go K (58 + 3) [(3, .int v3_5), (4, .long x1), (0, .ref (ad K c0)), (1, .int a1), (2, .int a2)] [] h4) hyp (fun v3_5 hyp => ?_)
    refine g_goto (pc := 61) (tgt := 2) S dX10_swapsRows_61 (by decide) ?_
    have hyp := Option.some.inj hyp
    subst hyp
    exact g_sub [2, 3, 4, 0] rfl (hin (v3_5, h4) rfl)
  · have hyp := Option.some.inj hyp
    subst hyp
    exact g_sub [] rfl (hex0 h rfl)
set_option maxRecDepth 100000 in
set_option maxHeartbeats 4000000 in
theorem o_X10_swapsRows {K : gK} (S : Cx K RX10 cX10_swapsRows 6 0 0) {c0 : Nat} (k0 : kd c0 (10 + 10, 0)) (a1 : Int32) (a2 : Int32) (h : Hp) {o : Hp} (hyp : s_X10_swapsRows c0 a1 a2 h = some o) (F : Rt K none none o) : Go K 0 [(0, .ref (ad K c0)), (1, .int a1), (2, .int a2)] [] h := by
  unfold s_X10_swapsRows at hyp
  refine g_iconst (pc := 0) (v := (0 : Int32)) S dX10_swapsRows_0 (by decide) ?_
  refine g_istore_n (pc := 1) (lv' := [(3, .int (0 : Int32)), (0, .ref (ad K c0)), (1, .int a1), (2, .int a2)]) S dX10_swapsRows_1 rfl (by decide) rfl ?_
  refine g_bind hyp (fun e6 he6 hyp => ?_)
  refine g_sub [1, 2, 3, 0] rfl (g_loop (f := fun s : Int32 × Hp => s_X10_swapsRows_l2 c0 a1 a2 s.1 s.2) (ρ := Hp) (Hd := fun s : Int32 × Hp => Go K 2 [(0, .ref (ad K c0)), (1, .int a1), (2, .int a2), (3, .int s.1)] [] s.2) (Ex := fun e6 => Go K 64 [] [] e6) (fun s o h1 h2 h3 => o_X10_swapsRows_l2 S k0 a1 a2 s.1 s.2 h1 h2 h3) FUEL _ e6 he6 ?_)
  have hyp := Option.some.inj hyp
  subst hyp
  exact g_vret (pc := 64) S F dX10_swapsRows_64
theorem m_X10_swapsRows {l : Launch} {D : va_G} {cT : Nat → ClassId} {aD : Nat → Nat} {c0 : Nat} (k0 : kd c0 (10 + 10, 0)) (a1 : Int32) (a2 : Int32) (h : Hp) {o : Hp} (hyp : s_X10_swapsRows c0 a1 a2 h = some o) : Ok l D cT aD yX10_swapsRows cX10_swapsRows 6 none 0 0 [.ref (aD c0), .int a1, .int a2] h none o :=
  Ok.of (by decide +kernel) rfl (Nat.le_of_ble_eq_true rfl) (fun K e1 e2 e3 e4 S F => by subst e1; exact o_X10_swapsRows S k0 a1 a2 h hyp F)
-- BoundProofsModel clears (II)V
noncomputable def s_X10_clears_b106 (c0 : Nat) (a1 : Int32) (a2 : Int32) (a3 : Int32) (h : Hp) : Option ((Int32 × Hp) ⊕ (Hp)) :=
  lt (a3 + (1 : Int32)) fun v3_2 =>
  some (.inl (v3_2, h))
noncomputable def s_X10_clears_l48 (c0 : Nat) (a1 : Int32) (a2 : Int32) (a3 : Int32) (a4 : Int64) (a6 : Int64) (a8 : Int32) (h : Hp) : Option ((Int32 × Hp) ⊕ (Hp)) :=
  if a8 < (h.1 c0 29) then (ldJ h (c0 + 16) 30 (((10 : Int32) * a3) + a8) fun x4 =>
  ldJ h (c0 + 16) 30 (((10 : Int32) * a1) + a8) fun x5 =>
  stJ h (c0 + 16) 30 (((10 : Int32) * a3) + a8) ((x4 * a6) - (x5 * a4)) fun h6 =>
  lt (a8 + (1 : Int32)) fun v8_7 =>
  some (.inl (v8_7, h6)))
  else (some (.inr (h)))
noncomputable def s_X10_clears_l2 (c0 : Nat) (a1 : Int32) (a2 : Int32) (a3 : Int32) (h : Hp) : Option ((Int32 × Hp) ⊕ (Hp)) :=
  if a3 < (3 : Int32) then (ldJ h (c0 + 16) 30 (((10 : Int32) * a3) + a2) fun x1 =>
  if a3 = a1 then (s_X10_clears_b106 c0 a1 a2 a3 h)
  else (if x1 = (0 : Int64) then (s_X10_clears_b106 c0 a1 a2 a3 h)
  else (ldJ h (c0 + 16) 30 (((10 : Int32) * a1) + a2) fun x3 =>
  (iter (fun s : Int32 × Hp => s_X10_clears_l48 c0 a1 a2 a3 x1 x3 s.1 s.2) FUEL ((0 : Int32), h)).bind fun e8 =>
  s_X10_clears_b106 c0 a1 a2 a3 e8)))
  else (some (.inr (h)))
noncomputable def s_X10_clears (c0 : Nat) (a1 : Int32) (a2 : Int32) (h : Hp) : Option (Hp) :=
  (iter (fun s : Int32 × Hp => s_X10_clears_l2 c0 a1 a2 s.1 s.2) FUEL ((0 : Int32), h)).bind fun e9 =>
  some e9
set_option maxRecDepth 100000 in
set_option maxHeartbeats 4000000 in
theorem o_X10_clears_b106 {K : gK} (S : Cx K RX10 cX10_clears 9 0 0) {c0 : Nat} (k0 : kd c0 (10 + 10, 0)) (a1 : Int32) (a2 : Int32) (a3 : Int32) (h : Hp) {o : (Int32 × Hp) ⊕ (Hp)} (hyp : s_X10_clears_b106 c0 a1 a2 a3 h = some o) (hin : ∀ s', o = .inl s' → Go K 2 [(0, .ref (ad K c0)), (1, .int a1), (2, .int a2), (3, .int s'.1)] [] s'.2) (hex0 : ∀ s', o = .inr (s') → Go K 112 [] [] s') : Go K 106 [(0, .ref (ad K c0)), (1, .int a1), (2, .int a2), (3, .int a3)] [] h := by
  unfold s_X10_clears_b106 at hyp
  refine g_iinc (pc := 106) (v := (a3 + (1 : Int32))) (lv' := [(3, .int (a3 + (1 : Int32))), (0, .ref (ad K c0)), (1, .int a1), (2, .int a2)]) 3 S dX10_clears_106 rfl (by rfl) (by decide) rfl ?_
  refine g_lti (C := fun v3_2 => Go K (106 + 3) [(3, .int v3_2), (0, .ref (ad K c0)), (1, .int a1), (2, .int a2)] [] h) hyp (fun v3_2 hyp => ?_)
  refine g_goto (pc := 109) (tgt := 2) S dX10_clears_109 (by decide) ?_
  have hyp := Option.some.inj hyp
  subst hyp
  exact g_sub [1, 2, 3, 0] rfl (hin (v3_2, h) rfl)
set_option maxRecDepth 100000 in
set_option maxHeartbeats 4000000 in
theorem o_X10_clears_l48 {K : gK} (S : Cx K RX10 cX10_clears 9 0 0) {c0 : Nat} (k0 : kd c0 (10 + 10, 0)) (a1 : Int32) (a2 : Int32) (a3 : Int32) (a4 : Int64) (a6 : Int64) (a8 : Int32) (h : Hp) {o : (Int32 × Hp) ⊕ (Hp)} (hyp : s_X10_clears_l48 c0 a1 a2 a3 a4 a6 a8 h = some o) (hin : ∀ s', o = .inl s' → Go K 48 [(0, .ref (ad K c0)), (1, .int a1), (2, .int a2), (3, .int a3), (4, .long a4), (6, .long a6), (8, .int s'.1)] [] s'.2) (hex0 : ∀ s', o = .inr (s') → Go K 106 [(0, .ref (ad K c0)), (1, .int a1), (2, .int a2), (3, .int a3)] [] s') : Go K 48 [(0, .ref (ad K c0)), (1, .int a1), (2, .int a2), (3, .int a3), (4, .long a4), (6, .long a6), (8, .int a8)] [] h := by
  unfold s_X10_clears_l48 at hyp
  refine g_iload (pc := 48) 6 S dX10_clears_48 rfl ?_
  refine g_aload_n (pc := 50) 0 S dX10_clears_50 rfl ?_
  refine g_getI (pc := 51) S dX10_clears_51 fl_X10_210 k0 ?_
  refine g_icmp_ge (pc := 54) (tgt := 106) S dX10_clears_54 (by decide) hyp (fun hyp => ?_) (fun hyp => ?_)
  · refine g_aload_n (pc := 57) 0 S dX10_clears_57 rfl ?_
    refine g_getR (pc := 58) S dX10_clears_58 fl_X10_60 k0 ?_
    refine g_bipush (pc := 61) (v := (10 : Int32)) S dX10_clears_61 (by decide) ?_
    refine g_iload_n (pc := 63) 3 S dX10_clears_63 rfl ?_
    refine g_imul (pc := 64) S dX10_clears_64 ?_
    refine g_iload (pc := 65) 6 S dX10_clears_65 rfl ?_
    refine g_iadd (pc := 67) S dX10_clears_67 ?_
    refine g_aload_n (pc := 68) 0 S dX10_clears_68 rfl ?_
    refine g_getR (pc := 69) S dX10_clears_69 fl_X10_60 k0 ?_
    refine g_bipush (pc := 72) (v := (10 : Int32)) S dX10_clears_72 (by decide) ?_
    refine g_iload_n (pc := 74) 3 S dX10_clears_74 rfl ?_
    refine g_imul (pc := 75) S dX10_clears_75 ?_
    refine g_iload (pc := 76) 6 S dX10_clears_76 rfl ?_
    refine g_iadd (pc := 78) S dX10_clears_78 ?_
    refine g_lald (pc := 79) S dX10_clears_79 (kf_10_16 k0) hyp (fun x4 hyp => ?_)
    refine g_lload (pc := 80) 5 S dX10_clears_80 rfl ?_
    refine g_lmul (pc := 82) S dX10_clears_82 ?_
    refine g_aload_n (pc := 83) 0 S dX10_clears_83 rfl ?_
    refine g_getR (pc := 84) S dX10_clears_84 fl_X10_60 k0 ?_
    refine g_bipush (pc := 87) (v := (10 : Int32)) S dX10_clears_87 (by decide) ?_
    refine g_iload_n (pc := 89) 1 S dX10_clears_89 rfl ?_
    refine g_imul (pc := 90) S dX10_clears_90 ?_
    refine g_iload (pc := 91) 6 S dX10_clears_91 rfl ?_
    refine g_iadd (pc := 93) S dX10_clears_93 ?_
    refine g_lald (pc := 94) S dX10_clears_94 (kf_10_16 k0) hyp (fun x5 hyp => ?_)
    refine g_lload (pc := 95) 4 S dX10_clears_95 rfl ?_
    refine g_lmul (pc := 97) S dX10_clears_97 ?_
    refine g_lsub (pc := 98) S dX10_clears_98 ?_
    refine g_last (pc := 99) S dX10_clears_99 (kf_10_16 k0) hyp (fun h6 hyp => ?_)
    refine g_iinc (pc := 100) (v := (a8 + (1 : Int32))) (lv' := [(8, .int (a8 + (1 : Int32))), (0, .ref (ad K c0)), (1, .int a1), (2, .int a2), (3, .int a3), (4, .long a4), (6, .long a6)]) 6 S dX10_clears_100 rfl (by rfl) (by decide) rfl ?_
    refine g_lti (C := fun v8_7 => Go K (100 + 3) [(8, .int v8_7), (0, .ref (ad K c0)), (1, .int a1), (2, .int a2), (3, .int a3), (4, .long a4), (6, .long a6)] [] h6) hyp (fun v8_7 hyp => ?_)
    refine g_goto (pc := 103) (tgt := 48) S dX10_clears_103 (by decide) ?_
    have hyp := Option.some.inj hyp
    subst hyp
    exact g_sub [1, 2, 3, 4, 5, 6, 0] rfl (hin (v8_7, h6) rfl)
  · have hyp := Option.some.inj hyp
    subst hyp
    exact g_sub [0, 1, 2, 3] rfl (hex0 h rfl)
set_option maxRecDepth 100000 in
set_option maxHeartbeats 4000000 in
theorem o_X10_clears_l2 {K : gK} (S : Cx K RX10 cX10_clears 9 0 0) {c0 : Nat} (k0 : kd c0 (10 + 10, 0)) (a1 : Int32) (a2 : Int32) (a3 : Int32) (h : Hp) {o : (Int32 × Hp) ⊕ (Hp)} (hyp : s_X10_clears_l2 c0 a1 a2 a3 h = some o) (hin : ∀ s', o = .inl s' → Go K 2 [(0, .ref (ad K c0)), (1, .int a1), (2, .int a2), (3, .int s'.1)] [] s'.2) (hex0 : ∀ s', o = .inr (s') → Go K 112 [] [] s') : Go K 2 [(0, .ref (ad K c0)), (1, .int a1), (2, .int a2), (3, .int a3)] [] h := by
  unfold s_X10_clears_l2 at hyp
  refine g_iload_n (pc := 2) 3 S dX10_clears_2 rfl ?_
  refine g_iconst (pc := 3) (v := (3 : Int32)) S dX10_clears_3 (by decide) ?_
  refine g_icmp_ge (pc := 4) (tgt := 112) S dX10_clears_4 (by decide) hyp (fun hyp => ?_) (fun hyp => ?_)
  · refine g_aload_n (pc := 7) 0 S dX10_clears_7 rfl ?_
    refine g_getR (pc := 8) S dX10_clears_8 fl_X10_60 k0 ?_
    refine g_bipush (pc := 11) (v := (10 : Int32)) S dX10_clears_11 (by decide) ?_
    refine g_iload_n (pc := 13) 3 S dX10_clears_13 rfl ?_
    refine g_imul (pc := 14) S dX10_clears_14 ?_
    refine g_iload_n (pc := 15) 2 S dX10_clears_15 rfl ?_
    refine g_iadd (pc := 16) S dX10_clears_16 ?_
    refine g_lald (pc := 17) S dX10_clears_17 (kf_10_16 k0) hyp (fun x1 hyp => ?_)
    refine g_lstore (pc := 18) (lv' := [(4, .long x1), (0, .ref (ad K c0)), (1, .int a1), (2, .int a2), (3, .int a3)]) S dX10_clears_18 (by decide) rfl ?_
    refine g_iload_n (pc := 20) 4 S dX10_clears_20 rfl ?_
    refine g_iload_n (pc := 21) 2 S dX10_clears_21 rfl ?_
    refine g_icmp_eq (pc := 22) (tgt := 106) S dX10_clears_22 (by decide) hyp (fun hyp => ?_) (fun hyp => ?_)
    · exact g_sub [1, 2, 3, 4] rfl (o_X10_clears_b106 S k0 a1 a2 a3 h hyp hin hex0)
    · refine g_lload (pc := 25) 0 S dX10_clears_25 rfl ?_
      refine g_lconst (pc := 27) (v := (0 : Int64)) S dX10_clears_27 (by decide) ?_
      refine g_lcmp_eq (pc := 28) (tgt := 106) S dX10_clears_28 dX10_clears_29 (by decide) hyp (fun hyp => ?_) (fun hyp => ?_)
      · exact g_sub [1, 2, 3, 4] rfl (o_X10_clears_b106 S k0 a1 a2 a3 h hyp hin hex0)
      · refine g_aload_n (pc := 32) 1 S dX10_clears_32 rfl ?_
        refine g_getR (pc := 33) S dX10_clears_33 fl_X10_60 k0 ?_
        refine g_bipush (pc := 36) (v := (10 : Int32)) S dX10_clears_36 (by decide) ?_
        refine g_iload_n (pc := 38) 2 S dX10_clears_38 rfl ?_
        refine g_imul (pc := 39) S dX10_clears_39 ?_
        refine g_iload_n (pc := 40) 3 S dX10_clears_40 rfl ?_
        refine g_iadd (pc := 41) S dX10_clears_41 ?_
        refine g_lald (pc := 42) S dX10_clears_42 (kf_10_16 k0) hyp (fun x3 hyp => ?_)
        refine g_lstore (pc := 43) (lv' := [(6, .long x3), (4, .long x1), (0, .ref (ad K c0)), (1, .int a1), (2, .int a2), (3, .int a3)]) S dX10_clears_43 (by decide) rfl ?_
        refine g_iconst (pc := 45) (v := (0 : Int32)) S dX10_clears_45 (by decide) ?_
        refine g_istore (pc := 46) (lv' := [(8, .int (0 : Int32)), (6, .long x3), (4, .long x1), (0, .ref (ad K c0)), (1, .int a1), (2, .int a2), (3, .int a3)]) S dX10_clears_46 (by decide) rfl ?_
        refine g_bind hyp (fun e8 he8 hyp => ?_)
        refine g_sub [3, 4, 5, 6, 2, 1, 0] rfl (g_loop (f := fun s : Int32 × Hp => s_X10_clears_l48 c0 a1 a2 a3 x1 x3 s.1 s.2) (ρ := Hp) (Hd := fun s : Int32 × Hp => Go K 48 [(0, .ref (ad K c0)), (1, .int a1), (2, .int a2), (3, .int a3), (4, .long x1), (6, .long x3), (8, .int s.1)] [] s.2) (Ex := fun e8 => Go K 106 [(0, .ref (ad K c0)), (1, .int a1), (2, .int a2), (3, .int a3)] [] e8) (fun s o h1 h2 h3 => o_X10_clears_l48 S k0 a1 a2 a3 x1 x3 s.1 s.2 h1 h2 h3) FUEL _ e8 he8 ?_)
        exact g_sub [0, 1, 2, 3] rfl (o_X10_clears_b106 S k0 a1 a2 a3 e8 hyp hin hex0)
  · have hyp := Option.some.inj hyp
    subst hyp
    exact g_sub [] rfl (hex0 h rfl)
set_option maxRecDepth 100000 in
set_option maxHeartbeats 4000000 in
theorem o_X10_clears {K : gK} (S : Cx K RX10 cX10_clears 9 0 0) {c0 : Nat} (k0 : kd c0 (10 + 10, 0)) (a1 : Int32) (a2 : Int32) (h : Hp) {o : Hp} (hyp : s_X10_clears c0 a1 a2 h = some o) (F : Rt K none none o) : Go K 0 [(0, .ref (ad K c0)), (1, .int a1), (2, .int a2)] [] h := by
  unfold s_X10_clears at hyp
  refine g_iconst (pc := 0) (v := (0 : Int32)) S dX10_clears_0 (by decide) ?_
  refine g_istore_n (pc := 1) (lv' := [(3, .int (0 : Int32)), (0, .ref (ad K c0)), (1, .int a1), (2, .int a2)]) S dX10_clears_1 rfl (by decide) rfl ?_
  refine g_bind hyp (fun e9 he9 hyp => ?_)
  refine g_sub [1, 2, 3, 0] rfl (g_loop (f := fun s : Int32 × Hp => s_X10_clears_l2 c0 a1 a2 s.1 s.2) (ρ := Hp) (Hd := fun s : Int32 × Hp => Go K 2 [(0, .ref (ad K c0)), (1, .int a1), (2, .int a2), (3, .int s.1)] [] s.2) (Ex := fun e9 => Go K 112 [] [] e9) (fun s o h1 h2 h3 => o_X10_clears_l2 S k0 a1 a2 s.1 s.2 h1 h2 h3) FUEL _ e9 he9 ?_)
  have hyp := Option.some.inj hyp
  subst hyp
  exact g_vret (pc := 112) S F dX10_clears_112
theorem m_X10_clears {l : Launch} {D : va_G} {cT : Nat → ClassId} {aD : Nat → Nat} {c0 : Nat} (k0 : kd c0 (10 + 10, 0)) (a1 : Int32) (a2 : Int32) (h : Hp) {o : Hp} (hyp : s_X10_clears c0 a1 a2 h = some o) : Ok l D cT aD yX10_clears cX10_clears 9 none 0 0 [.ref (aD c0), .int a1, .int a2] h none o :=
  Ok.of (by decide +kernel) rfl (Nat.le_of_ble_eq_true rfl) (fun K e1 e2 e3 e4 S F => by subst e1; exact o_X10_clears S k0 a1 a2 h hyp F)
