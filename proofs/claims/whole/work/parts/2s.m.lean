-- BoundProofsModel setPoint (III)Z
noncomputable def s_X10_setPoint_l224 (c0 : Nat) (a4 : Int64) (a6 : Int32) (h : Hp) : Option ((Int32 × Hp) ⊕ (Hp)) :=
  if a6 < (4 : Int32) then (ldJ h (c0 + 22) 4 a6 fun x16 =>
  nzJ a4 <|
  stJ h (c0 + 22) 4 a6 (x16 / a4) fun h17 =>
  lt (a6 + (1 : Int32)) fun v6_18 =>
  some (.inl (v6_18, h17)))
  else (some (.inr (h)))
noncomputable def s_X10_setPoint_b219 (c0 : Nat) (t0 : Int64) (h : Hp) : Option (Int32 × Hp) :=
  (iter (fun s : Int32 × Hp => s_X10_setPoint_l224 c0 t0 s.1 s.2) FUEL ((0 : Int32), h)).bind fun e19 =>
  some ((1 : Int32), e19)
noncomputable def s_X10_setPoint_b152 (c0 : Nat)  (h : Hp) : Option (Int32 × Hp) :=
  ldJ h (c0 + 22) 4 (3 : Int32) fun x7 =>
  if x7 = (0 : Int64) then (some ((0 : Int32), h))
  else (ldJ h (c0 + 22) 4 (0 : Int32) fun x8 =>
  ldJ h (c0 + 22) 4 (1 : Int32) fun x9 =>
  (s_X10_gcd  x8 x9 h).bind fun y10 =>
  ldJ h (c0 + 22) 4 (2 : Int32) fun x11 =>
  ldJ h (c0 + 22) 4 (3 : Int32) fun x12 =>
  (s_X10_gcd  x11 x12 h).bind fun y13 =>
  (s_X10_gcd  y10 y13 h).bind fun y14 =>
  ldJ h (c0 + 22) 4 (3 : Int32) fun x15 =>
  if x15 < (0 : Int64) then (s_X10_setPoint_b219 c0 (-y14) h)
  else (s_X10_setPoint_b219 c0 y14 h))
noncomputable def s_X10_setPoint_l109 (c0 : Nat) (a1 : Int32) (a2 : Int32) (a3 : Int32) (a4 : Int32) (h : Hp) : Option ((Int32 × Hp) ⊕ (Hp)) :=
  if a4 < (3 : Int32) then ((s_X10_threeDet c0 a1 a2 a3 a4 h).bind fun y26 =>
  stJ h (c0 + 22) 4 a4 y26 fun h27 =>
  lt (a4 + (1 : Int32)) fun v4_28 =>
  some (.inl (v4_28, h27)))
  else (some (.inr (h)))
noncomputable def s_X10_setPoint (c0 : Nat) (a1 : Int32) (a2 : Int32) (a3 : Int32) (h : Hp) : Option (Int32 × Hp) :=
  stJ h (c0 + 22) 4 (1 : Int32) (0 : Int64) fun h1 =>
  stJ h1 (c0 + 22) 4 (2 : Int32) (0 : Int64) fun h2 =>
  if (h2.1 c0 0) = (1 : Int32) then (ldI h2 (c0 + 2) 30 (((3 : Int32) * a1) + (2 : Int32)) fun x3 =>
  stJ h2 (c0 + 22) 4 (0 : Int32) (x3).toInt64 fun h4 =>
  (s_X10_coefficientOf c0 a1 (0 : Int32) h4).bind fun y5 =>
  stJ h4 (c0 + 22) 4 (3 : Int32) (y5).toInt64 fun h6 =>
  s_X10_setPoint_b152 c0  h6)
  else (if (h2.1 c0 0) = (2 : Int32) then ((s_X10_twoDet c0 a1 a2 (0 : Int32) h2).bind fun y20 =>
  stJ h2 (c0 + 22) 4 (0 : Int32) y20 fun h21 =>
  (s_X10_twoDet c0 a1 a2 (1 : Int32) h21).bind fun y22 =>
  stJ h21 (c0 + 22) 4 (1 : Int32) y22 fun h23 =>
  (s_X10_twoDet c0 a1 a2 (-9 : Int32) h23).bind fun y24 =>
  stJ h23 (c0 + 22) 4 (3 : Int32) y24 fun h25 =>
  s_X10_setPoint_b152 c0  h25)
  else ((iter (fun s : Int32 × Hp => s_X10_setPoint_l109 c0 a1 a2 a3 s.1 s.2) FUEL ((0 : Int32), h2)).bind fun e29 =>
  (s_X10_threeDet c0 a1 a2 a3 (-9 : Int32) e29).bind fun y30 =>
  stJ e29 (c0 + 22) 4 (3 : Int32) y30 fun h31 =>
  s_X10_setPoint_b152 c0  h31))
set_option maxRecDepth 100000 in
set_option maxHeartbeats 4000000 in
theorem o_X10_setPoint_l224 {K : gK} (S : Cx K RX10 cX10_setPoint 7 3 87) {c0 : Nat} (k0 : kd c0 (10 + 10, 0)) (a4 : Int64) (a6 : Int32) (h : Hp) {o : (Int32 × Hp) ⊕ (Hp)} (hyp : s_X10_setPoint_l224 c0 a4 a6 h = some o) (hin : ∀ s', o = .inl s' → Go K 224 [(0, .ref (ad K c0)), (4, .long a4), (6, .int s'.1)] [] s'.2) (hex0 : ∀ s', o = .inr (s') → Go K 248 [] [] s') : Go K 224 [(0, .ref (ad K c0)), (4, .long a4), (6, .int a6)] [] h := by
  unfold s_X10_setPoint_l224 at hyp
  refine g_iload (pc := 224) 2 S dX10_setPoint_224 rfl ?_
  refine g_iconst (pc := 226) (v := (4 : Int32)) S dX10_setPoint_226 (by decide) ?_
  refine g_icmp_ge (pc := 227) (tgt := 248) S dX10_setPoint_227 (by decide) hyp (fun hyp => ?_) (fun hyp => ?_)
  · refine g_aload_n (pc := 230) 0 S dX10_setPoint_230 rfl ?_
    refine g_getR (pc := 231) S dX10_setPoint_231 fl_X10_82 k0 ?_
    refine g_iload (pc := 234) 2 S dX10_setPoint_234 rfl ?_
    refine g_dup2 (pc := 236) S dX10_setPoint_236 rfl rfl ?_
    refine g_lald (pc := 237) S dX10_setPoint_237 (kf_10_22 k0) hyp (fun x16 hyp => ?_)
    refine g_lload (pc := 238) 1 S dX10_setPoint_238 rfl ?_
    refine g_nzJ hyp (fun hz hyp => ?_)
    refine g_ldiv (pc := 240) S dX10_setPoint_240 hz ?_
    refine g_last (pc := 241) S dX10_setPoint_241 (kf_10_22 k0) hyp (fun h17 hyp => ?_)
    refine g_iinc (pc := 242) (v := (a6 + (1 : Int32))) (lv' := [(6, .int (a6 + (1 : Int32))), (0, .ref (ad K c0)), (4, .long a4)]) 2 S dX10_setPoint_242 rfl (by rfl) (by decide) rfl ?_
    refine g_lti (C := fun v6_18 => Go K (242 + 3) [(6, .int v6_18), (0, .ref (ad K c0)), (4, .long a4)] [] h17) hyp (fun v6_18 hyp => ?_)
    refine g_goto (pc := 245) (tgt := 224) S dX10_setPoint_245 (by decide) ?_
    have hyp := Option.some.inj hyp
    subst hyp
    exact g_sub [1, 2, 0] rfl (hin (v6_18, h17) rfl)
  · have hyp := Option.some.inj hyp
    subst hyp
    exact g_sub [] rfl (hex0 h rfl)
set_option maxRecDepth 100000 in
set_option maxHeartbeats 4000000 in
theorem o_X10_setPoint_b219 {K : gK} (S : Cx K RX10 cX10_setPoint 7 3 87) {c0 : Nat} (k0 : kd c0 (10 + 10, 0)) (t0 : Int64) (h : Hp) {o : Int32 × Hp} (hyp : s_X10_setPoint_b219 c0 t0 h = some o) (F : Rt K (some .boolean) (some (.int o.1)) o.2) : Go K 219 [(0, .ref (ad K c0))] [.long t0] h := by
  unfold s_X10_setPoint_b219 at hyp
  refine g_lstore (pc := 219) (lv' := [(4, .long t0), (0, .ref (ad K c0))]) S dX10_setPoint_219 (by decide) rfl ?_
  refine g_iconst (pc := 221) (v := (0 : Int32)) S dX10_setPoint_221 (by decide) ?_
  refine g_istore (pc := 222) (lv' := [(6, .int (0 : Int32)), (4, .long t0), (0, .ref (ad K c0))]) S dX10_setPoint_222 (by decide) rfl ?_
  refine g_bind hyp (fun e19 he19 hyp => ?_)
  refine g_sub [2, 1, 0] rfl (g_loop (f := fun s : Int32 × Hp => s_X10_setPoint_l224 c0 t0 s.1 s.2) (ρ := Hp) (Hd := fun s : Int32 × Hp => Go K 224 [(0, .ref (ad K c0)), (4, .long t0), (6, .int s.1)] [] s.2) (Ex := fun e19 => Go K 248 [] [] e19) (fun s o h1 h2 h3 => o_X10_setPoint_l224 S k0 t0 s.1 s.2 h1 h2 h3) FUEL _ e19 he19 ?_)
  refine g_iconst (pc := 248) (v := (1 : Int32)) S dX10_setPoint_248 (by decide) ?_
  have hyp := Option.some.inj hyp
  subst hyp
  exact g_zret (pc := 249) S F dX10_setPoint_249 (Or.inr rfl)
set_option maxRecDepth 100000 in
set_option maxHeartbeats 4000000 in
theorem o_X10_setPoint_b152 {K : gK} (S : Cx K RX10 cX10_setPoint 7 3 87) {c0 : Nat} (k0 : kd c0 (10 + 10, 0))  (h : Hp) {o : Int32 × Hp} (hyp : s_X10_setPoint_b152 c0  h = some o) (F : Rt K (some .boolean) (some (.int o.1)) o.2) : Go K 152 [(0, .ref (ad K c0))] [] h := by
  unfold s_X10_setPoint_b152 at hyp
  refine g_aload_n (pc := 152) 0 S dX10_setPoint_152 rfl ?_
  refine g_getR (pc := 153) S dX10_setPoint_153 fl_X10_82 k0 ?_
  refine g_iconst (pc := 156) (v := (3 : Int32)) S dX10_setPoint_156 (by decide) ?_
  refine g_lald (pc := 157) S dX10_setPoint_157 (kf_10_22 k0) hyp (fun x7 hyp => ?_)
  refine g_lconst (pc := 158) (v := (0 : Int64)) S dX10_setPoint_158 (by decide) ?_
  refine g_lcmp_ne (pc := 159) (tgt := 165) S dX10_setPoint_159 dX10_setPoint_160 (by decide) hyp (fun hyp => ?_) (fun hyp => ?_)
  · refine g_iconst (pc := 163) (v := (0 : Int32)) S dX10_setPoint_163 (by decide) ?_
    have hyp := Option.some.inj hyp
    subst hyp
    exact g_zret (pc := 164) S F dX10_setPoint_164 (Or.inl rfl)
  · refine g_aload_n (pc := 165) 0 S dX10_setPoint_165 rfl ?_
    refine g_getR (pc := 166) S dX10_setPoint_166 fl_X10_82 k0 ?_
    refine g_iconst (pc := 169) (v := (0 : Int32)) S dX10_setPoint_169 (by decide) ?_
    refine g_lald (pc := 170) S dX10_setPoint_170 (kf_10_22 k0) hyp (fun x8 hyp => ?_)
    refine g_aload_n (pc := 171) 0 S dX10_setPoint_171 rfl ?_
    refine g_getR (pc := 172) S dX10_setPoint_172 fl_X10_82 k0 ?_
    refine g_iconst (pc := 175) (v := (1 : Int32)) S dX10_setPoint_175 (by decide) ?_
    refine g_lald (pc := 176) S dX10_setPoint_176 (kf_10_22 k0) hyp (fun x9 hyp => ?_)
    refine g_bind hyp (fun y10 hy10 hyp => ?_)
    refine g_callS (pc := 177) (As := [.long x8, .long x9]) (rest := []) S dX10_setPoint_177 tw_1106 tw_1107 mw_X10_gcd (m_X10_gcd  x8 x9 h hy10) rfl rfl (Nat.le_of_ble_eq_true rfl) (Nat.le_of_ble_eq_true rfl) (Nat.le_of_ble_eq_true rfl) ?_
    refine g_aload_n (pc := 180) 0 S dX10_setPoint_180 rfl ?_
    refine g_getR (pc := 181) S dX10_setPoint_181 fl_X10_82 k0 ?_
    refine g_iconst (pc := 184) (v := (2 : Int32)) S dX10_setPoint_184 (by decide) ?_
    refine g_lald (pc := 185) S dX10_setPoint_185 (kf_10_22 k0) hyp (fun x11 hyp => ?_)
    refine g_aload_n (pc := 186) 0 S dX10_setPoint_186 rfl ?_
    refine g_getR (pc := 187) S dX10_setPoint_187 fl_X10_82 k0 ?_
    refine g_iconst (pc := 190) (v := (3 : Int32)) S dX10_setPoint_190 (by decide) ?_
    refine g_lald (pc := 191) S dX10_setPoint_191 (kf_10_22 k0) hyp (fun x12 hyp => ?_)
    refine g_bind hyp (fun y13 hy13 hyp => ?_)
    refine g_callS (pc := 192) (As := [.long x11, .long x12]) (rest := [.long y10]) S dX10_setPoint_192 tw_1106 tw_1107 mw_X10_gcd (m_X10_gcd  x11 x12 h hy13) rfl rfl (Nat.le_of_ble_eq_true rfl) (Nat.le_of_ble_eq_true rfl) (Nat.le_of_ble_eq_true rfl) ?_
    refine g_bind hyp (fun y14 hy14 hyp => ?_)
    refine g_callS (pc := 195) (As := [.long y10, .long y13]) (rest := []) S dX10_setPoint_195 tw_1106 tw_1107 mw_X10_gcd (m_X10_gcd  y10 y13 h hy14) rfl rfl (Nat.le_of_ble_eq_true rfl) (Nat.le_of_ble_eq_true rfl) (Nat.le_of_ble_eq_true rfl) ?_
    refine g_lstore (pc := 198) (lv' := [(4, .long y14), (0, .ref (ad K c0))]) S dX10_setPoint_198 (by decide) rfl ?_
    refine g_aload_n (pc := 200) 1 S dX10_setPoint_200 rfl ?_
    refine g_getR (pc := 201) S dX10_setPoint_201 fl_X10_82 k0 ?_
    refine g_iconst (pc := 204) (v := (3 : Int32)) S dX10_setPoint_204 (by decide) ?_
    refine g_lald (pc := 205) S dX10_setPoint_205 (kf_10_22 k0) hyp (fun x15 hyp => ?_)
    refine g_lconst (pc := 206) (v := (0 : Int64)) S dX10_setPoint_206 (by decide) ?_
    refine g_lcmp_ge (pc := 207) (tgt := 217) S dX10_setPoint_207 dX10_setPoint_208 (by decide) hyp (fun hyp => ?_) (fun hyp => ?_)
    · refine g_lload (pc := 211) 0 S dX10_setPoint_211 rfl ?_
      refine g_lneg (pc := 213) S dX10_setPoint_213 ?_
      refine g_goto (pc := 214) (tgt := 219) S dX10_setPoint_214 (by decide) ?_
      exact g_sub [1] rfl (o_X10_setPoint_b219 S k0 (-y14) h hyp F)
    · refine g_lload (pc := 217) 0 S dX10_setPoint_217 rfl ?_
      exact g_sub [1] rfl (o_X10_setPoint_b219 S k0 y14 h hyp F)
set_option maxRecDepth 100000 in
set_option maxHeartbeats 4000000 in
theorem o_X10_setPoint_l109 {K : gK} (S : Cx K RX10 cX10_setPoint 7 3 87) {c0 : Nat} (k0 : kd c0 (10 + 10, 0)) (a1 : Int32) (a2 : Int32) (a3 : Int32) (a4 : Int32) (h : Hp) {o : (Int32 × Hp) ⊕ (Hp)} (hyp : s_X10_setPoint_l109 c0 a1 a2 a3 a4 h = some o) (hin : ∀ s', o = .inl s' → Go K 109 [(0, .ref (ad K c0)), (1, .int a1), (2, .int a2), (3, .int a3), (4, .int s'.1)] [] s'.2) (hex0 : ∀ s', o = .inr (s') → Go K 137 [(0, .ref (ad K c0)), (1, .int a1), (2, .int a2), (3, .int a3)] [] s') : Go K 109 [(0, .ref (ad K c0)), (1, .int a1), (2, .int a2), (3, .int a3), (4, .int a4)] [] h := by
  unfold s_X10_setPoint_l109 at hyp
  refine g_iload (pc := 109) 4 S dX10_setPoint_109 rfl ?_
  refine g_iconst (pc := 111) (v := (3 : Int32)) S dX10_setPoint_111 (by decide) ?_
  refine g_icmp_ge (pc := 112) (tgt := 137) S dX10_setPoint_112 (by decide) hyp (fun hyp => ?_) (fun hyp => ?_)
  · refine g_aload_n (pc := 115) 0 S dX10_setPoint_115 rfl ?_
    refine g_getR (pc := 116) S dX10_setPoint_116 fl_X10_82 k0 ?_
    refine g_iload (pc := 119) 4 S dX10_setPoint_119 rfl ?_
    refine g_aload_n (pc := 121) 0 S dX10_setPoint_121 rfl ?_
    refine g_iload_n (pc := 122) 1 S dX10_setPoint_122 rfl ?_
    refine g_iload_n (pc := 123) 2 S dX10_setPoint_123 rfl ?_
    refine g_iload_n (pc := 124) 3 S dX10_setPoint_124 rfl ?_
    refine g_iload (pc := 125) 4 S dX10_setPoint_125 rfl ?_
    refine g_bind hyp (fun y26 hy26 hyp => ?_)
    refine g_callV (pc := 127) (As := [.int a1, .int a2, .int a3, .int a4]) (rest := [.int a4, .ref (ad K (c0 + 22))]) S dX10_setPoint_127 k0 rfl tw_1203 tw_1204 tw_71 mw_X10_threeDet (m_X10_threeDet k0 a1 a2 a3 a4 h hy26) rfl rfl (Nat.le_of_ble_eq_true rfl) (Nat.le_of_ble_eq_true rfl) (Nat.le_of_ble_eq_true rfl) ?_
    refine g_last (pc := 130) S dX10_setPoint_130 (kf_10_22 k0) hyp (fun h27 hyp => ?_)
    refine g_iinc (pc := 131) (v := (a4 + (1 : Int32))) (lv' := [(4, .int (a4 + (1 : Int32))), (0, .ref (ad K c0)), (1, .int a1), (2, .int a2), (3, .int a3)]) 4 S dX10_setPoint_131 rfl (by rfl) (by decide) rfl ?_
    refine g_lti (C := fun v4_28 => Go K (131 + 3) [(4, .int v4_28), (0, .ref (ad K c0)), (1, .int a1), (2, .int a2), (3, .int a3)] [] h27) hyp (fun v4_28 hyp => ?_)
    refine g_goto (pc := 134) (tgt := 109) S dX10_setPoint_134 (by decide) ?_
    have hyp := Option.some.inj hyp
    subst hyp
    exact g_sub [1, 2, 3, 4, 0] rfl (hin (v4_28, h27) rfl)
  · have hyp := Option.some.inj hyp
    subst hyp
    exact g_sub [0, 1, 2, 3] rfl (hex0 h rfl)
set_option maxRecDepth 100000 in
set_option maxHeartbeats 4000000 in
theorem o_X10_setPoint {K : gK} (S : Cx K RX10 cX10_setPoint 7 3 87) {c0 : Nat} (k0 : kd c0 (10 + 10, 0)) (a1 : Int32) (a2 : Int32) (a3 : Int32) (h : Hp) {o : Int32 × Hp} (hyp : s_X10_setPoint c0 a1 a2 a3 h = some o) (F : Rt K (some .boolean) (some (.int o.1)) o.2) : Go K 0 [(0, .ref (ad K c0)), (1, .int a1), (2, .int a2), (3, .int a3)] [] h := by
  unfold s_X10_setPoint at hyp
  refine g_aload_n (pc := 0) 0 S dX10_setPoint_0 rfl ?_
  refine g_getR (pc := 1) S dX10_setPoint_1 fl_X10_82 k0 ?_
  refine g_iconst (pc := 4) (v := (1 : Int32)) S dX10_setPoint_4 (by decide) ?_
  refine g_lconst (pc := 5) (v := (0 : Int64)) S dX10_setPoint_5 (by decide) ?_
  refine g_last (pc := 6) S dX10_setPoint_6 (kf_10_22 k0) hyp (fun h1 hyp => ?_)
  refine g_aload_n (pc := 7) 0 S dX10_setPoint_7 rfl ?_
  refine g_getR (pc := 8) S dX10_setPoint_8 fl_X10_82 k0 ?_
  refine g_iconst (pc := 11) (v := (2 : Int32)) S dX10_setPoint_11 (by decide) ?_
  refine g_lconst (pc := 12) (v := (0 : Int64)) S dX10_setPoint_12 (by decide) ?_
  refine g_last (pc := 13) S dX10_setPoint_13 (kf_10_22 k0) hyp (fun h2 hyp => ?_)
  refine g_aload_n (pc := 14) 0 S dX10_setPoint_14 rfl ?_
  refine g_getI (pc := 15) S dX10_setPoint_15 fl_X10_7 k0 ?_
  refine g_iconst (pc := 18) (v := (1 : Int32)) S dX10_setPoint_18 (by decide) ?_
  refine g_icmp_ne (pc := 19) (tgt := 55) S dX10_setPoint_19 (by decide) hyp (fun hyp => ?_) (fun hyp => ?_)
  · refine g_aload_n (pc := 22) 0 S dX10_setPoint_22 rfl ?_
    refine g_getR (pc := 23) S dX10_setPoint_23 fl_X10_82 k0 ?_
    refine g_iconst (pc := 26) (v := (0 : Int32)) S dX10_setPoint_26 (by decide) ?_
    refine g_aload_n (pc := 27) 0 S dX10_setPoint_27 rfl ?_
    refine g_getR (pc := 28) S dX10_setPoint_28 fl_X10_17 k0 ?_
    refine g_iconst (pc := 31) (v := (3 : Int32)) S dX10_setPoint_31 (by decide) ?_
    refine g_iload_n (pc := 32) 1 S dX10_setPoint_32 rfl ?_
    refine g_imul (pc := 33) S dX10_setPoint_33 ?_
    refine g_iconst (pc := 34) (v := (2 : Int32)) S dX10_setPoint_34 (by decide) ?_
    refine g_iadd (pc := 35) S dX10_setPoint_35 ?_
    refine g_iald (pc := 36) S dX10_setPoint_36 (kf_10_2 k0) hyp (fun x3 hyp => ?_)
    refine g_i2l (pc := 37) S dX10_setPoint_37 ?_
    refine g_last (pc := 38) S dX10_setPoint_38 (kf_10_22 k0) hyp (fun h4 hyp => ?_)
    refine g_aload_n (pc := 39) 0 S dX10_setPoint_39 rfl ?_
    refine g_getR (pc := 40) S dX10_setPoint_40 fl_X10_82 k0 ?_
    refine g_iconst (pc := 43) (v := (3 : Int32)) S dX10_setPoint_43 (by decide) ?_
    refine g_aload_n (pc := 44) 0 S dX10_setPoint_44 rfl ?_
    refine g_iload_n (pc := 45) 1 S dX10_setPoint_45 rfl ?_
    refine g_iconst (pc := 46) (v := (0 : Int32)) S dX10_setPoint_46 (by decide) ?_
    refine g_bind hyp (fun y5 hy5 hyp => ?_)
    refine g_callV (pc := 47) (As := [.int a1, .int (0 : Int32)]) (rest := [.int (3 : Int32), .ref (ad K (c0 + 22))]) S dX10_setPoint_47 k0 rfl tw_1058 tw_1059 tw_42 mw_X10_coefficientOf (m_X10_coefficientOf k0 a1 (0 : Int32) h4 hy5) rfl rfl (Nat.le_of_ble_eq_true rfl) (Nat.le_of_ble_eq_true rfl) (Nat.le_of_ble_eq_true rfl) ?_
    refine g_i2l (pc := 50) S dX10_setPoint_50 ?_
    refine g_last (pc := 51) S dX10_setPoint_51 (kf_10_22 k0) hyp (fun h6 hyp => ?_)
    refine g_goto (pc := 52) (tgt := 152) S dX10_setPoint_52 (by decide) ?_
    exact g_sub [0] rfl (o_X10_setPoint_b152 S k0  h6 hyp F)
  · refine g_aload_n (pc := 55) 0 S dX10_setPoint_55 rfl ?_
    refine g_getI (pc := 56) S dX10_setPoint_56 fl_X10_7 k0 ?_
    refine g_iconst (pc := 59) (v := (2 : Int32)) S dX10_setPoint_59 (by decide) ?_
    refine g_icmp_ne (pc := 60) (tgt := 106) S dX10_setPoint_60 (by decide) hyp (fun hyp => ?_) (fun hyp => ?_)
    · refine g_aload_n (pc := 63) 0 S dX10_setPoint_63 rfl ?_
      refine g_getR (pc := 64) S dX10_setPoint_64 fl_X10_82 k0 ?_
      refine g_iconst (pc := 67) (v := (0 : Int32)) S dX10_setPoint_67 (by decide) ?_
      refine g_aload_n (pc := 68) 0 S dX10_setPoint_68 rfl ?_
      refine g_iload_n (pc := 69) 1 S dX10_setPoint_69 rfl ?_
      refine g_iload_n (pc := 70) 2 S dX10_setPoint_70 rfl ?_
      refine g_iconst (pc := 71) (v := (0 : Int32)) S dX10_setPoint_71 (by decide) ?_
      refine g_bind hyp (fun y20 hy20 hyp => ?_)
      refine g_callV (pc := 72) (As := [.int a1, .int a2, .int (0 : Int32)]) (rest := [.int (0 : Int32), .ref (ad K (c0 + 22))]) S dX10_setPoint_72 k0 rfl tw_1197 tw_1198 tw_70 mw_X10_twoDet (m_X10_twoDet k0 a1 a2 (0 : Int32) h2 hy20) rfl rfl (Nat.le_of_ble_eq_true rfl) (Nat.le_of_ble_eq_true rfl) (Nat.le_of_ble_eq_true rfl) ?_
      refine g_last (pc := 75) S dX10_setPoint_75 (kf_10_22 k0) hyp (fun h21 hyp => ?_)
      refine g_aload_n (pc := 76) 0 S dX10_setPoint_76 rfl ?_
      refine g_getR (pc := 77) S dX10_setPoint_77 fl_X10_82 k0 ?_
      refine g_iconst (pc := 80) (v := (1 : Int32)) S dX10_setPoint_80 (by decide) ?_
      refine g_aload_n (pc := 81) 0 S dX10_setPoint_81 rfl ?_
      refine g_iload_n (pc := 82) 1 S dX10_setPoint_82 rfl ?_
      refine g_iload_n (pc := 83) 2 S dX10_setPoint_83 rfl ?_
      refine g_iconst (pc := 84) (v := (1 : Int32)) S dX10_setPoint_84 (by decide) ?_
      refine g_bind hyp (fun y22 hy22 hyp => ?_)
      refine g_callV (pc := 85) (As := [.int a1, .int a2, .int (1 : Int32)]) (rest := [.int (1 : Int32), .ref (ad K (c0 + 22))]) S dX10_setPoint_85 k0 rfl tw_1197 tw_1198 tw_70 mw_X10_twoDet (m_X10_twoDet k0 a1 a2 (1 : Int32) h21 hy22) rfl rfl (Nat.le_of_ble_eq_true rfl) (Nat.le_of_ble_eq_true rfl) (Nat.le_of_ble_eq_true rfl) ?_
      refine g_last (pc := 88) S dX10_setPoint_88 (kf_10_22 k0) hyp (fun h23 hyp => ?_)
      refine g_aload_n (pc := 89) 0 S dX10_setPoint_89 rfl ?_
      refine g_getR (pc := 90) S dX10_setPoint_90 fl_X10_82 k0 ?_
      refine g_iconst (pc := 93) (v := (3 : Int32)) S dX10_setPoint_93 (by decide) ?_
      refine g_aload_n (pc := 94) 0 S dX10_setPoint_94 rfl ?_
      refine g_iload_n (pc := 95) 1 S dX10_setPoint_95 rfl ?_
      refine g_iload_n (pc := 96) 2 S dX10_setPoint_96 rfl ?_
      refine g_bipush (pc := 97) (v := (-9 : Int32)) S dX10_setPoint_97 (by decide) ?_
      refine g_bind hyp (fun y24 hy24 hyp => ?_)
      refine g_callV (pc := 99) (As := [.int a1, .int a2, .int (-9 : Int32)]) (rest := [.int (3 : Int32), .ref (ad K (c0 + 22))]) S dX10_setPoint_99 k0 rfl tw_1197 tw_1198 tw_70 mw_X10_twoDet (m_X10_twoDet k0 a1 a2 (-9 : Int32) h23 hy24) rfl rfl (Nat.le_of_ble_eq_true rfl) (Nat.le_of_ble_eq_true rfl) (Nat.le_of_ble_eq_true rfl) ?_
      refine g_last (pc := 102) S dX10_setPoint_102 (kf_10_22 k0) hyp (fun h25 hyp => ?_)
      refine g_goto (pc := 103) (tgt := 152) S dX10_setPoint_103 (by decide) ?_
      exact g_sub [0] rfl (o_X10_setPoint_b152 S k0  h25 hyp F)
    · refine g_iconst (pc := 106) (v := (0 : Int32)) S dX10_setPoint_106 (by decide) ?_
      refine g_istore (pc := 107) (lv' := [(4, .int (0 : Int32)), (0, .ref (ad K c0)), (1, .int a1), (2, .int a2), (3, .int a3)]) S dX10_setPoint_107 (by decide) rfl ?_
      refine g_bind hyp (fun e29 he29 hyp => ?_)
      refine g_sub [1, 2, 3, 4, 0] rfl (g_loop (f := fun s : Int32 × Hp => s_X10_setPoint_l109 c0 a1 a2 a3 s.1 s.2) (ρ := Hp) (Hd := fun s : Int32 × Hp => Go K 109 [(0, .ref (ad K c0)), (1, .int a1), (2, .int a2), (3, .int a3), (4, .int s.1)] [] s.2) (Ex := fun e29 => Go K 137 [(0, .ref (ad K c0)), (1, .int a1), (2, .int a2), (3, .int a3)] [] e29) (fun s o h1 h2 h3 => o_X10_setPoint_l109 S k0 a1 a2 a3 s.1 s.2 h1 h2 h3) FUEL _ e29 he29 ?_)
      refine g_aload_n (pc := 137) 0 S dX10_setPoint_137 rfl ?_
      refine g_getR (pc := 138) S dX10_setPoint_138 fl_X10_82 k0 ?_
      refine g_iconst (pc := 141) (v := (3 : Int32)) S dX10_setPoint_141 (by decide) ?_
      refine g_aload_n (pc := 142) 0 S dX10_setPoint_142 rfl ?_
      refine g_iload_n (pc := 143) 1 S dX10_setPoint_143 rfl ?_
      refine g_iload_n (pc := 144) 2 S dX10_setPoint_144 rfl ?_
      refine g_iload_n (pc := 145) 3 S dX10_setPoint_145 rfl ?_
      refine g_bipush (pc := 146) (v := (-9 : Int32)) S dX10_setPoint_146 (by decide) ?_
      refine g_bind hyp (fun y30 hy30 hyp => ?_)
      refine g_callV (pc := 148) (As := [.int a1, .int a2, .int a3, .int (-9 : Int32)]) (rest := [.int (3 : Int32), .ref (ad K (c0 + 22))]) S dX10_setPoint_148 k0 rfl tw_1203 tw_1204 tw_71 mw_X10_threeDet (m_X10_threeDet k0 a1 a2 a3 (-9 : Int32) e29 hy30) rfl rfl (Nat.le_of_ble_eq_true rfl) (Nat.le_of_ble_eq_true rfl) (Nat.le_of_ble_eq_true rfl) ?_
      refine g_last (pc := 151) S dX10_setPoint_151 (kf_10_22 k0) hyp (fun h31 hyp => ?_)
      exact g_sub [0] rfl (o_X10_setPoint_b152 S k0  h31 hyp F)
theorem m_X10_setPoint {l : Launch} {D : va_G} {cT : Nat → ClassId} {aD : Nat → Nat} {c0 : Nat} (k0 : kd c0 (10 + 10, 0)) (a1 : Int32) (a2 : Int32) (a3 : Int32) (h : Hp) {o : Int32 × Hp} (hyp : s_X10_setPoint c0 a1 a2 a3 h = some o) : Ok l D cT aD yX10_setPoint cX10_setPoint 7 (some .boolean) 3 87 [.ref (aD c0), .int a1, .int a2, .int a3] h (some (.int o.1)) o.2 :=
  Ok.of (by decide +kernel) rfl (Nat.le_of_ble_eq_true rfl) (fun K e1 e2 e3 e4 S F => by subst e1; exact o_X10_setPoint S k0 a1 a2 a3 h hyp F)
-- BoundProofsModel isWithin ()Z
noncomputable def s_X10_isWithin_l33 (c0 : Nat) (a1 : Int32) (a2 : Int64) (a4 : Int32) (h : Hp) : Option ((Int64 × Int32) ⊕ (Int64)) :=
  if a4 < (3 : Int32) then ((s_X10_coefficientOf c0 a1 a4 h).bind fun y4 =>
  ldJ h (c0 + 22) 4 a4 fun x5 =>
  lt (a2 + ((y4).toInt64 * x5)) fun v2_6 =>
  lt (a4 + (1 : Int32)) fun v4_7 =>
  some (.inl (v2_6, v4_7)))
  else (some (.inr (a2)))
noncomputable def s_X10_isWithin_b120 (c0 : Nat) (a1 : Int32) (h : Hp) : Option ((Int32) ⊕ ((Unit) ⊕ (Int32))) :=
  lt (a1 + (1 : Int32)) fun v1_10 =>
  some (.inl v1_10)
noncomputable def s_X10_isWithin_b106 (c0 : Nat) (a1 : Int32) (a2 : Int64) (a4 : Int32) (h : Hp) : Option ((Int32) ⊕ ((Unit) ⊕ (Int32))) :=
  if a4 = (4 : Int32) then (if a2 = (0 : Int64) then (s_X10_isWithin_b120 c0 a1 h)
  else (some (.inr (.inr (0 : Int32)))))
  else (s_X10_isWithin_b120 c0 a1 h)
noncomputable def s_X10_isWithin_b100 (c0 : Nat) (a1 : Int32) (a2 : Int64) (a4 : Int32) (h : Hp) : Option ((Int32) ⊕ ((Unit) ⊕ (Int32))) :=
  if a2 < (0 : Int64) then (some (.inr (.inr (0 : Int32))))
  else (s_X10_isWithin_b106 c0 a1 a2 a4 h)
noncomputable def s_X10_isWithin_b88 (c0 : Nat) (a1 : Int32) (a2 : Int64) (a4 : Int32) (h : Hp) : Option ((Int32) ⊕ ((Unit) ⊕ (Int32))) :=
  if a4 = (2 : Int32) then (s_X10_isWithin_b100 c0 a1 a2 a4 h)
  else (if a4 = (3 : Int32) then (s_X10_isWithin_b100 c0 a1 a2 a4 h)
  else (s_X10_isWithin_b106 c0 a1 a2 a4 h))
noncomputable def s_X10_isWithin_l2 (c0 : Nat) (a1 : Int32) (h : Hp) : Option ((Int32) ⊕ ((Unit) ⊕ (Int32))) :=
  if a1 < (h.1 c0 3) then (ldI h (c0 + 2) 30 (((3 : Int32) * a1) + (2 : Int32)) fun x1 =>
  ldJ h (c0 + 22) 4 (3 : Int32) fun x2 =>
  lt (((-x1)).toInt64 * x2) fun v2_3 =>
  (iter (fun s : Int64 × Int32 => s_X10_isWithin_l33 c0 a1 s.1 s.2 h) FUEL (v2_3, (0 : Int32))).bind fun e8 =>
  ldI h (c0 + 2) 30 (((3 : Int32) * a1) + (1 : Int32)) fun x9 =>
  if x9 < (2 : Int32) then (if (0 : Int64) < e8 then (some (.inr (.inr (0 : Int32))))
  else (s_X10_isWithin_b88 c0 a1 e8 x9 h))
  else (s_X10_isWithin_b88 c0 a1 e8 x9 h))
  else (some (.inr (.inl ())))
noncomputable def s_X10_isWithin (c0 : Nat)  (h : Hp) : Option (Int32) :=
  (iter (fun s : Int32 => s_X10_isWithin_l2 c0 s h) FUEL (0 : Int32)).bind (Sum.elim (fun t12 => some (1 : Int32))
  (fun t13 => some t13))
set_option maxRecDepth 100000 in
set_option maxHeartbeats 4000000 in
theorem o_X10_isWithin_l33 {K : gK} (S : Cx K RX10 cX10_isWithin 5 1 26) {c0 : Nat} (k0 : kd c0 (10 + 10, 0)) (a1 : Int32) (a2 : Int64) (a4 : Int32) (h : Hp) {o : (Int64 × Int32) ⊕ (Int64)} (hyp : s_X10_isWithin_l33 c0 a1 a2 a4 h = some o) (hin : ∀ s', o = .inl s' → Go K 33 [(0, .ref (ad K c0)), (1, .int a1), (2, .long s'.1), (4, .int s'.2)] [] h) (hex0 : ∀ s', o = .inr (s') → Go K 64 [(0, .ref (ad K c0)), (1, .int a1), (2, .long s')] [] h) : Go K 33 [(0, .ref (ad K c0)), (1, .int a1), (2, .long a2), (4, .int a4)] [] h := by
  unfold s_X10_isWithin_l33 at hyp
  refine g_iload (pc := 33) 3 S dX10_isWithin_33 rfl ?_
  refine g_iconst (pc := 35) (v := (3 : Int32)) S dX10_isWithin_35 (by decide) ?_
  refine g_icmp_ge (pc := 36) (tgt := 64) S dX10_isWithin_36 (by decide) hyp (fun hyp => ?_) (fun hyp => ?_)
  · refine g_lload_n (pc := 39) 2 S dX10_isWithin_39 rfl ?_
    refine g_aload_n (pc := 40) 0 S dX10_isWithin_40 rfl ?_
    refine g_iload_n (pc := 41) 1 S dX10_isWithin_41 rfl ?_
    refine g_iload (pc := 42) 3 S dX10_isWithin_42 rfl ?_
    refine g_bind hyp (fun y4 hy4 hyp => ?_)
    refine g_callV (pc := 44) (As := [.int a1, .int a4]) (rest := [.long a2]) S dX10_isWithin_44 k0 rfl tw_1058 tw_1059 tw_42 mw_X10_coefficientOf (m_X10_coefficientOf k0 a1 a4 h hy4) rfl rfl (Nat.le_of_ble_eq_true rfl) (Nat.le_of_ble_eq_true rfl) (Nat.le_of_ble_eq_true rfl) ?_
    refine g_i2l (pc := 47) S dX10_isWithin_47 ?_
    refine g_aload_n (pc := 48) 0 S dX10_isWithin_48 rfl ?_
    refine g_getR (pc := 49) S dX10_isWithin_49 fl_X10_82 k0 ?_
    refine g_iload (pc := 52) 3 S dX10_isWithin_52 rfl ?_
    refine g_lald (pc := 54) S dX10_isWithin_54 (kf_10_22 k0) hyp (fun x5 hyp => ?_)
    refine g_lmul (pc := 55) S dX10_isWithin_55 ?_
    refine g_ladd (pc := 56) S dX10_isWithin_56 ?_
    refine g_lti (C := fun v2_6 => Go K 57 [(0, .ref (ad K c0)), (1, .int a1), (2, .long a2), (4, .int a4)] [.long v2_6] h) hyp (fun v2_6 hyp => ?_)
    refine g_lstore_n (pc := 57) (lv' := [(2, .long v2_6), (0, .ref (ad K c0)), (1, .int a1), (4, .int a4)]) S dX10_isWithin_57 rfl (by decide) rfl ?_
    refine g_iinc (pc := 58) (v := (a4 + (1 : Int32))) (lv' := [(4, .int (a4 + (1 : Int32))), (2, .long v2_6), (0, .ref (ad K c0)), (1, .int a1)]) 3 S dX10_isWithin_58 rfl (by rfl) (by decide) rfl ?_
    refine g_lti (C := fun v4_7 => Go K (58 + 3) [(4, .int v4_7), (2, .long v2_6), (0, .ref (ad K c0)), (1, .int a1)] [] h) hyp (fun v4_7 hyp => ?_)
    refine g_goto (pc := 61) (tgt := 33) S dX10_isWithin_61 (by decide) ?_
    have hyp := Option.some.inj hyp
    subst hyp
    exact g_sub [2, 3, 1, 0] rfl (hin (v2_6, v4_7) rfl)
  · have hyp := Option.some.inj hyp
    subst hyp
    exact g_sub [0, 1, 2] rfl (hex0 a2 rfl)
set_option maxRecDepth 100000 in
set_option maxHeartbeats 4000000 in
theorem o_X10_isWithin_b120 {K : gK} (S : Cx K RX10 cX10_isWithin 5 1 26) {c0 : Nat} (k0 : kd c0 (10 + 10, 0)) (a1 : Int32) (h : Hp) {o : (Int32) ⊕ ((Unit) ⊕ (Int32))} (hyp : s_X10_isWithin_b120 c0 a1 h = some o) (hin : ∀ s', o = .inl s' → Go K 2 [(0, .ref (ad K c0)), (1, .int s')] [] h) (hex0 : ∀ s', o = .inr (.inl s') → Go K 126 [] [] h) (hret : ∀ x', o = .inr (.inr x') → Rt K (some .boolean) (some (.int x')) h) : Go K 120 [(0, .ref (ad K c0)), (1, .int a1)] [] h := by
  unfold s_X10_isWithin_b120 at hyp
  refine g_iinc (pc := 120) (v := (a1 + (1 : Int32))) (lv' := [(1, .int (a1 + (1 : Int32))), (0, .ref (ad K c0))]) 1 S dX10_isWithin_120 rfl (by rfl) (by decide) rfl ?_
  refine g_lti (C := fun v1_10 => Go K (120 + 3) [(1, .int v1_10), (0, .ref (ad K c0))] [] h) hyp (fun v1_10 hyp => ?_)
  refine g_goto (pc := 123) (tgt := 2) S dX10_isWithin_123 (by decide) ?_
  have hyp := Option.some.inj hyp
  subst hyp
  exact g_sub [1, 0] rfl (hin v1_10 rfl)
set_option maxRecDepth 100000 in
set_option maxHeartbeats 4000000 in
theorem o_X10_isWithin_b106 {K : gK} (S : Cx K RX10 cX10_isWithin 5 1 26) {c0 : Nat} (k0 : kd c0 (10 + 10, 0)) (a1 : Int32) (a2 : Int64) (a4 : Int32) (h : Hp) {o : (Int32) ⊕ ((Unit) ⊕ (Int32))} (hyp : s_X10_isWithin_b106 c0 a1 a2 a4 h = some o) (hin : ∀ s', o = .inl s' → Go K 2 [(0, .ref (ad K c0)), (1, .int s')] [] h) (hex0 : ∀ s', o = .inr (.inl s') → Go K 126 [] [] h) (hret : ∀ x', o = .inr (.inr x') → Rt K (some .boolean) (some (.int x')) h) : Go K 106 [(0, .ref (ad K c0)), (1, .int a1), (2, .long a2), (4, .int a4)] [] h := by
  unfold s_X10_isWithin_b106 at hyp
  refine g_iload (pc := 106) 3 S dX10_isWithin_106 rfl ?_
  refine g_iconst (pc := 108) (v := (4 : Int32)) S dX10_isWithin_108 (by decide) ?_
  refine g_icmp_ne (pc := 109) (tgt := 120) S dX10_isWithin_109 (by decide) hyp (fun hyp => ?_) (fun hyp => ?_)
  · refine g_lload_n (pc := 112) 2 S dX10_isWithin_112 rfl ?_
    refine g_lconst (pc := 113) (v := (0 : Int64)) S dX10_isWithin_113 (by decide) ?_
    refine g_lcmp_eq (pc := 114) (tgt := 120) S dX10_isWithin_114 dX10_isWithin_115 (by decide) hyp (fun hyp => ?_) (fun hyp => ?_)
    · exact g_sub [0, 1] rfl (o_X10_isWithin_b120 S k0 a1 h hyp hin hex0 hret)
    · refine g_iconst (pc := 118) (v := (0 : Int32)) S dX10_isWithin_118 (by decide) ?_
      have hyp := Option.some.inj hyp
      subst hyp
      exact g_zret (pc := 119) S (hret (0 : Int32) rfl) dX10_isWithin_119 (Or.inl rfl)
  · exact g_sub [0, 1] rfl (o_X10_isWithin_b120 S k0 a1 h hyp hin hex0 hret)
set_option maxRecDepth 100000 in
set_option maxHeartbeats 4000000 in
theorem o_X10_isWithin_b100 {K : gK} (S : Cx K RX10 cX10_isWithin 5 1 26) {c0 : Nat} (k0 : kd c0 (10 + 10, 0)) (a1 : Int32) (a2 : Int64) (a4 : Int32) (h : Hp) {o : (Int32) ⊕ ((Unit) ⊕ (Int32))} (hyp : s_X10_isWithin_b100 c0 a1 a2 a4 h = some o) (hin : ∀ s', o = .inl s' → Go K 2 [(0, .ref (ad K c0)), (1, .int s')] [] h) (hex0 : ∀ s', o = .inr (.inl s') → Go K 126 [] [] h) (hret : ∀ x', o = .inr (.inr x') → Rt K (some .boolean) (some (.int x')) h) : Go K 100 [(0, .ref (ad K c0)), (1, .int a1), (2, .long a2), (4, .int a4)] [] h := by
  unfold s_X10_isWithin_b100 at hyp
  refine g_lload_n (pc := 100) 2 S dX10_isWithin_100 rfl ?_
  refine g_lconst (pc := 101) (v := (0 : Int64)) S dX10_isWithin_101 (by decide) ?_
  refine g_lcmp_lt (pc := 102) (tgt := 118) S dX10_isWithin_102 dX10_isWithin_103 (by decide) hyp (fun hyp => ?_) (fun hyp => ?_)
  · refine g_iconst (pc := 118) (v := (0 : Int32)) S dX10_isWithin_118 (by decide) ?_
    have hyp := Option.some.inj hyp
    subst hyp
    exact g_zret (pc := 119) S (hret (0 : Int32) rfl) dX10_isWithin_119 (Or.inl rfl)
  · exact g_sub [0, 1, 2, 3] rfl (o_X10_isWithin_b106 S k0 a1 a2 a4 h hyp hin hex0 hret)
set_option maxRecDepth 100000 in
set_option maxHeartbeats 4000000 in
theorem o_X10_isWithin_b88 {K : gK} (S : Cx K RX10 cX10_isWithin 5 1 26) {c0 : Nat} (k0 : kd c0 (10 + 10, 0)) (a1 : Int32) (a2 : Int64) (a4 : Int32) (h : Hp) {o : (Int32) ⊕ ((Unit) ⊕ (Int32))} (hyp : s_X10_isWithin_b88 c0 a1 a2 a4 h = some o) (hin : ∀ s', o = .inl s' → Go K 2 [(0, .ref (ad K c0)), (1, .int s')] [] h) (hex0 : ∀ s', o = .inr (.inl s') → Go K 126 [] [] h) (hret : ∀ x', o = .inr (.inr x') → Rt K (some .boolean) (some (.int x')) h) : Go K 88 [(0, .ref (ad K c0)), (1, .int a1), (2, .long a2), (4, .int a4)] [] h := by
  unfold s_X10_isWithin_b88 at hyp
  refine g_iload (pc := 88) 3 S dX10_isWithin_88 rfl ?_
  refine g_iconst (pc := 90) (v := (2 : Int32)) S dX10_isWithin_90 (by decide) ?_
  refine g_icmp_eq (pc := 91) (tgt := 100) S dX10_isWithin_91 (by decide) hyp (fun hyp => ?_) (fun hyp => ?_)
  · exact g_sub [0, 1, 2, 3] rfl (o_X10_isWithin_b100 S k0 a1 a2 a4 h hyp hin hex0 hret)
  · refine g_iload (pc := 94) 3 S dX10_isWithin_94 rfl ?_
    refine g_iconst (pc := 96) (v := (3 : Int32)) S dX10_isWithin_96 (by decide) ?_
    refine g_icmp_ne (pc := 97) (tgt := 106) S dX10_isWithin_97 (by decide) hyp (fun hyp => ?_) (fun hyp => ?_)
    · exact g_sub [0, 1, 2, 3] rfl (o_X10_isWithin_b100 S k0 a1 a2 a4 h hyp hin hex0 hret)
    · exact g_sub [0, 1, 2, 3] rfl (o_X10_isWithin_b106 S k0 a1 a2 a4 h hyp hin hex0 hret)
set_option maxRecDepth 100000 in
set_option maxHeartbeats 4000000 in
theorem o_X10_isWithin_l2 {K : gK} (S : Cx K RX10 cX10_isWithin 5 1 26) {c0 : Nat} (k0 : kd c0 (10 + 10, 0)) (a1 : Int32) (h : Hp) {o : (Int32) ⊕ ((Unit) ⊕ (Int32))} (hyp : s_X10_isWithin_l2 c0 a1 h = some o) (hin : ∀ s', o = .inl s' → Go K 2 [(0, .ref (ad K c0)), (1, .int s')] [] h) (hex0 : ∀ s', o = .inr (.inl s') → Go K 126 [] [] h) (hret : ∀ x', o = .inr (.inr x') → Rt K (some .boolean) (some (.int x')) h) : Go K 2 [(0, .ref (ad K c0)), (1, .int a1)] [] h := by
  unfold s_X10_isWithin_l2 at hyp
  refine g_iload_n (pc := 2) 1 S dX10_isWithin_2 rfl ?_
  refine g_aload_n (pc := 3) 0 S dX10_isWithin_3 rfl ?_
  refine g_getI (pc := 4) S dX10_isWithin_4 fl_X10_97 k0 ?_
  refine g_icmp_ge (pc := 7) (tgt := 126) S dX10_isWithin_7 (by decide) hyp (fun hyp => ?_) (fun hyp => ?_)
  · refine g_aload_n (pc := 10) 0 S dX10_isWithin_10 rfl ?_
    refine g_getR (pc := 11) S dX10_isWithin_11 fl_X10_17 k0 ?_
    refine g_iconst (pc := 14) (v := (3 : Int32)) S dX10_isWithin_14 (by decide) ?_
    refine g_iload_n (pc := 15) 1 S dX10_isWithin_15 rfl ?_
    refine g_imul (pc := 16) S dX10_isWithin_16 ?_
    refine g_iconst (pc := 17) (v := (2 : Int32)) S dX10_isWithin_17 (by decide) ?_
    refine g_iadd (pc := 18) S dX10_isWithin_18 ?_
    refine g_iald (pc := 19) S dX10_isWithin_19 (kf_10_2 k0) hyp (fun x1 hyp => ?_)
    refine g_ineg (pc := 20) S dX10_isWithin_20 ?_
    refine g_i2l (pc := 21) S dX10_isWithin_21 ?_
    refine g_aload_n (pc := 22) 0 S dX10_isWithin_22 rfl ?_
    refine g_getR (pc := 23) S dX10_isWithin_23 fl_X10_82 k0 ?_
    refine g_iconst (pc := 26) (v := (3 : Int32)) S dX10_isWithin_26 (by decide) ?_
    refine g_lald (pc := 27) S dX10_isWithin_27 (kf_10_22 k0) hyp (fun x2 hyp => ?_)
    refine g_lmul (pc := 28) S dX10_isWithin_28 ?_
    refine g_lti (C := fun v2_3 => Go K 29 [(0, .ref (ad K c0)), (1, .int a1)] [.long v2_3] h) hyp (fun v2_3 hyp => ?_)
    refine g_lstore_n (pc := 29) (lv' := [(2, .long v2_3), (0, .ref (ad K c0)), (1, .int a1)]) S dX10_isWithin_29 rfl (by decide) rfl ?_
    refine g_iconst (pc := 30) (v := (0 : Int32)) S dX10_isWithin_30 (by decide) ?_
    refine g_istore (pc := 31) (lv' := [(4, .int (0 : Int32)), (2, .long v2_3), (0, .ref (ad K c0)), (1, .int a1)]) S dX10_isWithin_31 (by decide) rfl ?_
    refine g_bind hyp (fun e8 he8 hyp => ?_)
    refine g_sub [2, 3, 1, 0] rfl (g_loop (f := fun s : Int64 × Int32 => s_X10_isWithin_l33 c0 a1 s.1 s.2 h) (ρ := Int64) (Hd := fun s : Int64 × Int32 => Go K 33 [(0, .ref (ad K c0)), (1, .int a1), (2, .long s.1), (4, .int s.2)] [] h) (Ex := fun e8 => Go K 64 [(0, .ref (ad K c0)), (1, .int a1), (2, .long e8)] [] h) (fun s o h1 h2 h3 => o_X10_isWithin_l33 S k0 a1 s.1 s.2 h h1 h2 h3) FUEL _ e8 he8 ?_)
    refine g_aload_n (pc := 64) 0 S dX10_isWithin_64 rfl ?_
    refine g_getR (pc := 65) S dX10_isWithin_65 fl_X10_17 k0 ?_
    refine g_iconst (pc := 68) (v := (3 : Int32)) S dX10_isWithin_68 (by decide) ?_
    refine g_iload_n (pc := 69) 1 S dX10_isWithin_69 rfl ?_
    refine g_imul (pc := 70) S dX10_isWithin_70 ?_
    refine g_iconst (pc := 71) (v := (1 : Int32)) S dX10_isWithin_71 (by decide) ?_
    refine g_iadd (pc := 72) S dX10_isWithin_72 ?_
    refine g_iald (pc := 73) S dX10_isWithin_73 (kf_10_2 k0) hyp (fun x9 hyp => ?_)
    refine g_istore (pc := 74) (lv' := [(4, .int x9), (0, .ref (ad K c0)), (1, .int a1), (2, .long e8)]) S dX10_isWithin_74 (by decide) rfl ?_
    refine g_iload (pc := 76) 0 S dX10_isWithin_76 rfl ?_
    refine g_iconst (pc := 78) (v := (2 : Int32)) S dX10_isWithin_78 (by decide) ?_
    refine g_icmp_ge (pc := 79) (tgt := 88) S dX10_isWithin_79 (by decide) hyp (fun hyp => ?_) (fun hyp => ?_)
    · refine g_lload_n (pc := 82) 3 S dX10_isWithin_82 rfl ?_
      refine g_lconst (pc := 83) (v := (0 : Int64)) S dX10_isWithin_83 (by decide) ?_
      refine g_lcmp_gt (pc := 84) (tgt := 118) S dX10_isWithin_84 dX10_isWithin_85 (by decide) hyp (fun hyp => ?_) (fun hyp => ?_)
      · refine g_iconst (pc := 118) (v := (0 : Int32)) S dX10_isWithin_118 (by decide) ?_
        have hyp := Option.some.inj hyp
        subst hyp
        exact g_zret (pc := 119) S (hret (0 : Int32) rfl) dX10_isWithin_119 (Or.inl rfl)
      · exact g_sub [1, 2, 3, 0] rfl (o_X10_isWithin_b88 S k0 a1 e8 x9 h hyp hin hex0 hret)
    · exact g_sub [1, 2, 3, 0] rfl (o_X10_isWithin_b88 S k0 a1 e8 x9 h hyp hin hex0 hret)
  · have hyp := Option.some.inj hyp
    subst hyp
    exact g_sub [] rfl (hex0 () rfl)
set_option maxRecDepth 100000 in
set_option maxHeartbeats 4000000 in
theorem o_X10_isWithin {K : gK} (S : Cx K RX10 cX10_isWithin 5 1 26) {c0 : Nat} (k0 : kd c0 (10 + 10, 0))  (h : Hp) {o : Int32} (hyp : s_X10_isWithin c0  h = some o) (F : Rt K (some .boolean) (some (.int o)) h) : Go K 0 [(0, .ref (ad K c0))] [] h := by
  unfold s_X10_isWithin at hyp
  refine g_iconst (pc := 0) (v := (0 : Int32)) S dX10_isWithin_0 (by decide) ?_
  refine g_istore_n (pc := 1) (lv' := [(1, .int (0 : Int32)), (0, .ref (ad K c0))]) S dX10_isWithin_1 rfl (by decide) rfl ?_
  refine g_bind hyp (fun e11 he11 hyp => ?_)
  refine g_sub [1, 0] rfl (g_loop (f := fun s : Int32 => s_X10_isWithin_l2 c0 s h) (ρ := (Unit) ⊕ (Int32)) (Hd := fun s : Int32 => Go K 2 [(0, .ref (ad K c0)), (1, .int s)] [] h) (Ex := fun e11 => (∀ t, e11 = .inl t → Go K 126 [] [] h) ∧ (∀ t, e11 = .inr t → Rt K (some .boolean) (some (.int t)) h)) (fun s o h1 h2 h3 => o_X10_isWithin_l2 S k0 s h h1 h2 (fun t q => (h3 _ q).1 t rfl) (fun t q => (h3 _ q).2 t rfl)) FUEL _ e11 he11 ?_)
  refine ⟨?_, ?_⟩
  · intro t12 q
    subst q
    try dsimp only [Sum.elim] at hyp
    refine g_iconst (pc := 126) (v := (1 : Int32)) S dX10_isWithin_126 (by decide) ?_
    have hyp := Option.some.inj hyp
    subst hyp
    exact g_zret (pc := 127) S F dX10_isWithin_127 (Or.inr rfl)
  · intro t13 q
    subst q
    try dsimp only [Sum.elim] at hyp
    have hyp := Option.some.inj hyp
    subst hyp
    exact F
theorem m_X10_isWithin {l : Launch} {D : va_G} {cT : Nat → ClassId} {aD : Nat → Nat} {c0 : Nat} (k0 : kd c0 (10 + 10, 0))  (h : Hp) {o : Int32} (hyp : s_X10_isWithin c0  h = some o) : Ok l D cT aD yX10_isWithin cX10_isWithin 5 (some .boolean) 1 26 [.ref (aD c0)] h (some (.int o)) h :=
  Ok.of (by decide +kernel) rfl (Nat.le_of_ble_eq_true rfl) (fun K e1 e2 e3 e4 S F => by subst e1; exact o_X10_isWithin S k0  h hyp F)
-- BoundProofsModel against (I)I
noncomputable def s_X10_against_l2 (c0 : Nat) (a1 : Int32) (a2 : Int32) (h : Hp) : Option ((Int32) ⊕ ((Unit) ⊕ (Int32))) :=
  if a2 < (3 : Int32) then (ldJ h (c0 + 22) 4 a2 fun x1 =>
  ldJ h (c0 + 21) 480 (a1 + (3 : Int32)) fun x2 =>
  ldJ h (c0 + 21) 480 (a1 + a2) fun x3 =>
  ldJ h (c0 + 22) 4 (3 : Int32) fun x4 =>
  lt ((x1 * x2) - (x3 * x4)) fun v3_5 =>
  if v3_5 = (0 : Int64) then (lt (a2 + (1 : Int32)) fun v2_6 =>
  some (.inl v2_6))
  else (if v3_5 < (0 : Int64) then (some (.inr (.inr (-1 : Int32))))
  else (some (.inr (.inr (1 : Int32))))))
  else (some (.inr (.inl ())))
noncomputable def s_X10_against (c0 : Nat) (a1 : Int32) (h : Hp) : Option (Int32) :=
  (iter (fun s : Int32 => s_X10_against_l2 c0 a1 s h) FUEL (0 : Int32)).bind (Sum.elim (fun t8 => some (0 : Int32))
  (fun t9 => some t9))
set_option maxRecDepth 100000 in
set_option maxHeartbeats 4000000 in
theorem o_X10_against_l2 {K : gK} (S : Cx K RX10 cX10_against 5 0 0) {c0 : Nat} (k0 : kd c0 (10 + 10, 0)) (a1 : Int32) (a2 : Int32) (h : Hp) {o : (Int32) ⊕ ((Unit) ⊕ (Int32))} (hyp : s_X10_against_l2 c0 a1 a2 h = some o) (hin : ∀ s', o = .inl s' → Go K 2 [(0, .ref (ad K c0)), (1, .int a1), (2, .int s')] [] h) (hex0 : ∀ s', o = .inr (.inl s') → Go K 63 [] [] h) (hret : ∀ x', o = .inr (.inr x') → Rt K (some .int) (some (.int x')) h) : Go K 2 [(0, .ref (ad K c0)), (1, .int a1), (2, .int a2)] [] h := by
  unfold s_X10_against_l2 at hyp
  refine g_iload_n (pc := 2) 2 S dX10_against_2 rfl ?_
  refine g_iconst (pc := 3) (v := (3 : Int32)) S dX10_against_3 (by decide) ?_
  refine g_icmp_ge (pc := 4) (tgt := 63) S dX10_against_4 (by decide) hyp (fun hyp => ?_) (fun hyp => ?_)
  · refine g_aload_n (pc := 7) 0 S dX10_against_7 rfl ?_
    refine g_getR (pc := 8) S dX10_against_8 fl_X10_82 k0 ?_
    refine g_iload_n (pc := 11) 2 S dX10_against_11 rfl ?_
    refine g_lald (pc := 12) S dX10_against_12 (kf_10_22 k0) hyp (fun x1 hyp => ?_)
    refine g_aload_n (pc := 13) 0 S dX10_against_13 rfl ?_
    refine g_getR (pc := 14) S dX10_against_14 fl_X10_79 k0 ?_
    refine g_iload_n (pc := 17) 1 S dX10_against_17 rfl ?_
    refine g_iconst (pc := 18) (v := (3 : Int32)) S dX10_against_18 (by decide) ?_
    refine g_iadd (pc := 19) S dX10_against_19 ?_
    refine g_lald (pc := 20) S dX10_against_20 (kf_10_21 k0) hyp (fun x2 hyp => ?_)
    refine g_lmul (pc := 21) S dX10_against_21 ?_
    refine g_aload_n (pc := 22) 0 S dX10_against_22 rfl ?_
    refine g_getR (pc := 23) S dX10_against_23 fl_X10_79 k0 ?_
    refine g_iload_n (pc := 26) 1 S dX10_against_26 rfl ?_
    refine g_iload_n (pc := 27) 2 S dX10_against_27 rfl ?_
    refine g_iadd (pc := 28) S dX10_against_28 ?_
    refine g_lald (pc := 29) S dX10_against_29 (kf_10_21 k0) hyp (fun x3 hyp => ?_)
    refine g_aload_n (pc := 30) 0 S dX10_against_30 rfl ?_
    refine g_getR (pc := 31) S dX10_against_31 fl_X10_82 k0 ?_
    refine g_iconst (pc := 34) (v := (3 : Int32)) S dX10_against_34 (by decide) ?_
    refine g_lald (pc := 35) S dX10_against_35 (kf_10_22 k0) hyp (fun x4 hyp => ?_)
    refine g_lmul (pc := 36) S dX10_against_36 ?_
    refine g_lsub (pc := 37) S dX10_against_37 ?_
    refine g_lti (C := fun v3_5 => Go K 38 [(0, .ref (ad K c0)), (1, .int a1), (2, .int a2)] [.long v3_5] h) hyp (fun v3_5 hyp => ?_)
    refine g_lstore_n (pc := 38) (lv' := [(3, .long v3_5), (0, .ref (ad K c0)), (1, .int a1), (2, .int a2)]) S dX10_against_38 rfl (by decide) rfl ?_
    refine g_lload_n (pc := 39) 0 S dX10_against_39 rfl ?_
    refine g_lconst (pc := 40) (v := (0 : Int64)) S dX10_against_40 (by decide) ?_
    refine g_lcmp_eq (pc := 41) (tgt := 57) S dX10_against_41 dX10_against_42 (by decide) hyp (fun hyp => ?_) (fun hyp => ?_)
    · refine g_iinc (pc := 57) (v := (a2 + (1 : Int32))) (lv' := [(2, .int (a2 + (1 : Int32))), (3, .long v3_5), (0, .ref (ad K c0)), (1, .int a1)]) 3 S dX10_against_57 rfl (by rfl) (by decide) rfl ?_
      refine g_lti (C := fun v2_6 => Go K (57 + 3) [(2, .int v2_6), (3, .long v3_5), (0, .ref (ad K c0)), (1, .int a1)] [] h) hyp (fun v2_6 hyp => ?_)
      refine g_goto (pc := 60) (tgt := 2) S dX10_against_60 (by decide) ?_
      have hyp := Option.some.inj hyp
      subst hyp
      exact g_sub [2, 3, 0] rfl (hin v2_6 rfl)
    · refine g_lload_n (pc := 45) 0 S dX10_against_45 rfl ?_
      refine g_lconst (pc := 46) (v := (0 : Int64)) S dX10_against_46 (by decide) ?_
      refine g_lcmp_ge (pc := 47) (tgt := 55) S dX10_against_47 dX10_against_48 (by decide) hyp (fun hyp => ?_) (fun hyp => ?_)
      · refine g_iconst (pc := 51) (v := (-1 : Int32)) S dX10_against_51 (by decide) ?_
        refine g_goto (pc := 52) (tgt := 56) S dX10_against_52 (by decide) ?_
        have hyp := Option.some.inj hyp
        subst hyp
        exact g_iret (pc := 56) S (hret (-1 : Int32) rfl) dX10_against_56
      · refine g_iconst (pc := 55) (v := (1 : Int32)) S dX10_against_55 (by decide) ?_
        have hyp := Option.some.inj hyp
        subst hyp
        exact g_iret (pc := 56) S (hret (1 : Int32) rfl) dX10_against_56
  · have hyp := Option.some.inj hyp
    subst hyp
    exact g_sub [] rfl (hex0 () rfl)
set_option maxRecDepth 100000 in
set_option maxHeartbeats 4000000 in
theorem o_X10_against {K : gK} (S : Cx K RX10 cX10_against 5 0 0) {c0 : Nat} (k0 : kd c0 (10 + 10, 0)) (a1 : Int32) (h : Hp) {o : Int32} (hyp : s_X10_against c0 a1 h = some o) (F : Rt K (some .int) (some (.int o)) h) : Go K 0 [(0, .ref (ad K c0)), (1, .int a1)] [] h := by
  unfold s_X10_against at hyp
  refine g_iconst (pc := 0) (v := (0 : Int32)) S dX10_against_0 (by decide) ?_
  refine g_istore_n (pc := 1) (lv' := [(2, .int (0 : Int32)), (0, .ref (ad K c0)), (1, .int a1)]) S dX10_against_1 rfl (by decide) rfl ?_
  refine g_bind hyp (fun e7 he7 hyp => ?_)
  refine g_sub [1, 2, 0] rfl (g_loop (f := fun s : Int32 => s_X10_against_l2 c0 a1 s h) (ρ := (Unit) ⊕ (Int32)) (Hd := fun s : Int32 => Go K 2 [(0, .ref (ad K c0)), (1, .int a1), (2, .int s)] [] h) (Ex := fun e7 => (∀ t, e7 = .inl t → Go K 63 [] [] h) ∧ (∀ t, e7 = .inr t → Rt K (some .int) (some (.int t)) h)) (fun s o h1 h2 h3 => o_X10_against_l2 S k0 a1 s h h1 h2 (fun t q => (h3 _ q).1 t rfl) (fun t q => (h3 _ q).2 t rfl)) FUEL _ e7 he7 ?_)
  refine ⟨?_, ?_⟩
  · intro t8 q
    subst q
    try dsimp only [Sum.elim] at hyp
    refine g_iconst (pc := 63) (v := (0 : Int32)) S dX10_against_63 (by decide) ?_
    have hyp := Option.some.inj hyp
    subst hyp
    exact g_iret (pc := 64) S F dX10_against_64
  · intro t9 q
    subst q
    try dsimp only [Sum.elim] at hyp
    have hyp := Option.some.inj hyp
    subst hyp
    exact F
theorem m_X10_against {l : Launch} {D : va_G} {cT : Nat → ClassId} {aD : Nat → Nat} {c0 : Nat} (k0 : kd c0 (10 + 10, 0)) (a1 : Int32) (h : Hp) {o : Int32} (hyp : s_X10_against c0 a1 h = some o) : Ok l D cT aD yX10_against cX10_against 5 (some .int) 0 0 [.ref (aD c0), .int a1] h (some (.int o)) h :=
  Ok.of (by decide +kernel) rfl (Nat.le_of_ble_eq_true rfl) (fun K e1 e2 e3 e4 S F => by subst e1; exact o_X10_against S k0 a1 h hyp F)
-- BoundProofsModel comesCorner ()V
noncomputable def s_X10_comesCorner_l2 (c0 : Nat) (a1 : Int32) (h : Hp) : Option ((Int32) ⊕ (Int32)) :=
  if a1 < (h.1 c0 39) then ((s_X10_against c0 ((4 : Int32) * a1) h).bind fun y1 =>
  if 0 < y1 then (lt (a1 + (1 : Int32)) fun v1_2 =>
  some (.inl v1_2))
  else (some (.inr (a1))))
  else (some (.inr (a1)))
noncomputable def s_X10_comesCorner_l54 (c0 : Nat) (a1 : Int32) (a2 : Int32) (h : Hp) : Option ((Int32 × Hp) ⊕ (Hp)) :=
  if a2 < ((4 : Int32) * a1) then (some (.inr (h)))
  else (ldJ h (c0 + 21) 480 a2 fun x6 =>
  stJ h (c0 + 21) 480 (a2 + (4 : Int32)) x6 fun h7 =>
  lt (a2 + (-1 : Int32)) fun v2_8 =>
  some (.inl (v2_8, h7)))
noncomputable def s_X10_comesCorner_l83 (c0 : Nat) (a1 : Int32) (a2 : Int32) (h : Hp) : Option ((Int32 × Hp) ⊕ (Hp)) :=
  if a2 < (4 : Int32) then (ldJ h (c0 + 22) 4 a2 fun x10 =>
  stJ h (c0 + 21) 480 (((4 : Int32) * a1) + a2) x10 fun h11 =>
  lt (a2 + (1 : Int32)) fun v2_12 =>
  some (.inl (v2_12, h11)))
  else (some (.inr (h)))
noncomputable def s_X10_comesCorner_b45 (c0 : Nat) (a1 : Int32) (h : Hp) : Option (Hp) :=
  lt (((4 : Int32) * (h.1 c0 39)) - (1 : Int32)) fun v2_5 =>
  (iter (fun s : Int32 × Hp => s_X10_comesCorner_l54 c0 a1 s.1 s.2) FUEL (v2_5, h)).bind fun e9 =>
  (iter (fun s : Int32 × Hp => s_X10_comesCorner_l83 c0 a1 s.1 s.2) FUEL ((0 : Int32), e9)).bind fun e13 =>
  lt (sI e13 c0 39 ((e13.1 c0 39) + (1 : Int32))) fun h14 =>
  some h14
noncomputable def s_X10_comesCorner (c0 : Nat)  (h : Hp) : Option (Hp) :=
  (iter (fun s : Int32 => s_X10_comesCorner_l2 c0 s h) FUEL (0 : Int32)).bind fun e3 =>
  if e3 < (h.1 c0 39) then ((s_X10_against c0 ((4 : Int32) * e3) h).bind fun y4 =>
  if y4 = 0 then (some h)
  else (s_X10_comesCorner_b45 c0 e3 h))
  else (s_X10_comesCorner_b45 c0 e3 h)
set_option maxRecDepth 100000 in
set_option maxHeartbeats 4000000 in
theorem o_X10_comesCorner_l2 {K : gK} (S : Cx K RX10 cX10_comesCorner 3 1 28) {c0 : Nat} (k0 : kd c0 (10 + 10, 0)) (a1 : Int32) (h : Hp) {o : (Int32) ⊕ (Int32)} (hyp : s_X10_comesCorner_l2 c0 a1 h = some o) (hin : ∀ s', o = .inl s' → Go K 2 [(0, .ref (ad K c0)), (1, .int s')] [] h) (hex0 : ∀ s', o = .inr (s') → Go K 26 [(0, .ref (ad K c0)), (1, .int s')] [] h) : Go K 2 [(0, .ref (ad K c0)), (1, .int a1)] [] h := by
  unfold s_X10_comesCorner_l2 at hyp
  refine g_iload_n (pc := 2) 1 S dX10_comesCorner_2 rfl ?_
  refine g_aload_n (pc := 3) 0 S dX10_comesCorner_3 rfl ?_
  refine g_getI (pc := 4) S dX10_comesCorner_4 fl_X10_305 k0 ?_
  refine g_icmp_ge (pc := 7) (tgt := 26) S dX10_comesCorner_7 (by decide) hyp (fun hyp => ?_) (fun hyp => ?_)
  · refine g_aload_n (pc := 10) 0 S dX10_comesCorner_10 rfl ?_
    refine g_iconst (pc := 11) (v := (4 : Int32)) S dX10_comesCorner_11 (by decide) ?_
    refine g_iload_n (pc := 12) 1 S dX10_comesCorner_12 rfl ?_
    refine g_imul (pc := 13) S dX10_comesCorner_13 ?_
    refine g_bind hyp (fun y1 hy1 hyp => ?_)
    refine g_callV (pc := 14) (As := [.int ((4 : Int32) * a1)]) (rest := []) S dX10_comesCorner_14 k0 rfl tw_1215 tw_1216 tw_75 mw_X10_against (m_X10_against k0 ((4 : Int32) * a1) h hy1) rfl rfl (Nat.le_of_ble_eq_true rfl) (Nat.le_of_ble_eq_true rfl) (Nat.le_of_ble_eq_true rfl) ?_
    refine g_if_le (pc := 17) (tgt := 26) S dX10_comesCorner_17 (by decide) hyp (fun hyp => ?_) (fun hyp => ?_)
    · refine g_iinc (pc := 20) (v := (a1 + (1 : Int32))) (lv' := [(1, .int (a1 + (1 : Int32))), (0, .ref (ad K c0))]) 1 S dX10_comesCorner_20 rfl (by rfl) (by decide) rfl ?_
      refine g_lti (C := fun v1_2 => Go K (20 + 3) [(1, .int v1_2), (0, .ref (ad K c0))] [] h) hyp (fun v1_2 hyp => ?_)
      refine g_goto (pc := 23) (tgt := 2) S dX10_comesCorner_23 (by decide) ?_
      have hyp := Option.some.inj hyp
      subst hyp
      exact g_sub [1, 0] rfl (hin v1_2 rfl)
    · have hyp := Option.some.inj hyp
      subst hyp
      exact g_sub [0, 1] rfl (hex0 a1 rfl)
  · have hyp := Option.some.inj hyp
    subst hyp
    exact g_sub [0, 1] rfl (hex0 a1 rfl)
set_option maxRecDepth 100000 in
set_option maxHeartbeats 4000000 in
theorem o_X10_comesCorner_l54 {K : gK} (S : Cx K RX10 cX10_comesCorner 3 1 28) {c0 : Nat} (k0 : kd c0 (10 + 10, 0)) (a1 : Int32) (a2 : Int32) (h : Hp) {o : (Int32 × Hp) ⊕ (Hp)} (hyp : s_X10_comesCorner_l54 c0 a1 a2 h = some o) (hin : ∀ s', o = .inl s' → Go K 54 [(0, .ref (ad K c0)), (1, .int a1), (2, .int s'.1)] [] s'.2) (hex0 : ∀ s', o = .inr (s') → Go K 81 [(0, .ref (ad K c0)), (1, .int a1)] [] s') : Go K 54 [(0, .ref (ad K c0)), (1, .int a1), (2, .int a2)] [] h := by
  unfold s_X10_comesCorner_l54 at hyp
  refine g_iload_n (pc := 54) 2 S dX10_comesCorner_54 rfl ?_
  refine g_iconst (pc := 55) (v := (4 : Int32)) S dX10_comesCorner_55 (by decide) ?_
  refine g_iload_n (pc := 56) 1 S dX10_comesCorner_56 rfl ?_
  refine g_imul (pc := 57) S dX10_comesCorner_57 ?_
  refine g_icmp_lt (pc := 58) (tgt := 81) S dX10_comesCorner_58 (by decide) hyp (fun hyp => ?_) (fun hyp => ?_)
  · have hyp := Option.some.inj hyp
    subst hyp
    exact g_sub [0, 1] rfl (hex0 h rfl)
  · refine g_aload_n (pc := 61) 0 S dX10_comesCorner_61 rfl ?_
    refine g_getR (pc := 62) S dX10_comesCorner_62 fl_X10_79 k0 ?_
    refine g_iload_n (pc := 65) 2 S dX10_comesCorner_65 rfl ?_
    refine g_iconst (pc := 66) (v := (4 : Int32)) S dX10_comesCorner_66 (by decide) ?_
    refine g_iadd (pc := 67) S dX10_comesCorner_67 ?_
    refine g_aload_n (pc := 68) 0 S dX10_comesCorner_68 rfl ?_
    refine g_getR (pc := 69) S dX10_comesCorner_69 fl_X10_79 k0 ?_
    refine g_iload_n (pc := 72) 2 S dX10_comesCorner_72 rfl ?_
    refine g_lald (pc := 73) S dX10_comesCorner_73 (kf_10_21 k0) hyp (fun x6 hyp => ?_)
    refine g_last (pc := 74) S dX10_comesCorner_74 (kf_10_21 k0) hyp (fun h7 hyp => ?_)
    refine g_iinc (pc := 75) (v := (a2 + (-1 : Int32))) (lv' := [(2, .int (a2 + (-1 : Int32))), (0, .ref (ad K c0)), (1, .int a1)]) 2 S dX10_comesCorner_75 rfl (by rfl) (by decide) rfl ?_
    refine g_lti (C := fun v2_8 => Go K (75 + 3) [(2, .int v2_8), (0, .ref (ad K c0)), (1, .int a1)] [] h7) hyp (fun v2_8 hyp => ?_)
    refine g_goto (pc := 78) (tgt := 54) S dX10_comesCorner_78 (by decide) ?_
    have hyp := Option.some.inj hyp
    subst hyp
    exact g_sub [1, 2, 0] rfl (hin (v2_8, h7) rfl)
set_option maxRecDepth 100000 in
set_option maxHeartbeats 4000000 in
theorem o_X10_comesCorner_l83 {K : gK} (S : Cx K RX10 cX10_comesCorner 3 1 28) {c0 : Nat} (k0 : kd c0 (10 + 10, 0)) (a1 : Int32) (a2 : Int32) (h : Hp) {o : (Int32 × Hp) ⊕ (Hp)} (hyp : s_X10_comesCorner_l83 c0 a1 a2 h = some o) (hin : ∀ s', o = .inl s' → Go K 83 [(0, .ref (ad K c0)), (1, .int a1), (2, .int s'.1)] [] s'.2) (hex0 : ∀ s', o = .inr (s') → Go K 110 [(0, .ref (ad K c0))] [] s') : Go K 83 [(0, .ref (ad K c0)), (1, .int a1), (2, .int a2)] [] h := by
  unfold s_X10_comesCorner_l83 at hyp
  refine g_iload_n (pc := 83) 2 S dX10_comesCorner_83 rfl ?_
  refine g_iconst (pc := 84) (v := (4 : Int32)) S dX10_comesCorner_84 (by decide) ?_
  refine g_icmp_ge (pc := 85) (tgt := 110) S dX10_comesCorner_85 (by decide) hyp (fun hyp => ?_) (fun hyp => ?_)
  · refine g_aload_n (pc := 88) 0 S dX10_comesCorner_88 rfl ?_
    refine g_getR (pc := 89) S dX10_comesCorner_89 fl_X10_79 k0 ?_
    refine g_iconst (pc := 92) (v := (4 : Int32)) S dX10_comesCorner_92 (by decide) ?_
    refine g_iload_n (pc := 93) 1 S dX10_comesCorner_93 rfl ?_
    refine g_imul (pc := 94) S dX10_comesCorner_94 ?_
    refine g_iload_n (pc := 95) 2 S dX10_comesCorner_95 rfl ?_
    refine g_iadd (pc := 96) S dX10_comesCorner_96 ?_
    refine g_aload_n (pc := 97) 0 S dX10_comesCorner_97 rfl ?_
    refine g_getR (pc := 98) S dX10_comesCorner_98 fl_X10_82 k0 ?_
    refine g_iload_n (pc := 101) 2 S dX10_comesCorner_101 rfl ?_
    refine g_lald (pc := 102) S dX10_comesCorner_102 (kf_10_22 k0) hyp (fun x10 hyp => ?_)
    refine g_last (pc := 103) S dX10_comesCorner_103 (kf_10_21 k0) hyp (fun h11 hyp => ?_)
    refine g_iinc (pc := 104) (v := (a2 + (1 : Int32))) (lv' := [(2, .int (a2 + (1 : Int32))), (0, .ref (ad K c0)), (1, .int a1)]) 2 S dX10_comesCorner_104 rfl (by rfl) (by decide) rfl ?_
    refine g_lti (C := fun v2_12 => Go K (104 + 3) [(2, .int v2_12), (0, .ref (ad K c0)), (1, .int a1)] [] h11) hyp (fun v2_12 hyp => ?_)
    refine g_goto (pc := 107) (tgt := 83) S dX10_comesCorner_107 (by decide) ?_
    have hyp := Option.some.inj hyp
    subst hyp
    exact g_sub [1, 2, 0] rfl (hin (v2_12, h11) rfl)
  · have hyp := Option.some.inj hyp
    subst hyp
    exact g_sub [0] rfl (hex0 h rfl)
set_option maxRecDepth 100000 in
set_option maxHeartbeats 4000000 in
theorem o_X10_comesCorner_b45 {K : gK} (S : Cx K RX10 cX10_comesCorner 3 1 28) {c0 : Nat} (k0 : kd c0 (10 + 10, 0)) (a1 : Int32) (h : Hp) {o : Hp} (hyp : s_X10_comesCorner_b45 c0 a1 h = some o) (F : Rt K none none o) : Go K 45 [(0, .ref (ad K c0)), (1, .int a1)] [] h := by
  unfold s_X10_comesCorner_b45 at hyp
  refine g_iconst (pc := 45) (v := (4 : Int32)) S dX10_comesCorner_45 (by decide) ?_
  refine g_aload_n (pc := 46) 0 S dX10_comesCorner_46 rfl ?_
  refine g_getI (pc := 47) S dX10_comesCorner_47 fl_X10_305 k0 ?_
  refine g_imul (pc := 50) S dX10_comesCorner_50 ?_
  refine g_iconst (pc := 51) (v := (1 : Int32)) S dX10_comesCorner_51 (by decide) ?_
  refine g_isub (pc := 52) S dX10_comesCorner_52 ?_
  refine g_lti (C := fun v2_5 => Go K 53 [(0, .ref (ad K c0)), (1, .int a1)] [.int v2_5] h) hyp (fun v2_5 hyp => ?_)
  refine g_istore_n (pc := 53) (lv' := [(2, .int v2_5), (0, .ref (ad K c0)), (1, .int a1)]) S dX10_comesCorner_53 rfl (by decide) rfl ?_
  refine g_bind hyp (fun e9 he9 hyp => ?_)
  refine g_sub [1, 2, 0] rfl (g_loop (f := fun s : Int32 × Hp => s_X10_comesCorner_l54 c0 a1 s.1 s.2) (ρ := Hp) (Hd := fun s : Int32 × Hp => Go K 54 [(0, .ref (ad K c0)), (1, .int a1), (2, .int s.1)] [] s.2) (Ex := fun e9 => Go K 81 [(0, .ref (ad K c0)), (1, .int a1)] [] e9) (fun s o h1 h2 h3 => o_X10_comesCorner_l54 S k0 a1 s.1 s.2 h1 h2 h3) FUEL _ e9 he9 ?_)
  refine g_iconst (pc := 81) (v := (0 : Int32)) S dX10_comesCorner_81 (by decide) ?_
  refine g_istore_n (pc := 82) (lv' := [(2, .int (0 : Int32)), (0, .ref (ad K c0)), (1, .int a1)]) S dX10_comesCorner_82 rfl (by decide) rfl ?_
  refine g_bind hyp (fun e13 he13 hyp => ?_)
  refine g_sub [1, 2, 0] rfl (g_loop (f := fun s : Int32 × Hp => s_X10_comesCorner_l83 c0 a1 s.1 s.2) (ρ := Hp) (Hd := fun s : Int32 × Hp => Go K 83 [(0, .ref (ad K c0)), (1, .int a1), (2, .int s.1)] [] s.2) (Ex := fun e13 => Go K 110 [(0, .ref (ad K c0))] [] e13) (fun s o h1 h2 h3 => o_X10_comesCorner_l83 S k0 a1 s.1 s.2 h1 h2 h3) FUEL _ e13 he13 ?_)
  refine g_aload_n (pc := 110) 0 S dX10_comesCorner_110 rfl ?_
  refine g_dup (pc := 111) S dX10_comesCorner_111 rfl ?_
  refine g_getI (pc := 112) S dX10_comesCorner_112 fl_X10_305 k0 ?_
  refine g_iconst (pc := 115) (v := (1 : Int32)) S dX10_comesCorner_115 (by decide) ?_
  refine g_iadd (pc := 116) S dX10_comesCorner_116 ?_
  refine g_putI (pc := 117) S dX10_comesCorner_117 fl_X10_305 k0 hyp (fun h14 hyp => ?_)
  have hyp := Option.some.inj hyp
  subst hyp
  exact g_vret (pc := 120) S F dX10_comesCorner_120
set_option maxRecDepth 100000 in
set_option maxHeartbeats 4000000 in
theorem o_X10_comesCorner {K : gK} (S : Cx K RX10 cX10_comesCorner 3 1 28) {c0 : Nat} (k0 : kd c0 (10 + 10, 0))  (h : Hp) {o : Hp} (hyp : s_X10_comesCorner c0  h = some o) (F : Rt K none none o) : Go K 0 [(0, .ref (ad K c0))] [] h := by
  unfold s_X10_comesCorner at hyp
  refine g_iconst (pc := 0) (v := (0 : Int32)) S dX10_comesCorner_0 (by decide) ?_
  refine g_istore_n (pc := 1) (lv' := [(1, .int (0 : Int32)), (0, .ref (ad K c0))]) S dX10_comesCorner_1 rfl (by decide) rfl ?_
  refine g_bind hyp (fun e3 he3 hyp => ?_)
  refine g_sub [1, 0] rfl (g_loop (f := fun s : Int32 => s_X10_comesCorner_l2 c0 s h) (ρ := Int32) (Hd := fun s : Int32 => Go K 2 [(0, .ref (ad K c0)), (1, .int s)] [] h) (Ex := fun e3 => Go K 26 [(0, .ref (ad K c0)), (1, .int e3)] [] h) (fun s o h1 h2 h3 => o_X10_comesCorner_l2 S k0 s h h1 h2 h3) FUEL _ e3 he3 ?_)
  refine g_iload_n (pc := 26) 1 S dX10_comesCorner_26 rfl ?_
  refine g_aload_n (pc := 27) 0 S dX10_comesCorner_27 rfl ?_
  refine g_getI (pc := 28) S dX10_comesCorner_28 fl_X10_305 k0 ?_
  refine g_icmp_ge (pc := 31) (tgt := 45) S dX10_comesCorner_31 (by decide) hyp (fun hyp => ?_) (fun hyp => ?_)
  · refine g_aload_n (pc := 34) 0 S dX10_comesCorner_34 rfl ?_
    refine g_iconst (pc := 35) (v := (4 : Int32)) S dX10_comesCorner_35 (by decide) ?_
    refine g_iload_n (pc := 36) 1 S dX10_comesCorner_36 rfl ?_
    refine g_imul (pc := 37) S dX10_comesCorner_37 ?_
    refine g_bind hyp (fun y4 hy4 hyp => ?_)
    refine g_callV (pc := 38) (As := [.int ((4 : Int32) * e3)]) (rest := []) S dX10_comesCorner_38 k0 rfl tw_1215 tw_1216 tw_75 mw_X10_against (m_X10_against k0 ((4 : Int32) * e3) h hy4) rfl rfl (Nat.le_of_ble_eq_true rfl) (Nat.le_of_ble_eq_true rfl) (Nat.le_of_ble_eq_true rfl) ?_
    refine g_if_ne (pc := 41) (tgt := 45) S dX10_comesCorner_41 (by decide) hyp (fun hyp => ?_) (fun hyp => ?_)
    · have hyp := Option.some.inj hyp
      subst hyp
      exact g_vret (pc := 44) S F dX10_comesCorner_44
    · exact g_sub [0, 1] rfl (o_X10_comesCorner_b45 S k0 e3 h hyp F)
  · exact g_sub [0, 1] rfl (o_X10_comesCorner_b45 S k0 e3 h hyp F)
theorem m_X10_comesCorner {l : Launch} {D : va_G} {cT : Nat → ClassId} {aD : Nat → Nat} {c0 : Nat} (k0 : kd c0 (10 + 10, 0))  (h : Hp) {o : Hp} (hyp : s_X10_comesCorner c0  h = some o) : Ok l D cT aD yX10_comesCorner cX10_comesCorner 3 none 1 28 [.ref (aD c0)] h none o :=
  Ok.of (by decide +kernel) rfl (Nat.le_of_ble_eq_true rfl) (fun K e1 e2 e3 e4 S F => by subst e1; exact o_X10_comesCorner S k0  h hyp F)
-- BoundProofsModel tries (III)V
noncomputable def s_X10_tries (c0 : Nat) (a1 : Int32) (a2 : Int32) (a3 : Int32) (h : Hp) : Option (Hp) :=
  (s_X10_setPoint c0 a1 a2 a3 h).bind fun y1 =>
  if y1.1 = 0 then (some y1.2)
  else ((s_X10_isWithin c0  y1.2).bind fun y2 =>
  if y2 = 0 then (some y1.2)
  else ((s_X10_comesCorner c0  y1.2).bind fun y3 =>
  some y3))
set_option maxRecDepth 100000 in
set_option maxHeartbeats 4000000 in
theorem o_X10_tries {K : gK} (S : Cx K RX10 cX10_tries 4 4 117) {c0 : Nat} (k0 : kd c0 (10 + 10, 0)) (a1 : Int32) (a2 : Int32) (a3 : Int32) (h : Hp) {o : Hp} (hyp : s_X10_tries c0 a1 a2 a3 h = some o) (F : Rt K none none o) : Go K 0 [(0, .ref (ad K c0)), (1, .int a1), (2, .int a2), (3, .int a3)] [] h := by
  unfold s_X10_tries at hyp
  refine g_aload_n (pc := 0) 0 S dX10_tries_0 rfl ?_
  refine g_iload_n (pc := 1) 1 S dX10_tries_1 rfl ?_
  refine g_iload_n (pc := 2) 2 S dX10_tries_2 rfl ?_
  refine g_iload_n (pc := 3) 3 S dX10_tries_3 rfl ?_
  refine g_bind hyp (fun y1 hy1 hyp => ?_)
  refine g_callV (pc := 4) (As := [.int a1, .int a2, .int a3]) (rest := []) S dX10_tries_4 k0 rfl tw_1194 tw_1195 tw_69 mw_X10_setPoint (m_X10_setPoint k0 a1 a2 a3 h hy1) rfl rfl (Nat.le_of_ble_eq_true rfl) (Nat.le_of_ble_eq_true rfl) (Nat.le_of_ble_eq_true rfl) ?_
  refine g_if_eq (pc := 7) (tgt := 21) S dX10_tries_7 (by decide) hyp (fun hyp => ?_) (fun hyp => ?_)
  · have hyp := Option.some.inj hyp
    subst hyp
    exact g_vret (pc := 21) S F dX10_tries_21
  · refine g_aload_n (pc := 10) 0 S dX10_tries_10 rfl ?_
    refine g_bind hyp (fun y2 hy2 hyp => ?_)
    refine g_callV (pc := 11) (As := []) (rest := []) S dX10_tries_11 k0 rfl tw_1209 tw_1210 tw_73 mw_X10_isWithin (m_X10_isWithin k0  y1.2 hy2) rfl rfl (Nat.le_of_ble_eq_true rfl) (Nat.le_of_ble_eq_true rfl) (Nat.le_of_ble_eq_true rfl) ?_
    refine g_if_eq (pc := 14) (tgt := 21) S dX10_tries_14 (by decide) hyp (fun hyp => ?_) (fun hyp => ?_)
    · have hyp := Option.some.inj hyp
      subst hyp
      exact g_vret (pc := 21) S F dX10_tries_21
    · refine g_aload_n (pc := 17) 0 S dX10_tries_17 rfl ?_
      refine g_bind hyp (fun y3 hy3 hyp => ?_)
      refine g_callV (pc := 18) (As := []) (rest := []) S dX10_tries_18 k0 rfl tw_1212 tw_1213 tw_74 mw_X10_comesCorner (m_X10_comesCorner k0  y1.2 hy3) rfl rfl (Nat.le_of_ble_eq_true rfl) (Nat.le_of_ble_eq_true rfl) (Nat.le_of_ble_eq_true rfl) ?_
      have hyp := Option.some.inj hyp
      subst hyp
      exact g_vret (pc := 21) S F dX10_tries_21
theorem m_X10_tries {l : Launch} {D : va_G} {cT : Nat → ClassId} {aD : Nat → Nat} {c0 : Nat} (k0 : kd c0 (10 + 10, 0)) (a1 : Int32) (a2 : Int32) (a3 : Int32) (h : Hp) {o : Hp} (hyp : s_X10_tries c0 a1 a2 a3 h = some o) : Ok l D cT aD yX10_tries cX10_tries 4 none 4 117 [.ref (aD c0), .int a1, .int a2, .int a3] h none o :=
  Ok.of (by decide +kernel) rfl (Nat.le_of_ble_eq_true rfl) (fun K e1 e2 e3 e4 S F => by subst e1; exact o_X10_tries S k0 a1 a2 a3 h hyp F)
