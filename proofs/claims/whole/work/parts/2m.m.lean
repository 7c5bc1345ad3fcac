-- BoundProofsModel sees ()V
def s_X10_sees_b163 (c0 : Nat) (a1 : Int32) (a2 : Int32) (h : Hp) : Option ((Int32 × Hp) ⊕ (Hp)) :=
  lt (a2 + (1 : Int32)) fun v2_22 =>
  some (.inl (v2_22, h))
def s_X10_sees_l64 (c0 : Nat) (a1 : Int32) (a2 : Int32) (h : Hp) : Option ((Int32 × Hp) ⊕ (Hp)) :=
  if a2 < (h.1 c0 15) then (ldJ h (c0 + 12) 120 a1 fun x10 =>
  if (0 : Int64) < x10 then (ldJ h (c0 + 12) 120 a2 fun x11 =>
  if x11 < (0 : Int64) then (ldJ h (c0 + 12) 120 a2 fun x12 =>
  lt (-x12) fun v3_13 =>
  ldJ h (c0 + 12) 120 a1 fun x14 =>
  ldJ h (c0 + 11) 120 a1 fun x15 =>
  ldJ h (c0 + 11) 120 a2 fun x16 =>
  ldJ h (c0 + 13) 120 a1 fun x17 =>
  ldJ h (c0 + 13) 120 a2 fun x18 =>
  ldI h (c0 + 14) 120 a1 fun x19 =>
  ldI h (c0 + 14) 120 a2 fun x20 =>
  (s_X10_cuts c0 ((v3_13 * x15) + (x14 * x16)) ((v3_13 * x17) + (x14 * x18)) (x19 ||| x20) h).bind fun y21 =>
  s_X10_sees_b163 c0 a1 a2 y21)
  else (s_X10_sees_b163 c0 a1 a2 h))
  else (some (.inr (h))))
  else (some (.inr (h)))
def s_X10_sees_b62 (c0 : Nat) (a1 : Int32) (h : Hp) : Option ((Int32 × Hp) ⊕ (Hp)) :=
  (iter (fun s : Int32 × Hp => s_X10_sees_l64 c0 a1 s.1 s.2) FUEL ((0 : Int32), h)).bind fun e23 =>
  lt (a1 + (1 : Int32)) fun v1_24 =>
  some (.inl (v1_24, e23))
def s_X10_sees_l21 (c0 : Nat) (a1 : Int32) (h : Hp) : Option ((Int32 × Hp) ⊕ (Hp)) :=
  if a1 < (h.1 c0 15) then (ldJ h (c0 + 12) 120 a1 fun x5 =>
  if x5 = (0 : Int64) then (ldJ h (c0 + 11) 120 a1 fun x6 =>
  ldJ h (c0 + 13) 120 a1 fun x7 =>
  ldI h (c0 + 14) 120 a1 fun x8 =>
  (s_X10_cuts c0 x6 x7 x8 h).bind fun y9 =>
  s_X10_sees_b62 c0 a1 y9)
  else (s_X10_sees_b62 c0 a1 h))
  else (some (.inr (h)))
def s_X10_sees_b248 (c0 : Nat) (t0 : Int32) (h : Hp) : Option (Hp) :=
  ckB t0 <|
  lt (sI h c0 28 t0) fun h27 =>
  some h27
def s_X10_sees_b243 (c0 : Nat)  (h : Hp) : Option (Hp) :=
  s_X10_sees_b248 c0 (1 : Int32) h
def s_X10_sees_b247 (c0 : Nat)  (h : Hp) : Option (Hp) :=
  s_X10_sees_b248 c0 (0 : Int32) h
def s_X10_sees (c0 : Nat)  (h : Hp) : Option (Hp) :=
  (s_X10_withoutZ c0  h).bind fun y1 =>
  lt (sI y1 c0 20 (0 : Int32)) fun h2 =>
  lt (sI h2 c0 24 (0 : Int32)) fun h3 =>
  lt (sI h3 c0 28 (0 : Int32)) fun h4 =>
  (iter (fun s : Int32 × Hp => s_X10_sees_l21 c0 s.1 s.2) FUEL ((0 : Int32), h4)).bind fun e25 =>
  if (e25.1 c0 20) = 0 then (some e25)
  else (if (e25.1 c0 24) = 0 then (some e25)
  else (lt (((e25.2 c0 25) * (e25.2 c0 22)) - ((e25.2 c0 21) * (e25.2 c0 26))) fun v1_26 =>
  if (e25.1 c0 28) = 0 then (if v1_26 < (0 : Int64) then (s_X10_sees_b243 c0  e25)
  else (if v1_26 = (0 : Int64) then (if (e25.1 c0 23) = 0 then (if (e25.1 c0 27) = 0 then (s_X10_sees_b247 c0  e25)
  else (s_X10_sees_b243 c0  e25))
  else (s_X10_sees_b243 c0  e25))
  else (s_X10_sees_b247 c0  e25)))
  else (s_X10_sees_b243 c0  e25)))
set_option maxRecDepth 100000 in
set_option maxHeartbeats 4000000 in
theorem o_X10_sees_b163 {K : gK} (S : Cx K RX10 cX10_sees 7 2 61) {c0 : Nat} (k0 : kd c0 (10 + 10, 0)) (a1 : Int32) (a2 : Int32) (h : Hp) {o : (Int32 × Hp) ⊕ (Hp)} (hyp : s_X10_sees_b163 c0 a1 a2 h = some o) (hin : ∀ s', o = .inl s' → Go K 64 [(0, .ref (ad K c0)), (1, .int a1), (2, .int s'.1)] [] s'.2) (hex0 : ∀ s', o = .inr (s') → Go K 169 [(0, .ref (ad K c0)), (1, .int a1)] [] s') : Go K 163 [(0, .ref (ad K c0)), (1, .int a1), (2, .int a2)] [] h := by
  unfold s_X10_sees_b163 at hyp
  refine g_iinc (pc := 163) (v := (a2 + (1 : Int32))) (lv' := [(2, .int (a2 + (1 : Int32))), (0, .ref (ad K c0)), (1, .int a1)]) 2 S dX10_sees_163 rfl (by rfl) (by decide) rfl ?_
  refine g_lti (C := fun v2_22 => Go K (163 + 3) [(2, .int v2_22), (0, .ref (ad K c0)), (1, .int a1)] [] h) hyp (fun v2_22 hyp => ?_)
  refine g_goto (pc := 166) (tgt := 64) S dX10_sees_166 (by decide) ?_
  cases hyp
  exact g_sub [1, 2, 0] rfl (hin _ rfl)
set_option maxRecDepth 100000 in
set_option maxHeartbeats 4000000 in
theorem o_X10_sees_l64 {K : gK} (S : Cx K RX10 cX10_sees 7 2 61) {c0 : Nat} (k0 : kd c0 (10 + 10, 0)) (a1 : Int32) (a2 : Int32) (h : Hp) {o : (Int32 × Hp) ⊕ (Hp)} (hyp : s_X10_sees_l64 c0 a1 a2 h = some o) (hin : ∀ s', o = .inl s' → Go K 64 [(0, .ref (ad K c0)), (1, .int a1), (2, .int s'.1)] [] s'.2) (hex0 : ∀ s', o = .inr (s') → Go K 169 [(0, .ref (ad K c0)), (1, .int a1)] [] s') : Go K 64 [(0, .ref (ad K c0)), (1, .int a1), (2, .int a2)] [] h := by
  unfold s_X10_sees_l64 at hyp
  refine g_iload_n (pc := 64) 2 S dX10_sees_64 rfl ?_
  refine g_aload_n (pc := 65) 0 S dX10_sees_65 rfl ?_
  refine g_getI (pc := 66) S dX10_sees_66 fl_X10_142 k0 ?_
  refine g_icmp_ge (pc := 69) (tgt := 169) S dX10_sees_69 (by decide) hyp (fun hyp => ?_) (fun hyp => ?_)
  · refine g_aload_n (pc := 72) 0 S dX10_sees_72 rfl ?_
    refine g_getR (pc := 73) S dX10_sees_73 fl_X10_48 k0 ?_
    refine g_iload_n (pc := 76) 1 S dX10_sees_76 rfl ?_
    refine g_lald (pc := 77) S dX10_sees_77 (kf_10_12 k0) hyp (fun x10 hyp => ?_)
    refine g_lconst (pc := 78) (v := (0 : Int64)) S dX10_sees_78 (by decide) ?_
    refine g_lcmp_le (pc := 79) (tgt := 169) S dX10_sees_79 dX10_sees_80 (by decide) hyp (fun hyp => ?_) (fun hyp => ?_)
    · refine g_aload_n (pc := 83) 0 S dX10_sees_83 rfl ?_
      refine g_getR (pc := 84) S dX10_sees_84 fl_X10_48 k0 ?_
      refine g_iload_n (pc := 87) 2 S dX10_sees_87 rfl ?_
      refine g_lald (pc := 88) S dX10_sees_88 (kf_10_12 k0) hyp (fun x11 hyp => ?_)
      refine g_lconst (pc := 89) (v := (0 : Int64)) S dX10_sees_89 (by decide) ?_
      refine g_lcmp_ge (pc := 90) (tgt := 163) S dX10_sees_90 dX10_sees_91 (by decide) hyp (fun hyp => ?_) (fun hyp => ?_)
      · refine g_aload_n (pc := 94) 0 S dX10_sees_94 rfl ?_
        refine g_getR (pc := 95) S dX10_sees_95 fl_X10_48 k0 ?_
        refine g_iload_n (pc := 98) 2 S dX10_sees_98 rfl ?_
        refine g_lald (pc := 99) S dX10_sees_99 (kf_10_12 k0) hyp (fun x12 hyp => ?_)
        refine g_lneg (pc := 100) S dX10_sees_100 ?_
        refine g_lti (C := fun v3_13 => Go K 101 [(0, .ref (ad K c0)), (1, .int a1), (2, .int a2)] [.long v3_13] h) hyp (fun v3_13 hyp => ?_)
        refine g_lstore_n (pc := 101) (lv' := [(3, .long v3_13), (0, .ref (ad K c0)), (1, .int a1), (2, .int a2)]) S dX10_sees_101 rfl (by decide) rfl ?_
        refine g_aload_n (pc := 102) 1 S dX10_sees_102 rfl ?_
        refine g_getR (pc := 103) S dX10_sees_103 fl_X10_48 k0 ?_
        refine g_iload_n (pc := 106) 2 S dX10_sees_106 rfl ?_
        refine g_lald (pc := 107) S dX10_sees_107 (kf_10_12 k0) hyp (fun x14 hyp => ?_)
        refine g_lstore (pc := 108) (lv' := [(5, .long x14), (3, .long v3_13), (0, .ref (ad K c0)), (1, .int a1), (2, .int a2)]) S dX10_sees_108 (by decide) rfl ?_
        refine g_aload_n (pc := 110) 2 S dX10_sees_110 rfl ?_
        refine g_lload_n (pc := 111) 1 S dX10_sees_111 rfl ?_
        refine g_aload_n (pc := 112) 2 S dX10_sees_112 rfl ?_
        refine g_getR (pc := 113) S dX10_sees_113 fl_X10_45 k0 ?_
        refine g_iload_n (pc := 116) 3 S dX10_sees_116 rfl ?_
        refine g_lald (pc := 117) S dX10_sees_117 (kf_10_11 k0) hyp (fun x15 hyp => ?_)
        refine g_lmul (pc := 118) S dX10_sees_118 ?_
        refine g_lload (pc := 119) 0 S dX10_sees_119 rfl ?_
        refine g_aload_n (pc := 121) 2 S dX10_sees_121 rfl ?_
        refine g_getR (pc := 122) S dX10_sees_122 fl_X10_45 k0 ?_
        refine g_iload_n (pc := 125) 4 S dX10_sees_125 rfl ?_
        refine g_lald (pc := 126) S dX10_sees_126 (kf_10_11 k0) hyp (fun x16 hyp => ?_)
        refine g_lmul (pc := 127) S dX10_sees_127 ?_
        refine g_ladd (pc := 128) S dX10_sees_128 ?_
        refine g_lload_n (pc := 129) 1 S dX10_sees_129 rfl ?_
        refine g_aload_n (pc := 130) 2 S dX10_sees_130 rfl ?_
        refine g_getR (pc := 131) S dX10_sees_131 fl_X10_51 k0 ?_
        refine g_iload_n (pc := 134) 3 S dX10_sees_134 rfl ?_
        refine g_lald (pc := 135) S dX10_sees_135 (kf_10_13 k0) hyp (fun x17 hyp => ?_)
        refine g_lmul (pc := 136) S dX10_sees_136 ?_
        refine g_lload (pc := 137) 0 S dX10_sees_137 rfl ?_
        refine g_aload_n (pc := 139) 2 S dX10_sees_139 rfl ?_
        refine g_getR (pc := 140) S dX10_sees_140 fl_X10_51 k0 ?_
        refine g_iload_n (pc := 143) 4 S dX10_sees_143 rfl ?_
        refine g_lald (pc := 144) S dX10_sees_144 (kf_10_13 k0) hyp (fun x18 hyp => ?_)
        refine g_lmul (pc := 145) S dX10_sees_145 ?_
        refine g_ladd (pc := 146) S dX10_sees_146 ?_
        refine g_aload_n (pc := 147) 2 S dX10_sees_147 rfl ?_
        refine g_getR (pc := 148) S dX10_sees_148 fl_X10_54 k0 ?_
        refine g_iload_n (pc := 151) 3 S dX10_sees_151 rfl ?_
        refine g_iald (pc := 152) S dX10_sees_152 (kf_10_14 k0) hyp (fun x19 hyp => ?_)
        refine g_aload_n (pc := 153) 2 S dX10_sees_153 rfl ?_
        refine g_getR (pc := 154) S dX10_sees_154 fl_X10_54 k0 ?_
        refine g_iload_n (pc := 157) 4 S dX10_sees_157 rfl ?_
        refine g_iald (pc := 158) S dX10_sees_158 (kf_10_14 k0) hyp (fun x20 hyp => ?_)
        refine g_ior (pc := 159) S dX10_sees_159 ?_
        refine g_bind hyp (fun y21 hy21 hyp => ?_)
        refine g_callV (pc := 160) (As := [.long ((v3_13 * x15) + (x14 * x16)), .long ((v3_13 * x17) + (x14 * x18)), .int (x19 ||| x20)]) (rest := []) S dX10_sees_160 k0 rfl tw_1076 tw_1077 tw_48 mw_X10_cuts (m_X10_cuts k0 ((v3_13 * x15) + (x14 * x16)) ((v3_13 * x17) + (x14 * x18)) (x19 ||| x20) h hy21) rfl rfl (Nat.le_of_ble_eq_true rfl) (Nat.le_of_ble_eq_true rfl) (Nat.le_of_ble_eq_true rfl) ?_
        exact g_sub [2, 3, 4] rfl (o_X10_sees_b163 S k0 a1 a2 y21 hyp hin hex0)
      · exact g_sub [0, 1, 2] rfl (o_X10_sees_b163 S k0 a1 a2 h hyp hin hex0)
    · cases hyp
      exact g_sub [0, 1] rfl (hex0 _ rfl)
  · cases hyp
    exact g_sub [0, 1] rfl (hex0 _ rfl)
set_option maxRecDepth 100000 in
set_option maxHeartbeats 4000000 in
theorem o_X10_sees_b62 {K : gK} (S : Cx K RX10 cX10_sees 7 2 61) {c0 : Nat} (k0 : kd c0 (10 + 10, 0)) (a1 : Int32) (h : Hp) {o : (Int32 × Hp) ⊕ (Hp)} (hyp : s_X10_sees_b62 c0 a1 h = some o) (hin : ∀ s', o = .inl s' → Go K 21 [(0, .ref (ad K c0)), (1, .int s'.1)] [] s'.2) (hex0 : ∀ s', o = .inr (s') → Go K 175 [(0, .ref (ad K c0))] [] s') : Go K 62 [(0, .ref (ad K c0)), (1, .int a1)] [] h := by
  unfold s_X10_sees_b62 at hyp
  refine g_iconst (pc := 62) (v := (0 : Int32)) S dX10_sees_62 (by decide) ?_
  refine g_istore_n (pc := 63) (lv' := [(2, .int (0 : Int32)), (0, .ref (ad K c0)), (1, .int a1)]) S dX10_sees_63 rfl (by decide) rfl ?_
  refine g_bind hyp (fun e23 he23 hyp => ?_)
  refine g_sub [1, 2, 0] rfl (g_loop (Hd := fun s : Int32 × Hp => Go K 64 [(0, .ref (ad K c0)), (1, .int a1), (2, .int s.1)] [] s.2) (Ex := fun e23 => Go K 169 [(0, .ref (ad K c0)), (1, .int a1)] [] e23) (fun s o h1 h2 h3 => o_X10_sees_l64 S k0 a1 s.1 s.2 h1 h2 h3) FUEL _ e23 he23 ?_)
  refine g_iinc (pc := 169) (v := (a1 + (1 : Int32))) (lv' := [(1, .int (a1 + (1 : Int32))), (0, .ref (ad K c0))]) 1 S dX10_sees_169 rfl (by rfl) (by decide) rfl ?_
  refine g_lti (C := fun v1_24 => Go K (169 + 3) [(1, .int v1_24), (0, .ref (ad K c0))] [] e23) hyp (fun v1_24 hyp => ?_)
  refine g_goto (pc := 172) (tgt := 21) S dX10_sees_172 (by decide) ?_
  cases hyp
  exact g_sub [1, 0] rfl (hin _ rfl)
set_option maxRecDepth 100000 in
set_option maxHeartbeats 4000000 in
theorem o_X10_sees_l21 {K : gK} (S : Cx K RX10 cX10_sees 7 2 61) {c0 : Nat} (k0 : kd c0 (10 + 10, 0)) (a1 : Int32) (h : Hp) {o : (Int32 × Hp) ⊕ (Hp)} (hyp : s_X10_sees_l21 c0 a1 h = some o) (hin : ∀ s', o = .inl s' → Go K 21 [(0, .ref (ad K c0)), (1, .int s'.1)] [] s'.2) (hex0 : ∀ s', o = .inr (s') → Go K 175 [(0, .ref (ad K c0))] [] s') : Go K 21 [(0, .ref (ad K c0)), (1, .int a1)] [] h := by
  unfold s_X10_sees_l21 at hyp
  refine g_iload_n (pc := 21) 1 S dX10_sees_21 rfl ?_
  refine g_aload_n (pc := 22) 0 S dX10_sees_22 rfl ?_
  refine g_getI (pc := 23) S dX10_sees_23 fl_X10_142 k0 ?_
  refine g_icmp_ge (pc := 26) (tgt := 175) S dX10_sees_26 (by decide) hyp (fun hyp => ?_) (fun hyp => ?_)
  · refine g_aload_n (pc := 29) 0 S dX10_sees_29 rfl ?_
    refine g_getR (pc := 30) S dX10_sees_30 fl_X10_48 k0 ?_
    refine g_iload_n (pc := 33) 1 S dX10_sees_33 rfl ?_
    refine g_lald (pc := 34) S dX10_sees_34 (kf_10_12 k0) hyp (fun x5 hyp => ?_)
    refine g_lconst (pc := 35) (v := (0 : Int64)) S dX10_sees_35 (by decide) ?_
    refine g_lcmp_ne (pc := 36) (tgt := 62) S dX10_sees_36 dX10_sees_37 (by decide) hyp (fun hyp => ?_) (fun hyp => ?_)
    · refine g_aload_n (pc := 40) 0 S dX10_sees_40 rfl ?_
      refine g_aload_n (pc := 41) 0 S dX10_sees_41 rfl ?_
      refine g_getR (pc := 42) S dX10_sees_42 fl_X10_45 k0 ?_
      refine g_iload_n (pc := 45) 1 S dX10_sees_45 rfl ?_
      refine g_lald (pc := 46) S dX10_sees_46 (kf_10_11 k0) hyp (fun x6 hyp => ?_)
      refine g_aload_n (pc := 47) 0 S dX10_sees_47 rfl ?_
      refine g_getR (pc := 48) S dX10_sees_48 fl_X10_51 k0 ?_
      refine g_iload_n (pc := 51) 1 S dX10_sees_51 rfl ?_
      refine g_lald (pc := 52) S dX10_sees_52 (kf_10_13 k0) hyp (fun x7 hyp => ?_)
      refine g_aload_n (pc := 53) 0 S dX10_sees_53 rfl ?_
      refine g_getR (pc := 54) S dX10_sees_54 fl_X10_54 k0 ?_
      refine g_iload_n (pc := 57) 1 S dX10_sees_57 rfl ?_
      refine g_iald (pc := 58) S dX10_sees_58 (kf_10_14 k0) hyp (fun x8 hyp => ?_)
      refine g_bind hyp (fun y9 hy9 hyp => ?_)
      refine g_callV (pc := 59) (As := [.long x6, .long x7, .int x8]) (rest := []) S dX10_sees_59 k0 rfl tw_1076 tw_1077 tw_48 mw_X10_cuts (m_X10_cuts k0 x6 x7 x8 h hy9) rfl rfl (Nat.le_of_ble_eq_true rfl) (Nat.le_of_ble_eq_true rfl) (Nat.le_of_ble_eq_true rfl) ?_
      exact g_sub [0, 1] rfl (o_X10_sees_b62 S k0 a1 y9 hyp hin hex0)
    · exact g_sub [0, 1] rfl (o_X10_sees_b62 S k0 a1 h hyp hin hex0)
  · cases hyp
    exact g_sub [0] rfl (hex0 _ rfl)
set_option maxRecDepth 100000 in
set_option maxHeartbeats 4000000 in
theorem o_X10_sees_b248 {K : gK} (S : Cx K RX10 cX10_sees 7 2 61) {c0 : Nat} (k0 : kd c0 (10 + 10, 0)) (t0 : Int32) (h : Hp) {o : Hp} (hyp : s_X10_sees_b248 c0 t0 h = some o) (F : Rt K none none o) : Go K 248 [] [.int t0, .ref (ad K c0)] h := by
  unfold s_X10_sees_b248 at hyp
  refine g_ckB hyp (fun hz hyp => ?_)
  refine g_putZ (pc := 248) S dX10_sees_248 fl_X10_149 k0 hz hyp (fun h27 hyp => ?_)
  cases hyp
  exact g_vret (pc := 251) S F dX10_sees_251
set_option maxRecDepth 100000 in
set_option maxHeartbeats 4000000 in
theorem o_X10_sees_b243 {K : gK} (S : Cx K RX10 cX10_sees 7 2 61) {c0 : Nat} (k0 : kd c0 (10 + 10, 0))  (h : Hp) {o : Hp} (hyp : s_X10_sees_b243 c0  h = some o) (F : Rt K none none o) : Go K 243 [] [.ref (ad K c0)] h := by
  unfold s_X10_sees_b243 at hyp
  refine g_iconst (pc := 243) (v := (1 : Int32)) S dX10_sees_243 (by decide) ?_
  refine g_goto (pc := 244) (tgt := 248) S dX10_sees_244 (by decide) ?_
  exact g_sub [] rfl (o_X10_sees_b248 S k0 (1 : Int32) h hyp F)
set_option maxRecDepth 100000 in
set_option maxHeartbeats 4000000 in
theorem o_X10_sees_b247 {K : gK} (S : Cx K RX10 cX10_sees 7 2 61) {c0 : Nat} (k0 : kd c0 (10 + 10, 0))  (h : Hp) {o : Hp} (hyp : s_X10_sees_b247 c0  h = some o) (F : Rt K none none o) : Go K 247 [] [.ref (ad K c0)] h := by
  unfold s_X10_sees_b247 at hyp
  refine g_iconst (pc := 247) (v := (0 : Int32)) S dX10_sees_247 (by decide) ?_
  exact g_sub [] rfl (o_X10_sees_b248 S k0 (0 : Int32) h hyp F)
set_option maxRecDepth 100000 in
set_option maxHeartbeats 4000000 in
theorem o_X10_sees {K : gK} (S : Cx K RX10 cX10_sees 7 2 61) {c0 : Nat} (k0 : kd c0 (10 + 10, 0))  (h : Hp) {o : Hp} (hyp : s_X10_sees c0  h = some o) (F : Rt K none none o) : Go K 0 [(0, .ref (ad K c0))] [] h := by
  unfold s_X10_sees at hyp
  refine g_aload_n (pc := 0) 0 S dX10_sees_0 rfl ?_
  refine g_bind hyp (fun y1 hy1 hyp => ?_)
  refine g_callV (pc := 1) (As := []) (rest := []) S dX10_sees_1 k0 rfl tw_1070 tw_1071 tw_46 mw_X10_withoutZ (m_X10_withoutZ k0  h hy1) rfl rfl (Nat.le_of_ble_eq_true rfl) (Nat.le_of_ble_eq_true rfl) (Nat.le_of_ble_eq_true rfl) ?_
  refine g_aload_n (pc := 4) 0 S dX10_sees_4 rfl ?_
  refine g_iconst (pc := 5) (v := (0 : Int32)) S dX10_sees_5 (by decide) ?_
  refine g_putZ (pc := 6) S dX10_sees_6 fl_X10_167 k0 (Or.inl rfl) hyp (fun h2 hyp => ?_)
  refine g_aload_n (pc := 9) 0 S dX10_sees_9 rfl ?_
  refine g_iconst (pc := 10) (v := (0 : Int32)) S dX10_sees_10 (by decide) ?_
  refine g_putZ (pc := 11) S dX10_sees_11 fl_X10_153 k0 (Or.inl rfl) hyp (fun h3 hyp => ?_)
  refine g_aload_n (pc := 14) 0 S dX10_sees_14 rfl ?_
  refine g_iconst (pc := 15) (v := (0 : Int32)) S dX10_sees_15 (by decide) ?_
  refine g_putZ (pc := 16) S dX10_sees_16 fl_X10_149 k0 (Or.inl rfl) hyp (fun h4 hyp => ?_)
  refine g_iconst (pc := 19) (v := (0 : Int32)) S dX10_sees_19 (by decide) ?_
  refine g_istore_n (pc := 20) (lv' := [(1, .int (0 : Int32)), (0, .ref (ad K c0))]) S dX10_sees_20 rfl (by decide) rfl ?_
  refine g_bind hyp (fun e25 he25 hyp => ?_)
  refine g_sub [1, 0] rfl (g_loop (Hd := fun s : Int32 × Hp => Go K 21 [(0, .ref (ad K c0)), (1, .int s.1)] [] s.2) (Ex := fun e25 => Go K 175 [(0, .ref (ad K c0))] [] e25) (fun s o h1 h2 h3 => o_X10_sees_l21 S k0 s.1 s.2 h1 h2 h3) FUEL _ e25 he25 ?_)
  refine g_aload_n (pc := 175) 0 S dX10_sees_175 rfl ?_
  refine g_getI (pc := 176) S dX10_sees_176 fl_X10_167 k0 ?_
  refine g_if_eq (pc := 179) (tgt := 251) S dX10_sees_179 (by decide) hyp (fun hyp => ?_) (fun hyp => ?_)
  · cases hyp
    exact g_vret (pc := 251) S F dX10_sees_251
  · refine g_aload_n (pc := 182) 0 S dX10_sees_182 rfl ?_
    refine g_getI (pc := 183) S dX10_sees_183 fl_X10_153 k0 ?_
    refine g_if_eq (pc := 186) (tgt := 251) S dX10_sees_186 (by decide) hyp (fun hyp => ?_) (fun hyp => ?_)
    · cases hyp
      exact g_vret (pc := 251) S F dX10_sees_251
    · refine g_aload_n (pc := 189) 0 S dX10_sees_189 rfl ?_
      refine g_getJ (pc := 190) S dX10_sees_190 fl_X10_159 k0 ?_
      refine g_aload_n (pc := 193) 0 S dX10_sees_193 rfl ?_
      refine g_getJ (pc := 194) S dX10_sees_194 fl_X10_170 k0 ?_
      refine g_lmul (pc := 197) S dX10_sees_197 ?_
      refine g_aload_n (pc := 198) 0 S dX10_sees_198 rfl ?_
      refine g_getJ (pc := 199) S dX10_sees_199 fl_X10_173 k0 ?_
      refine g_aload_n (pc := 202) 0 S dX10_sees_202 rfl ?_
      refine g_getJ (pc := 203) S dX10_sees_203 fl_X10_156 k0 ?_
      refine g_lmul (pc := 206) S dX10_sees_206 ?_
      refine g_lsub (pc := 207) S dX10_sees_207 ?_
      refine g_lti (C := fun v1_26 => Go K 208 [(0, .ref (ad K c0))] [.long v1_26] e25) hyp (fun v1_26 hyp => ?_)
      refine g_lstore_n (pc := 208) (lv' := [(1, .long v1_26), (0, .ref (ad K c0))]) S dX10_sees_208 rfl (by decide) rfl ?_
      refine g_aload_n (pc := 209) 1 S dX10_sees_209 rfl ?_
      refine g_aload_n (pc := 210) 1 S dX10_sees_210 rfl ?_
      refine g_getI (pc := 211) S dX10_sees_211 fl_X10_149 k0 ?_
      refine g_if_ne (pc := 214) (tgt := 243) S dX10_sees_214 (by decide) hyp (fun hyp => ?_) (fun hyp => ?_)
      · refine g_lload_n (pc := 217) 0 S dX10_sees_217 rfl ?_
        refine g_lconst (pc := 218) (v := (0 : Int64)) S dX10_sees_218 (by decide) ?_
        refine g_lcmp_lt (pc := 219) (tgt := 243) S dX10_sees_219 dX10_sees_220 (by decide) hyp (fun hyp => ?_) (fun hyp => ?_)
        · exact g_sub [] rfl (o_X10_sees_b243 S k0  e25 hyp F)
        · refine g_lload_n (pc := 223) 0 S dX10_sees_223 rfl ?_
          refine g_lconst (pc := 224) (v := (0 : Int64)) S dX10_sees_224 (by decide) ?_
          refine g_lcmp_ne (pc := 225) (tgt := 247) S dX10_sees_225 dX10_sees_226 (by decide) hyp (fun hyp => ?_) (fun hyp => ?_)
          · refine g_aload_n (pc := 229) 1 S dX10_sees_229 rfl ?_
            refine g_getI (pc := 230) S dX10_sees_230 fl_X10_176 k0 ?_
            refine g_if_ne (pc := 233) (tgt := 243) S dX10_sees_233 (by decide) hyp (fun hyp => ?_) (fun hyp => ?_)
            · refine g_aload_n (pc := 236) 1 S dX10_sees_236 rfl ?_
              refine g_getI (pc := 237) S dX10_sees_237 fl_X10_164 k0 ?_
              refine g_if_eq (pc := 240) (tgt := 247) S dX10_sees_240 (by decide) hyp (fun hyp => ?_) (fun hyp => ?_)
              · exact g_sub [] rfl (o_X10_sees_b247 S k0  e25 hyp F)
              · exact g_sub [] rfl (o_X10_sees_b243 S k0  e25 hyp F)
            · exact g_sub [] rfl (o_X10_sees_b243 S k0  e25 hyp F)
          · exact g_sub [] rfl (o_X10_sees_b247 S k0  e25 hyp F)
      · exact g_sub [] rfl (o_X10_sees_b243 S k0  e25 hyp F)
theorem m_X10_sees {l : Launch} {D : va_G} {cT : Nat → ClassId} {aD : Nat → Nat} {c0 : Nat} (k0 : kd c0 (10 + 10, 0))  (h : Hp) {o : Hp} (hyp : s_X10_sees c0  h = some o) : Ok l D cT aD yX10_sees cX10_sees 7 none 2 61 [.ref (aD c0)] h none o :=
  Ok.of (by decide +kernel) rfl (Nat.le_of_ble_eq_true rfl) (fun K e1 e2 e3 e4 S F => by subst e1; exact o_X10_sees S k0  h hyp F)
-- BoundProofsModel coefficientOf (II)I
def s_X10_coefficientOf (c0 : Nat) (a1 : Int32) (a2 : Int32) (h : Hp) : Option (Int32) :=
  ldI h (c0 + 2) 30 ((3 : Int32) * a1) fun x1 =>
  ldI h (c0 + 1) 24 (((3 : Int32) * x1) + a2) fun x2 =>
  some x2
set_option maxRecDepth 100000 in
set_option maxHeartbeats 4000000 in
theorem o_X10_coefficientOf {K : gK} (S : Cx K RX10 cX10_coefficientOf 3 0 0) {c0 : Nat} (k0 : kd c0 (10 + 10, 0)) (a1 : Int32) (a2 : Int32) (h : Hp) {o : Int32} (hyp : s_X10_coefficientOf c0 a1 a2 h = some o) (F : Rt K (some .int) (some (.int o)) h) : Go K 0 [(0, .ref (ad K c0)), (1, .int a1), (2, .int a2)] [] h := by
  unfold s_X10_coefficientOf at hyp
  refine g_aload_n (pc := 0) 0 S dX10_coefficientOf_0 rfl ?_
  refine g_getR (pc := 1) S dX10_coefficientOf_1 fl_X10_13 k0 ?_
  refine g_iconst (pc := 4) (v := (3 : Int32)) S dX10_coefficientOf_4 (by decide) ?_
  refine g_aload_n (pc := 5) 0 S dX10_coefficientOf_5 rfl ?_
  refine g_getR (pc := 6) S dX10_coefficientOf_6 fl_X10_17 k0 ?_
  refine g_iconst (pc := 9) (v := (3 : Int32)) S dX10_coefficientOf_9 (by decide) ?_
  refine g_iload_n (pc := 10) 1 S dX10_coefficientOf_10 rfl ?_
  refine g_imul (pc := 11) S dX10_coefficientOf_11 ?_
  refine g_iald (pc := 12) S dX10_coefficientOf_12 (kf_10_2 k0) hyp (fun x1 hyp => ?_)
  refine g_imul (pc := 13) S dX10_coefficientOf_13 ?_
  refine g_iload_n (pc := 14) 2 S dX10_coefficientOf_14 rfl ?_
  refine g_iadd (pc := 15) S dX10_coefficientOf_15 ?_
  refine g_iald (pc := 16) S dX10_coefficientOf_16 (kf_10_1 k0) hyp (fun x2 hyp => ?_)
  cases hyp
  exact g_iret (pc := 17) S F dX10_coefficientOf_17
theorem m_X10_coefficientOf {l : Launch} {D : va_G} {cT : Nat → ClassId} {aD : Nat → Nat} {c0 : Nat} (k0 : kd c0 (10 + 10, 0)) (a1 : Int32) (a2 : Int32) (h : Hp) {o : Int32} (hyp : s_X10_coefficientOf c0 a1 a2 h = some o) : Ok l D cT aD yX10_coefficientOf cX10_coefficientOf 3 (some .int) 0 0 [.ref (aD c0), .int a1, .int a2] h (some (.int o)) h :=
  Ok.of (by decide +kernel) rfl (Nat.le_of_ble_eq_true rfl) (fun K e1 e2 e3 e4 S F => by subst e1; exact o_X10_coefficientOf S k0 a1 a2 h hyp F)
-- BoundProofsModel setRows (I)V
def s_X10_setRows_b70 (c0 : Nat) (a1 : Int32) (a2 : Int32) (h : Hp) : Option ((Int32 × Hp) ⊕ (Hp)) :=
  lt (a2 + (1 : Int32)) fun v2_8 =>
  some (.inl (v2_8, h))
def s_X10_setRows_l7 (c0 : Nat) (a1 : Int32) (a2 : Int32) (h : Hp) : Option ((Int32 × Hp) ⊕ (Hp)) :=
  if a2 < (h.1 c0 3) then (if ((a1 >>> (a2 &&& 31)) &&& (1 : Int32)) = (1 : Int32) then (ldI h (c0 + 2) 30 (((3 : Int32) * a2) + (1 : Int32)) fun x2 =>
  (s_X10_coefficientOf c0 a2 (0 : Int32) h).bind fun y3 =>
  (s_X10_coefficientOf c0 a2 (1 : Int32) h).bind fun y4 =>
  (s_X10_coefficientOf c0 a2 (2 : Int32) h).bind fun y5 =>
  ldI h (c0 + 2) 30 (((3 : Int32) * a2) + (2 : Int32)) fun x6 =>
  (s_X10_comesBySort c0 x2 (y3).toInt64 (y4).toInt64 (y5).toInt64 (x6).toInt64 h).bind fun y7 =>
  s_X10_setRows_b70 c0 a1 a2 y7)
  else (s_X10_setRows_b70 c0 a1 a2 h))
  else (some (.inr (h)))
def s_X10_setRows (c0 : Nat) (a1 : Int32) (h : Hp) : Option (Hp) :=
  lt (sI h c0 9 (0 : Int32)) fun h1 =>
  (iter (fun s : Int32 × Hp => s_X10_setRows_l7 c0 a1 s.1 s.2) FUEL ((0 : Int32), h1)).bind fun e9 =>
  some e9
set_option maxRecDepth 100000 in
set_option maxHeartbeats 4000000 in
theorem o_X10_setRows_b70 {K : gK} (S : Cx K RX10 cX10_setRows 3 2 66) {c0 : Nat} (k0 : kd c0 (10 + 10, 0)) (a1 : Int32) (a2 : Int32) (h : Hp) {o : (Int32 × Hp) ⊕ (Hp)} (hyp : s_X10_setRows_b70 c0 a1 a2 h = some o) (hin : ∀ s', o = .inl s' → Go K 7 [(0, .ref (ad K c0)), (1, .int a1), (2, .int s'.1)] [] s'.2) (hex0 : ∀ s', o = .inr (s') → Go K 76 [] [] s') : Go K 70 [(0, .ref (ad K c0)), (1, .int a1), (2, .int a2)] [] h := by
  unfold s_X10_setRows_b70 at hyp
  refine g_iinc (pc := 70) (v := (a2 + (1 : Int32))) (lv' := [(2, .int (a2 + (1 : Int32))), (0, .ref (ad K c0)), (1, .int a1)]) 2 S dX10_setRows_70 rfl (by rfl) (by decide) rfl ?_
  refine g_lti (C := fun v2_8 => Go K (70 + 3) [(2, .int v2_8), (0, .ref (ad K c0)), (1, .int a1)] [] h) hyp (fun v2_8 hyp => ?_)
  refine g_goto (pc := 73) (tgt := 7) S dX10_setRows_73 (by decide) ?_
  cases hyp
  exact g_sub [1, 2, 0] rfl (hin _ rfl)
set_option maxRecDepth 100000 in
set_option maxHeartbeats 4000000 in
theorem o_X10_setRows_l7 {K : gK} (S : Cx K RX10 cX10_setRows 3 2 66) {c0 : Nat} (k0 : kd c0 (10 + 10, 0)) (a1 : Int32) (a2 : Int32) (h : Hp) {o : (Int32 × Hp) ⊕ (Hp)} (hyp : s_X10_setRows_l7 c0 a1 a2 h = some o) (hin : ∀ s', o = .inl s' → Go K 7 [(0, .ref (ad K c0)), (1, .int a1), (2, .int s'.1)] [] s'.2) (hex0 : ∀ s', o = .inr (s') → Go K 76 [] [] s') : Go K 7 [(0, .ref (ad K c0)), (1, .int a1), (2, .int a2)] [] h := by
  unfold s_X10_setRows_l7 at hyp
  refine g_iload_n (pc := 7) 2 S dX10_setRows_7 rfl ?_
  refine g_aload_n (pc := 8) 0 S dX10_setRows_8 rfl ?_
  refine g_getI (pc := 9) S dX10_setRows_9 fl_X10_97 k0 ?_
  refine g_icmp_ge (pc := 12) (tgt := 76) S dX10_setRows_12 (by decide) hyp (fun hyp => ?_) (fun hyp => ?_)
  · refine g_iload_n (pc := 15) 1 S dX10_setRows_15 rfl ?_
    refine g_iload_n (pc := 16) 2 S dX10_setRows_16 rfl ?_
    refine g_ishr (pc := 17) S dX10_setRows_17 ?_
    refine g_iconst (pc := 18) (v := (1 : Int32)) S dX10_setRows_18 (by decide) ?_
    refine g_iand (pc := 19) S dX10_setRows_19 ?_
    refine g_iconst (pc := 20) (v := (1 : Int32)) S dX10_setRows_20 (by decide) ?_
    refine g_icmp_ne (pc := 21) (tgt := 70) S dX10_setRows_21 (by decide) hyp (fun hyp => ?_) (fun hyp => ?_)
    · refine g_aload_n (pc := 24) 0 S dX10_setRows_24 rfl ?_
      refine g_aload_n (pc := 25) 0 S dX10_setRows_25 rfl ?_
      refine g_getR (pc := 26) S dX10_setRows_26 fl_X10_17 k0 ?_
      refine g_iconst (pc := 29) (v := (3 : Int32)) S dX10_setRows_29 (by decide) ?_
      refine g_iload_n (pc := 30) 2 S dX10_setRows_30 rfl ?_
      refine g_imul (pc := 31) S dX10_setRows_31 ?_
      refine g_iconst (pc := 32) (v := (1 : Int32)) S dX10_setRows_32 (by decide) ?_
      refine g_iadd (pc := 33) S dX10_setRows_33 ?_
      refine g_iald (pc := 34) S dX10_setRows_34 (kf_10_2 k0) hyp (fun x2 hyp => ?_)
      refine g_aload_n (pc := 35) 0 S dX10_setRows_35 rfl ?_
      refine g_iload_n (pc := 36) 2 S dX10_setRows_36 rfl ?_
      refine g_iconst (pc := 37) (v := (0 : Int32)) S dX10_setRows_37 (by decide) ?_
      refine g_bind hyp (fun y3 hy3 hyp => ?_)
      refine g_callV (pc := 38) (As := [.int a2, .int (0 : Int32)]) (rest := [.int x2, .ref (ad K c0)]) S dX10_setRows_38 k0 rfl tw_1058 tw_1059 tw_42 mw_X10_coefficientOf (m_X10_coefficientOf k0 a2 (0 : Int32) h hy3) rfl rfl (Nat.le_of_ble_eq_true rfl) (Nat.le_of_ble_eq_true rfl) (Nat.le_of_ble_eq_true rfl) ?_
      refine g_i2l (pc := 41) S dX10_setRows_41 ?_
      refine g_aload_n (pc := 42) 0 S dX10_setRows_42 rfl ?_
      refine g_iload_n (pc := 43) 2 S dX10_setRows_43 rfl ?_
      refine g_iconst (pc := 44) (v := (1 : Int32)) S dX10_setRows_44 (by decide) ?_
      refine g_bind hyp (fun y4 hy4 hyp => ?_)
      refine g_callV (pc := 45) (As := [.int a2, .int (1 : Int32)]) (rest := [.long (y3).toInt64, .int x2, .ref (ad K c0)]) S dX10_setRows_45 k0 rfl tw_1058 tw_1059 tw_42 mw_X10_coefficientOf (m_X10_coefficientOf k0 a2 (1 : Int32) h hy4) rfl rfl (Nat.le_of_ble_eq_true rfl) (Nat.le_of_ble_eq_true rfl) (Nat.le_of_ble_eq_true rfl) ?_
      refine g_i2l (pc := 48) S dX10_setRows_48 ?_
      refine g_aload_n (pc := 49) 0 S dX10_setRows_49 rfl ?_
      refine g_iload_n (pc := 50) 2 S dX10_setRows_50 rfl ?_
      refine g_iconst (pc := 51) (v := (2 : Int32)) S dX10_setRows_51 (by decide) ?_
      refine g_bind hyp (fun y5 hy5 hyp => ?_)
      refine g_callV (pc := 52) (As := [.int a2, .int (2 : Int32)]) (rest := [.long (y4).toInt64, .long (y3).toInt64, .int x2, .ref (ad K c0)]) S dX10_setRows_52 k0 rfl tw_1058 tw_1059 tw_42 mw_X10_coefficientOf (m_X10_coefficientOf k0 a2 (2 : Int32) h hy5) rfl rfl (Nat.le_of_ble_eq_true rfl) (Nat.le_of_ble_eq_true rfl) (Nat.le_of_ble_eq_true rfl) ?_
      refine g_i2l (pc := 55) S dX10_setRows_55 ?_
      refine g_aload_n (pc := 56) 0 S dX10_setRows_56 rfl ?_
      refine g_getR (pc := 57) S dX10_setRows_57 fl_X10_17 k0 ?_
      refine g_iconst (pc := 60) (v := (3 : Int32)) S dX10_setRows_60 (by decide) ?_
      refine g_iload_n (pc := 61) 2 S dX10_setRows_61 rfl ?_
      refine g_imul (pc := 62) S dX10_setRows_62 ?_
      refine g_iconst (pc := 63) (v := (2 : Int32)) S dX10_setRows_63 (by decide) ?_
      refine g_iadd (pc := 64) S dX10_setRows_64 ?_
      refine g_iald (pc := 65) S dX10_setRows_65 (kf_10_2 k0) hyp (fun x6 hyp => ?_)
      refine g_i2l (pc := 66) S dX10_setRows_66 ?_
      refine g_bind hyp (fun y7 hy7 hyp => ?_)
      refine g_callV (pc := 67) (As := [.int x2, .long (y3).toInt64, .long (y4).toInt64, .long (y5).toInt64, .long (x6).toInt64]) (rest := []) S dX10_setRows_67 k0 rfl tw_1061 tw_1062 tw_43 mw_X10_comesBySort (m_X10_comesBySort k0 x2 (y3).toInt64 (y4).toInt64 (y5).toInt64 (x6).toInt64 h hy7) rfl rfl (Nat.le_of_ble_eq_true rfl) (Nat.le_of_ble_eq_true rfl) (Nat.le_of_ble_eq_true rfl) ?_
      exact g_sub [0, 1, 2] rfl (o_X10_setRows_b70 S k0 a1 a2 y7 hyp hin hex0)
    · exact g_sub [0, 1, 2] rfl (o_X10_setRows_b70 S k0 a1 a2 h hyp hin hex0)
  · cases hyp
    exact g_sub [] rfl (hex0 _ rfl)
set_option maxRecDepth 100000 in
set_option maxHeartbeats 4000000 in
theorem o_X10_setRows {K : gK} (S : Cx K RX10 cX10_setRows 3 2 66) {c0 : Nat} (k0 : kd c0 (10 + 10, 0)) (a1 : Int32) (h : Hp) {o : Hp} (hyp : s_X10_setRows c0 a1 h = some o) (F : Rt K none none o) : Go K 0 [(0, .ref (ad K c0)), (1, .int a1)] [] h := by
  unfold s_X10_setRows at hyp
  refine g_aload_n (pc := 0) 0 S dX10_setRows_0 rfl ?_
  refine g_iconst (pc := 1) (v := (0 : Int32)) S dX10_setRows_1 (by decide) ?_
  refine g_putI (pc := 2) S dX10_setRows_2 fl_X10_135 k0 hyp (fun h1 hyp => ?_)
  refine g_iconst (pc := 5) (v := (0 : Int32)) S dX10_setRows_5 (by decide) ?_
  refine g_istore_n (pc := 6) (lv' := [(2, .int (0 : Int32)), (0, .ref (ad K c0)), (1, .int a1)]) S dX10_setRows_6 rfl (by decide) rfl ?_
  refine g_bind hyp (fun e9 he9 hyp => ?_)
  refine g_sub [1, 2, 0] rfl (g_loop (Hd := fun s : Int32 × Hp => Go K 7 [(0, .ref (ad K c0)), (1, .int a1), (2, .int s.1)] [] s.2) (Ex := fun e9 => Go K 76 [] [] e9) (fun s o h1 h2 h3 => o_X10_setRows_l7 S k0 a1 s.1 s.2 h1 h2 h3) FUEL _ e9 he9 ?_)
  cases hyp
  exact g_vret (pc := 76) S F dX10_setRows_76
theorem m_X10_setRows {l : Launch} {D : va_G} {cT : Nat → ClassId} {aD : Nat → Nat} {c0 : Nat} (k0 : kd c0 (10 + 10, 0)) (a1 : Int32) (h : Hp) {o : Hp} (hyp : s_X10_setRows c0 a1 h = some o) : Ok l D cT aD yX10_setRows cX10_setRows 3 none 2 66 [.ref (aD c0), .int a1] h none o :=
  Ok.of (by decide +kernel) rfl (Nat.le_of_ble_eq_true rfl) (fun K e1 e2 e3 e4 S F => by subst e1; exact o_X10_setRows S k0 a1 h hyp F)
-- BoundProofsModel allBounds ()I
def s_X10_allBounds (c0 : Nat)  (h : Hp) : Option (Int32) :=
  some (((1 : Int32) <<< ((h.1 c0 3) &&& 31)) - (1 : Int32))
set_option maxRecDepth 100000 in
set_option maxHeartbeats 4000000 in
theorem o_X10_allBounds {K : gK} (S : Cx K RX10 cX10_allBounds 1 0 0) {c0 : Nat} (k0 : kd c0 (10 + 10, 0))  (h : Hp) {o : Int32} (hyp : s_X10_allBounds c0  h = some o) (F : Rt K (some .int) (some (.int o)) h) : Go K 0 [(0, .ref (ad K c0))] [] h := by
  unfold s_X10_allBounds at hyp
  refine g_iconst (pc := 0) (v := (1 : Int32)) S dX10_allBounds_0 (by decide) ?_
  refine g_aload_n (pc := 1) 0 S dX10_allBounds_1 rfl ?_
  refine g_getI (pc := 2) S dX10_allBounds_2 fl_X10_97 k0 ?_
  refine g_ishl (pc := 5) S dX10_allBounds_5 ?_
  refine g_iconst (pc := 6) (v := (1 : Int32)) S dX10_allBounds_6 (by decide) ?_
  refine g_isub (pc := 7) S dX10_allBounds_7 ?_
  cases hyp
  exact g_iret (pc := 8) S F dX10_allBounds_8
theorem m_X10_allBounds {l : Launch} {D : va_G} {cT : Nat → ClassId} {aD : Nat → Nat} {c0 : Nat} (k0 : kd c0 (10 + 10, 0))  (h : Hp) {o : Int32} (hyp : s_X10_allBounds c0  h = some o) : Ok l D cT aD yX10_allBounds cX10_allBounds 1 (some .int) 0 0 [.ref (aD c0)] h (some (.int o)) h :=
  Ok.of (by decide +kernel) rfl (Nat.le_of_ble_eq_true rfl) (fun K e1 e2 e3 e4 S F => by subst e1; exact o_X10_allBounds S k0  h hyp F)
-- BoundProofsModel canBe (I)Z
def s_X10_canBe (c0 : Nat) (a1 : Int32) (h : Hp) : Option (Int32 × Hp) :=
  (s_X10_setRows c0 a1 h).bind fun y1 =>
  (s_X10_sees c0  y1).bind fun y2 =>
  if (y2.1 c0 28) = 0 then (some ((1 : Int32), y2))
  else (some ((0 : Int32), y2))
set_option maxRecDepth 100000 in
set_option maxHeartbeats 4000000 in
theorem o_X10_canBe {K : gK} (S : Cx K RX10 cX10_canBe 2 3 92) {c0 : Nat} (k0 : kd c0 (10 + 10, 0)) (a1 : Int32) (h : Hp) {o : Int32 × Hp} (hyp : s_X10_canBe c0 a1 h = some o) (F : Rt K (some .boolean) (some (.int o.1)) o.2) : Go K 0 [(0, .ref (ad K c0)), (1, .int a1)] [] h := by
  unfold s_X10_canBe at hyp
  refine g_aload_n (pc := 0) 0 S dX10_canBe_0 rfl ?_
  refine g_iload_n (pc := 1) 1 S dX10_canBe_1 rfl ?_
  refine g_bind hyp (fun y1 hy1 hyp => ?_)
  refine g_callV (pc := 2) (As := [.int a1]) (rest := []) S dX10_canBe_2 k0 rfl tw_1055 tw_1056 tw_41 mw_X10_setRows (m_X10_setRows k0 a1 h hy1) rfl rfl (Nat.le_of_ble_eq_true rfl) (Nat.le_of_ble_eq_true rfl) (Nat.le_of_ble_eq_true rfl) ?_
  refine g_aload_n (pc := 5) 0 S dX10_canBe_5 rfl ?_
  refine g_bind hyp (fun y2 hy2 hyp => ?_)
  refine g_callV (pc := 6) (As := []) (rest := []) S dX10_canBe_6 k0 rfl tw_1067 tw_1068 tw_45 mw_X10_sees (m_X10_sees k0  y1 hy2) rfl rfl (Nat.le_of_ble_eq_true rfl) (Nat.le_of_ble_eq_true rfl) (Nat.le_of_ble_eq_true rfl) ?_
  refine g_aload_n (pc := 9) 0 S dX10_canBe_9 rfl ?_
  refine g_getI (pc := 10) S dX10_canBe_10 fl_X10_149 k0 ?_
  refine g_if_ne (pc := 13) (tgt := 20) S dX10_canBe_13 (by decide) hyp (fun hyp => ?_) (fun hyp => ?_)
  · refine g_iconst (pc := 16) (v := (1 : Int32)) S dX10_canBe_16 (by decide) ?_
    refine g_goto (pc := 17) (tgt := 21) S dX10_canBe_17 (by decide) ?_
    cases hyp
    exact g_zret (pc := 21) S F dX10_canBe_21 (Or.inr rfl)
  · refine g_iconst (pc := 20) (v := (0 : Int32)) S dX10_canBe_20 (by decide) ?_
    cases hyp
    exact g_zret (pc := 21) S F dX10_canBe_21 (Or.inl rfl)
theorem m_X10_canBe {l : Launch} {D : va_G} {cT : Nat → ClassId} {aD : Nat → Nat} {c0 : Nat} (k0 : kd c0 (10 + 10, 0)) (a1 : Int32) (h : Hp) {o : Int32 × Hp} (hyp : s_X10_canBe c0 a1 h = some o) : Ok l D cT aD yX10_canBe cX10_canBe 2 (some .boolean) 3 92 [.ref (aD c0), .int a1] h (some (.int o.1)) o.2 :=
  Ok.of (by decide +kernel) rfl (Nat.le_of_ble_eq_true rfl) (fun K e1 e2 e3 e4 S F => by subst e1; exact o_X10_canBe S k0 a1 h hyp F)
-- BoundProofsModel met ()I
def s_X10_met (c0 : Nat)  (h : Hp) : Option (Int32 × Hp) :=
  (s_X10_allBounds c0  h).bind fun y1 =>
  (s_X10_canBe c0 y1 h).bind fun y2 =>
  if y2.1 = 0 then (some ((0 : Int32), y2.2))
  else (some ((1 : Int32), y2.2))
set_option maxRecDepth 100000 in
set_option maxHeartbeats 4000000 in
theorem o_X10_met {K : gK} (S : Cx K RX10 cX10_met 1 4 117) {c0 : Nat} (k0 : kd c0 (10 + 10, 0))  (h : Hp) {o : Int32 × Hp} (hyp : s_X10_met c0  h = some o) (F : Rt K (some .int) (some (.int o.1)) o.2) : Go K 0 [(0, .ref (ad K c0))] [] h := by
  unfold s_X10_met at hyp
  refine g_aload_n (pc := 0) 0 S dX10_met_0 rfl ?_
  refine g_aload_n (pc := 1) 0 S dX10_met_1 rfl ?_
  refine g_bind hyp (fun y1 hy1 hyp => ?_)
  refine g_callV (pc := 2) (As := []) (rest := [.ref (ad K c0)]) S dX10_met_2 k0 rfl tw_1049 tw_1050 tw_39 mw_X10_allBounds (m_X10_allBounds k0  h hy1) rfl rfl (Nat.le_of_ble_eq_true rfl) (Nat.le_of_ble_eq_true rfl) (Nat.le_of_ble_eq_true rfl) ?_
  refine g_bind hyp (fun y2 hy2 hyp => ?_)
  refine g_callV (pc := 5) (As := [.int y1]) (rest := []) S dX10_met_5 k0 rfl tw_1052 tw_1053 tw_40 mw_X10_canBe (m_X10_canBe k0 y1 h hy2) rfl rfl (Nat.le_of_ble_eq_true rfl) (Nat.le_of_ble_eq_true rfl) (Nat.le_of_ble_eq_true rfl) ?_
  refine g_if_eq (pc := 8) (tgt := 15) S dX10_met_8 (by decide) hyp (fun hyp => ?_) (fun hyp => ?_)
  · refine g_iconst (pc := 15) (v := (0 : Int32)) S dX10_met_15 (by decide) ?_
    cases hyp
    exact g_iret (pc := 16) S F dX10_met_16
  · refine g_iconst (pc := 11) (v := (1 : Int32)) S dX10_met_11 (by decide) ?_
    refine g_goto (pc := 12) (tgt := 16) S dX10_met_12 (by decide) ?_
    cases hyp
    exact g_iret (pc := 16) S F dX10_met_16
theorem m_X10_met {l : Launch} {D : va_G} {cT : Nat → ClassId} {aD : Nat → Nat} {c0 : Nat} (k0 : kd c0 (10 + 10, 0))  (h : Hp) {o : Int32 × Hp} (hyp : s_X10_met c0  h = some o) : Ok l D cT aD yX10_met cX10_met 1 (some .int) 4 117 [.ref (aD c0)] h (some (.int o.1)) o.2 :=
  Ok.of (by decide +kernel) rfl (Nat.le_of_ble_eq_true rfl) (fun K e1 e2 e3 e4 S F => by subst e1; exact o_X10_met S k0  h hyp F)
-- BoundProofsModel seesForm (II)V
def s_X10_seesForm_b223 (c0 : Nat) (a1 : Int32) (a2 : Int32) (a3 : Int32) (a4 : Int32) (a5 : Int32) (a7 : Int32) (a8 : Int32) (a9 : Int32) (h : Hp) : Option ((Int32 × Hp) ⊕ (Hp)) :=
  lt (a9 + (1 : Int32)) fun v9_17 =>
  some (.inl (v9_17, h))
def s_X10_seesForm_l96 (c0 : Nat) (a1 : Int32) (a2 : Int32) (a3 : Int32) (a4 : Int32) (a5 : Int32) (a7 : Int32) (a8 : Int32) (a9 : Int32) (h : Hp) : Option ((Int32 × Hp) ⊕ (Hp)) :=
  if a9 < (h.1 c0 3) then (if ((a1 >>> (a9 &&& 31)) &&& (1 : Int32)) = (1 : Int32) then ((s_X10_coefficientOf c0 a9 a3 h).bind fun y6 =>
  lt (a7 * y6) fun v10_7 =>
  (s_X10_coefficientOf c0 a9 a4 h).bind fun y8 =>
  ldI h (c0 + 1) 24 (((3 : Int32) * a2) + a4) fun x9 =>
  lt ((a8 * y8) - (v10_7 * x9)) fun v11_10 =>
  (s_X10_coefficientOf c0 a9 a5 h).bind fun y11 =>
  ldI h (c0 + 1) 24 (((3 : Int32) * a2) + a5) fun x12 =>
  lt ((a8 * y11) - (v10_7 * x12)) fun v12_13 =>
  ldI h (c0 + 2) 30 (((3 : Int32) * a9) + (1 : Int32)) fun x14 =>
  ldI h (c0 + 2) 30 (((3 : Int32) * a9) + (2 : Int32)) fun x15 =>
  (s_X10_comesBySort c0 x14 (v10_7).toInt64 (v11_10).toInt64 (v12_13).toInt64 ((a8).toInt64 * (x15).toInt64) h).bind fun y16 =>
  s_X10_seesForm_b223 c0 a1 a2 a3 a4 a5 a7 a8 a9 y16)
  else (s_X10_seesForm_b223 c0 a1 a2 a3 a4 a5 a7 a8 a9 h))
  else (some (.inr (h)))
def s_X10_seesForm_b79 (c0 : Nat) (a1 : Int32) (a2 : Int32) (a3 : Int32) (a4 : Int32) (a5 : Int32) (a6 : Int32) (t0 : Int32) (h : Hp) : Option (Hp) :=
  lt (t0 * a6) fun v8_4 =>
  lt (sI h c0 9 (0 : Int32)) fun h5 =>
  (iter (fun s : Int32 × Hp => s_X10_seesForm_l96 c0 a1 a2 a3 a4 a5 t0 v8_4 s.1 s.2) FUEL ((0 : Int32), h5)).bind fun e18 =>
  (s_X10_sees c0  e18).bind fun y19 =>
  some y19
def s_X10_seesForm_b55 (c0 : Nat) (a1 : Int32) (a2 : Int32) (a3 : Int32) (a4 : Int32) (t0 : Int32) (h : Hp) : Option (Hp) :=
  ldI h (c0 + 1) 24 (((3 : Int32) * a2) + a3) fun x3 =>
  if x3 < 0 then (s_X10_seesForm_b79 c0 a1 a2 a3 a4 t0 x3 (-1 : Int32) h)
  else (s_X10_seesForm_b79 c0 a1 a2 a3 a4 t0 x3 (1 : Int32) h)
def s_X10_seesForm_b43 (c0 : Nat) (a1 : Int32) (a2 : Int32) (a3 : Int32) (t0 : Int32) (h : Hp) : Option (Hp) :=
  if a3 = (2 : Int32) then (s_X10_seesForm_b55 c0 a1 a2 a3 t0 (1 : Int32) h)
  else (s_X10_seesForm_b55 c0 a1 a2 a3 t0 (2 : Int32) h)
def s_X10_seesForm_b33 (c0 : Nat) (a1 : Int32) (a2 : Int32) (t0 : Int32) (h : Hp) : Option (Hp) :=
  if t0 = 0 then (s_X10_seesForm_b43 c0 a1 a2 t0 (1 : Int32) h)
  else (s_X10_seesForm_b43 c0 a1 a2 t0 (0 : Int32) h)
def s_X10_seesForm (c0 : Nat) (a1 : Int32) (a2 : Int32) (h : Hp) : Option (Hp) :=
  ldI h (c0 + 1) 24 ((3 : Int32) * a2) fun x1 =>
  if x1 = 0 then (ldI h (c0 + 1) 24 (((3 : Int32) * a2) + (1 : Int32)) fun x2 =>
  if x2 = 0 then (s_X10_seesForm_b33 c0 a1 a2 (2 : Int32) h)
  else (s_X10_seesForm_b33 c0 a1 a2 (1 : Int32) h))
  else (s_X10_seesForm_b33 c0 a1 a2 (0 : Int32) h)
set_option maxRecDepth 100000 in
set_option maxHeartbeats 4000000 in
theorem o_X10_seesForm_b223 {K : gK} (S : Cx K RX10 cX10_seesForm 13 3 91) {c0 : Nat} (k0 : kd c0 (10 + 10, 0)) (a1 : Int32) (a2 : Int32) (a3 : Int32) (a4 : Int32) (a5 : Int32) (a7 : Int32) (a8 : Int32) (a9 : Int32) (h : Hp) {o : (Int32 × Hp) ⊕ (Hp)} (hyp : s_X10_seesForm_b223 c0 a1 a2 a3 a4 a5 a7 a8 a9 h = some o) (hin : ∀ s', o = .inl s' → Go K 96 [(0, .ref (ad K c0)), (1, .int a1), (2, .int a2), (3, .int a3), (4, .int a4), (5, .int a5), (7, .int a7), (8, .int a8), (9, .int s'.1)] [] s'.2) (hex0 : ∀ s', o = .inr (s') → Go K 229 [(0, .ref (ad K c0))] [] s') : Go K 223 [(0, .ref (ad K c0)), (1, .int a1), (2, .int a2), (3, .int a3), (4, .int a4), (5, .int a5), (7, .int a7), (8, .int a8), (9, .int a9)] [] h := by
  unfold s_X10_seesForm_b223 at hyp
  refine g_iinc (pc := 223) (v := (a9 + (1 : Int32))) (lv' := [(9, .int (a9 + (1 : Int32))), (0, .ref (ad K c0)), (1, .int a1), (2, .int a2), (3, .int a3), (4, .int a4), (5, .int a5), (7, .int a7), (8, .int a8)]) 8 S dX10_seesForm_223 rfl (by rfl) (by decide) rfl ?_
  refine g_lti (C := fun v9_17 => Go K (223 + 3) [(9, .int v9_17), (0, .ref (ad K c0)), (1, .int a1), (2, .int a2), (3, .int a3), (4, .int a4), (5, .int a5), (7, .int a7), (8, .int a8)] [] h) hyp (fun v9_17 hyp => ?_)
  refine g_goto (pc := 226) (tgt := 96) S dX10_seesForm_226 (by decide) ?_
  cases hyp
  exact g_sub [1, 2, 3, 4, 5, 6, 7, 8, 0] rfl (hin _ rfl)
set_option maxRecDepth 100000 in
set_option maxHeartbeats 4000000 in
theorem o_X10_seesForm_l96 {K : gK} (S : Cx K RX10 cX10_seesForm 13 3 91) {c0 : Nat} (k0 : kd c0 (10 + 10, 0)) (a1 : Int32) (a2 : Int32) (a3 : Int32) (a4 : Int32) (a5 : Int32) (a7 : Int32) (a8 : Int32) (a9 : Int32) (h : Hp) {o : (Int32 × Hp) ⊕ (Hp)} (hyp : s_X10_seesForm_l96 c0 a1 a2 a3 a4 a5 a7 a8 a9 h = some o) (hin : ∀ s', o = .inl s' → Go K 96 [(0, .ref (ad K c0)), (1, .int a1), (2, .int a2), (3, .int a3), (4, .int a4), (5, .int a5), (7, .int a7), (8, .int a8), (9, .int s'.1)] [] s'.2) (hex0 : ∀ s', o = .inr (s') → Go K 229 [(0, .ref (ad K c0))] [] s') : Go K 96 [(0, .ref (ad K c0)), (1, .int a1), (2, .int a2), (3, .int a3), (4, .int a4), (5, .int a5), (7, .int a7), (8, .int a8), (9, .int a9)] [] h := by
  unfold s_X10_seesForm_l96 at hyp
  refine g_iload (pc := 96) 8 S dX10_seesForm_96 rfl ?_
  refine g_aload_n (pc := 98) 0 S dX10_seesForm_98 rfl ?_
  refine g_getI (pc := 99) S dX10_seesForm_99 fl_X10_97 k0 ?_
  refine g_icmp_ge (pc := 102) (tgt := 229) S dX10_seesForm_102 (by decide) hyp (fun hyp => ?_) (fun hyp => ?_)
  · refine g_iload_n (pc := 105) 1 S dX10_seesForm_105 rfl ?_
    refine g_iload (pc := 106) 8 S dX10_seesForm_106 rfl ?_
    refine g_ishr (pc := 108) S dX10_seesForm_108 ?_
    refine g_iconst (pc := 109) (v := (1 : Int32)) S dX10_seesForm_109 (by decide) ?_
    refine g_iand (pc := 110) S dX10_seesForm_110 ?_
    refine g_iconst (pc := 111) (v := (1 : Int32)) S dX10_seesForm_111 (by decide) ?_
    refine g_icmp_ne (pc := 112) (tgt := 223) S dX10_seesForm_112 (by decide) hyp (fun hyp => ?_) (fun hyp => ?_)
    · refine g_iload (pc := 115) 6 S dX10_seesForm_115 rfl ?_
      refine g_aload_n (pc := 117) 0 S dX10_seesForm_117 rfl ?_
      refine g_iload (pc := 118) 8 S dX10_seesForm_118 rfl ?_
      refine g_iload_n (pc := 120) 3 S dX10_seesForm_120 rfl ?_
      refine g_bind hyp (fun y6 hy6 hyp => ?_)
      refine g_callV (pc := 121) (As := [.int a9, .int a3]) (rest := [.int a7]) S dX10_seesForm_121 k0 rfl tw_1058 tw_1059 tw_42 mw_X10_coefficientOf (m_X10_coefficientOf k0 a9 a3 h hy6) rfl rfl (Nat.le_of_ble_eq_true rfl) (Nat.le_of_ble_eq_true rfl) (Nat.le_of_ble_eq_true rfl) ?_
      refine g_imul (pc := 124) S dX10_seesForm_124 ?_
      refine g_lti (C := fun v10_7 => Go K 125 [(0, .ref (ad K c0)), (1, .int a1), (2, .int a2), (3, .int a3), (4, .int a4), (5, .int a5), (7, .int a7), (8, .int a8), (9, .int a9)] [.int v10_7] h) hyp (fun v10_7 hyp => ?_)
      refine g_istore (pc := 125) (lv' := [(10, .int v10_7), (0, .ref (ad K c0)), (1, .int a1), (2, .int a2), (3, .int a3), (4, .int a4), (5, .int a5), (7, .int a7), (8, .int a8), (9, .int a9)]) S dX10_seesForm_125 (by decide) rfl ?_
      refine g_iload (pc := 127) 8 S dX10_seesForm_127 rfl ?_
      refine g_aload_n (pc := 129) 1 S dX10_seesForm_129 rfl ?_
      refine g_iload (pc := 130) 9 S dX10_seesForm_130 rfl ?_
      refine g_iload (pc := 132) 5 S dX10_seesForm_132 rfl ?_
      refine g_bind hyp (fun y8 hy8 hyp => ?_)
      refine g_callV (pc := 134) (As := [.int a9, .int a4]) (rest := [.int a8]) S dX10_seesForm_134 k0 rfl tw_1058 tw_1059 tw_42 mw_X10_coefficientOf (m_X10_coefficientOf k0 a9 a4 h hy8) rfl rfl (Nat.le_of_ble_eq_true rfl) (Nat.le_of_ble_eq_true rfl) (Nat.le_of_ble_eq_true rfl) ?_
      refine g_imul (pc := 137) S dX10_seesForm_137 ?_
      refine g_iload (pc := 138) 0 S dX10_seesForm_138 rfl ?_
      refine g_aload_n (pc := 140) 1 S dX10_seesForm_140 rfl ?_
      refine g_getR (pc := 141) S dX10_seesForm_141 fl_X10_13 k0 ?_
      refine g_iconst (pc := 144) (v := (3 : Int32)) S dX10_seesForm_144 (by decide) ?_
      refine g_iload_n (pc := 145) 3 S dX10_seesForm_145 rfl ?_
      refine g_imul (pc := 146) S dX10_seesForm_146 ?_
      refine g_iload (pc := 147) 5 S dX10_seesForm_147 rfl ?_
      refine g_iadd (pc := 149) S dX10_seesForm_149 ?_
      refine g_iald (pc := 150) S dX10_seesForm_150 (kf_10_1 k0) hyp (fun x9 hyp => ?_)
      refine g_imul (pc := 151) S dX10_seesForm_151 ?_
      refine g_isub (pc := 152) S dX10_seesForm_152 ?_
      refine g_lti (C := fun v11_10 => Go K 153 [(10, .int v10_7), (0, .ref (ad K c0)), (1, .int a1), (2, .int a2), (3, .int a3), (4, .int a4), (5, .int a5), (7, .int a7), (8, .int a8), (9, .int a9)] [.int v11_10] h) hyp (fun v11_10 hyp => ?_)
      refine g_istore (pc := 153) (lv' := [(11, .int v11_10), (10, .int v10_7), (0, .ref (ad K c0)), (1, .int a1), (2, .int a2), (3, .int a3), (4, .int a4), (5, .int a5), (7, .int a7), (8, .int a8), (9, .int a9)]) S dX10_seesForm_153 (by decide) rfl ?_
      refine g_iload (pc := 155) 9 S dX10_seesForm_155 rfl ?_
      refine g_aload_n (pc := 157) 2 S dX10_seesForm_157 rfl ?_
      refine g_iload (pc := 158) 10 S dX10_seesForm_158 rfl ?_
      refine g_iload (pc := 160) 7 S dX10_seesForm_160 rfl ?_
      refine g_bind hyp (fun y11 hy11 hyp => ?_)
      refine g_callV (pc := 162) (As := [.int a9, .int a5]) (rest := [.int a8]) S dX10_seesForm_162 k0 rfl tw_1058 tw_1059 tw_42 mw_X10_coefficientOf (m_X10_coefficientOf k0 a9 a5 h hy11) rfl rfl (Nat.le_of_ble_eq_true rfl) (Nat.le_of_ble_eq_true rfl) (Nat.le_of_ble_eq_true rfl) ?_
      refine g_imul (pc := 165) S dX10_seesForm_165 ?_
      refine g_iload (pc := 166) 1 S dX10_seesForm_166 rfl ?_
      refine g_aload_n (pc := 168) 2 S dX10_seesForm_168 rfl ?_
      refine g_getR (pc := 169) S dX10_seesForm_169 fl_X10_13 k0 ?_
      refine g_iconst (pc := 172) (v := (3 : Int32)) S dX10_seesForm_172 (by decide) ?_
      refine g_iload_n (pc := 173) 4 S dX10_seesForm_173 rfl ?_
      refine g_imul (pc := 174) S dX10_seesForm_174 ?_
      refine g_iload (pc := 175) 7 S dX10_seesForm_175 rfl ?_
      refine g_iadd (pc := 177) S dX10_seesForm_177 ?_
      refine g_iald (pc := 178) S dX10_seesForm_178 (kf_10_1 k0) hyp (fun x12 hyp => ?_)
      refine g_imul (pc := 179) S dX10_seesForm_179 ?_
      refine g_isub (pc := 180) S dX10_seesForm_180 ?_
      refine g_lti (C := fun v12_13 => Go K 181 [(11, .int v11_10), (10, .int v10_7), (0, .ref (ad K c0)), (1, .int a1), (2, .int a2), (3, .int a3), (4, .int a4), (5, .int a5), (7, .int a7), (8, .int a8), (9, .int a9)] [.int v12_13] h) hyp (fun v12_13 hyp => ?_)
      refine g_istore (pc := 181) (lv' := [(12, .int v12_13), (11, .int v11_10), (10, .int v10_7), (0, .ref (ad K c0)), (1, .int a1), (2, .int a2), (3, .int a3), (4, .int a4), (5, .int a5), (7, .int a7), (8, .int a8), (9, .int a9)]) S dX10_seesForm_181 (by decide) rfl ?_
      refine g_aload_n (pc := 183) 3 S dX10_seesForm_183 rfl ?_
      refine g_aload_n (pc := 184) 3 S dX10_seesForm_184 rfl ?_
      refine g_getR (pc := 185) S dX10_seesForm_185 fl_X10_17 k0 ?_
      refine g_iconst (pc := 188) (v := (3 : Int32)) S dX10_seesForm_188 (by decide) ?_
      refine g_iload (pc := 189) 11 S dX10_seesForm_189 rfl ?_
      refine g_imul (pc := 191) S dX10_seesForm_191 ?_
      refine g_iconst (pc := 192) (v := (1 : Int32)) S dX10_seesForm_192 (by decide) ?_
      refine g_iadd (pc := 193) S dX10_seesForm_193 ?_
      refine g_iald (pc := 194) S dX10_seesForm_194 (kf_10_2 k0) hyp (fun x14 hyp => ?_)
      refine g_iload (pc := 195) 2 S dX10_seesForm_195 rfl ?_
      refine g_i2l (pc := 197) S dX10_seesForm_197 ?_
      refine g_iload (pc := 198) 1 S dX10_seesForm_198 rfl ?_
      refine g_i2l (pc := 200) S dX10_seesForm_200 ?_
      refine g_iload (pc := 201) 0 S dX10_seesForm_201 rfl ?_
      refine g_i2l (pc := 203) S dX10_seesForm_203 ?_
      refine g_iload (pc := 204) 10 S dX10_seesForm_204 rfl ?_
      refine g_i2l (pc := 206) S dX10_seesForm_206 ?_
      refine g_aload_n (pc := 207) 3 S dX10_seesForm_207 rfl ?_
      refine g_getR (pc := 208) S dX10_seesForm_208 fl_X10_17 k0 ?_
      refine g_iconst (pc := 211) (v := (3 : Int32)) S dX10_seesForm_211 (by decide) ?_
      refine g_iload (pc := 212) 11 S dX10_seesForm_212 rfl ?_
      refine g_imul (pc := 214) S dX10_seesForm_214 ?_
      refine g_iconst (pc := 215) (v := (2 : Int32)) S dX10_seesForm_215 (by decide) ?_
      refine g_iadd (pc := 216) S dX10_seesForm_216 ?_
      refine g_iald (pc := 217) S dX10_seesForm_217 (kf_10_2 k0) hyp (fun x15 hyp => ?_)
      refine g_i2l (pc := 218) S dX10_seesForm_218 ?_
      refine g_lmul (pc := 219) S dX10_seesForm_219 ?_
      refine g_bind hyp (fun y16 hy16 hyp => ?_)
      refine g_callV (pc := 220) (As := [.int x14, .long (v10_7).toInt64, .long (v11_10).toInt64, .long (v12_13).toInt64, .long ((a8).toInt64 * (x15).toInt64)]) (rest := []) S dX10_seesForm_220 k0 rfl tw_1061 tw_1062 tw_43 mw_X10_comesBySort (m_X10_comesBySort k0 x14 (v10_7).toInt64 (v11_10).toInt64 (v12_13).toInt64 ((a8).toInt64 * (x15).toInt64) h hy16) rfl rfl (Nat.le_of_ble_eq_true rfl) (Nat.le_of_ble_eq_true rfl) (Nat.le_of_ble_eq_true rfl) ?_
      exact g_sub [3, 4, 5, 6, 7, 8, 9, 10, 11] rfl (o_X10_seesForm_b223 S k0 a1 a2 a3 a4 a5 a7 a8 a9 y16 hyp hin hex0)
    · exact g_sub [0, 1, 2, 3, 4, 5, 6, 7, 8] rfl (o_X10_seesForm_b223 S k0 a1 a2 a3 a4 a5 a7 a8 a9 h hyp hin hex0)
  · cases hyp
    exact g_sub [0] rfl (hex0 _ rfl)
set_option maxRecDepth 100000 in
set_option maxHeartbeats 4000000 in
theorem o_X10_seesForm_b79 {K : gK} (S : Cx K RX10 cX10_seesForm 13 3 91) {c0 : Nat} (k0 : kd c0 (10 + 10, 0)) (a1 : Int32) (a2 : Int32) (a3 : Int32) (a4 : Int32) (a5 : Int32) (a6 : Int32) (t0 : Int32) (h : Hp) {o : Hp} (hyp : s_X10_seesForm_b79 c0 a1 a2 a3 a4 a5 a6 t0 h = some o) (F : Rt K none none o) : Go K 79 [(0, .ref (ad K c0)), (1, .int a1), (2, .int a2), (3, .int a3), (4, .int a4), (5, .int a5), (6, .int a6)] [.int t0] h := by
  unfold s_X10_seesForm_b79 at hyp
  refine g_istore (pc := 79) (lv' := [(7, .int t0), (0, .ref (ad K c0)), (1, .int a1), (2, .int a2), (3, .int a3), (4, .int a4), (5, .int a5), (6, .int a6)]) S dX10_seesForm_79 (by decide) rfl ?_
  refine g_iload (pc := 81) 0 S dX10_seesForm_81 rfl ?_
  refine g_iload (pc := 83) 7 S dX10_seesForm_83 rfl ?_
  refine g_imul (pc := 85) S dX10_seesForm_85 ?_
  refine g_lti (C := fun v8_4 => Go K 86 [(7, .int t0), (0, .ref (ad K c0)), (1, .int a1), (2, .int a2), (3, .int a3), (4, .int a4), (5, .int a5), (6, .int a6)] [.int v8_4] h) hyp (fun v8_4 hyp => ?_)
  refine g_istore (pc := 86) (lv' := [(8, .int v8_4), (7, .int t0), (0, .ref (ad K c0)), (1, .int a1), (2, .int a2), (3, .int a3), (4, .int a4), (5, .int a5), (6, .int a6)]) S dX10_seesForm_86 (by decide) rfl ?_
  refine g_aload_n (pc := 88) 2 S dX10_seesForm_88 rfl ?_
  refine g_iconst (pc := 89) (v := (0 : Int32)) S dX10_seesForm_89 (by decide) ?_
  refine g_putI (pc := 90) S dX10_seesForm_90 fl_X10_135 k0 hyp (fun h5 hyp => ?_)
  refine g_iconst (pc := 93) (v := (0 : Int32)) S dX10_seesForm_93 (by decide) ?_
  refine g_istore (pc := 94) (lv' := [(9, .int (0 : Int32)), (8, .int v8_4), (7, .int t0), (0, .ref (ad K c0)), (1, .int a1), (2, .int a2), (3, .int a3), (4, .int a4), (5, .int a5), (6, .int a6)]) S dX10_seesForm_94 (by decide) rfl ?_
  refine g_bind hyp (fun e18 he18 hyp => ?_)
  refine g_sub [3, 4, 5, 6, 7, 8, 2, 1, 0] rfl (g_loop (Hd := fun s : Int32 × Hp => Go K 96 [(0, .ref (ad K c0)), (1, .int a1), (2, .int a2), (3, .int a3), (4, .int a4), (5, .int a5), (7, .int t0), (8, .int v8_4), (9, .int s.1)] [] s.2) (Ex := fun e18 => Go K 229 [(0, .ref (ad K c0))] [] e18) (fun s o h1 h2 h3 => o_X10_seesForm_l96 S k0 a1 a2 a3 a4 a5 t0 v8_4 s.1 s.2 h1 h2 h3) FUEL _ e18 he18 ?_)
  refine g_aload_n (pc := 229) 0 S dX10_seesForm_229 rfl ?_
  refine g_bind hyp (fun y19 hy19 hyp => ?_)
  refine g_callV (pc := 230) (As := []) (rest := []) S dX10_seesForm_230 k0 rfl tw_1067 tw_1068 tw_45 mw_X10_sees (m_X10_sees k0  e18 hy19) rfl rfl (Nat.le_of_ble_eq_true rfl) (Nat.le_of_ble_eq_true rfl) (Nat.le_of_ble_eq_true rfl) ?_
  cases hyp
  exact g_vret (pc := 233) S F dX10_seesForm_233
set_option maxRecDepth 100000 in
set_option maxHeartbeats 4000000 in
theorem o_X10_seesForm_b55 {K : gK} (S : Cx K RX10 cX10_seesForm 13 3 91) {c0 : Nat} (k0 : kd c0 (10 + 10, 0)) (a1 : Int32) (a2 : Int32) (a3 : Int32) (a4 : Int32) (t0 : Int32) (h : Hp) {o : Hp} (hyp : s_X10_seesForm_b55 c0 a1 a2 a3 a4 t0 h = some o) (F : Rt K none none o) : Go K 55 [(0, .ref (ad K c0)), (1, .int a1), (2, .int a2), (3, .int a3), (4, .int a4)] [.int t0] h := by
  unfold s_X10_seesForm_b55 at hyp
  refine g_istore (pc := 55) (lv' := [(5, .int t0), (0, .ref (ad K c0)), (1, .int a1), (2, .int a2), (3, .int a3), (4, .int a4)]) S dX10_seesForm_55 (by decide) rfl ?_
  refine g_aload_n (pc := 57) 1 S dX10_seesForm_57 rfl ?_
  refine g_getR (pc := 58) S dX10_seesForm_58 fl_X10_13 k0 ?_
  refine g_iconst (pc := 61) (v := (3 : Int32)) S dX10_seesForm_61 (by decide) ?_
  refine g_iload_n (pc := 62) 3 S dX10_seesForm_62 rfl ?_
  refine g_imul (pc := 63) S dX10_seesForm_63 ?_
  refine g_iload_n (pc := 64) 4 S dX10_seesForm_64 rfl ?_
  refine g_iadd (pc := 65) S dX10_seesForm_65 ?_
  refine g_iald (pc := 66) S dX10_seesForm_66 (kf_10_1 k0) hyp (fun x3 hyp => ?_)
  refine g_istore (pc := 67) (lv' := [(6, .int x3), (5, .int t0), (0, .ref (ad K c0)), (1, .int a1), (2, .int a2), (3, .int a3), (4, .int a4)]) S dX10_seesForm_67 (by decide) rfl ?_
  refine g_iload (pc := 69) 0 S dX10_seesForm_69 rfl ?_
  refine g_if_ge (pc := 71) (tgt := 78) S dX10_seesForm_71 (by decide) hyp (fun hyp => ?_) (fun hyp => ?_)
  · refine g_iconst (pc := 74) (v := (-1 : Int32)) S dX10_seesForm_74 (by decide) ?_
    refine g_goto (pc := 75) (tgt := 79) S dX10_seesForm_75 (by decide) ?_
    exact g_sub [2, 3, 4, 5, 6, 1, 0] rfl (o_X10_seesForm_b79 S k0 a1 a2 a3 a4 t0 x3 (-1 : Int32) h hyp F)
  · refine g_iconst (pc := 78) (v := (1 : Int32)) S dX10_seesForm_78 (by decide) ?_
    exact g_sub [2, 3, 4, 5, 6, 1, 0] rfl (o_X10_seesForm_b79 S k0 a1 a2 a3 a4 t0 x3 (1 : Int32) h hyp F)
set_option maxRecDepth 100000 in
set_option maxHeartbeats 4000000 in
theorem o_X10_seesForm_b43 {K : gK} (S : Cx K RX10 cX10_seesForm 13 3 91) {c0 : Nat} (k0 : kd c0 (10 + 10, 0)) (a1 : Int32) (a2 : Int32) (a3 : Int32) (t0 : Int32) (h : Hp) {o : Hp} (hyp : s_X10_seesForm_b43 c0 a1 a2 a3 t0 h = some o) (F : Rt K none none o) : Go K 43 [(0, .ref (ad K c0)), (1, .int a1), (2, .int a2), (3, .int a3)] [.int t0] h := by
  unfold s_X10_seesForm_b43 at hyp
  refine g_istore (pc := 43) (lv' := [(4, .int t0), (0, .ref (ad K c0)), (1, .int a1), (2, .int a2), (3, .int a3)]) S dX10_seesForm_43 (by decide) rfl ?_
  refine g_iload_n (pc := 45) 4 S dX10_seesForm_45 rfl ?_
  refine g_iconst (pc := 46) (v := (2 : Int32)) S dX10_seesForm_46 (by decide) ?_
  refine g_icmp_ne (pc := 47) (tgt := 54) S dX10_seesForm_47 (by decide) hyp (fun hyp => ?_) (fun hyp => ?_)
  · refine g_iconst (pc := 50) (v := (1 : Int32)) S dX10_seesForm_50 (by decide) ?_
    refine g_goto (pc := 51) (tgt := 55) S dX10_seesForm_51 (by decide) ?_
    exact g_sub [1, 2, 3, 4, 0] rfl (o_X10_seesForm_b55 S k0 a1 a2 a3 t0 (1 : Int32) h hyp F)
  · refine g_iconst (pc := 54) (v := (2 : Int32)) S dX10_seesForm_54 (by decide) ?_
    exact g_sub [1, 2, 3, 4, 0] rfl (o_X10_seesForm_b55 S k0 a1 a2 a3 t0 (2 : Int32) h hyp F)
set_option maxRecDepth 100000 in
set_option maxHeartbeats 4000000 in
theorem o_X10_seesForm_b33 {K : gK} (S : Cx K RX10 cX10_seesForm 13 3 91) {c0 : Nat} (k0 : kd c0 (10 + 10, 0)) (a1 : Int32) (a2 : Int32) (t0 : Int32) (h : Hp) {o : Hp} (hyp : s_X10_seesForm_b33 c0 a1 a2 t0 h = some o) (F : Rt K none none o) : Go K 33 [(0, .ref (ad K c0)), (1, .int a1), (2, .int a2)] [.int t0] h := by
  unfold s_X10_seesForm_b33 at hyp
  refine g_istore_n (pc := 33) (lv' := [(3, .int t0), (0, .ref (ad K c0)), (1, .int a1), (2, .int a2)]) S dX10_seesForm_33 rfl (by decide) rfl ?_
  refine g_iload_n (pc := 34) 0 S dX10_seesForm_34 rfl ?_
  refine g_if_ne (pc := 35) (tgt := 42) S dX10_seesForm_35 (by decide) hyp (fun hyp => ?_) (fun hyp => ?_)
  · refine g_iconst (pc := 38) (v := (1 : Int32)) S dX10_seesForm_38 (by decide) ?_
    refine g_goto (pc := 39) (tgt := 43) S dX10_seesForm_39 (by decide) ?_
    exact g_sub [1, 2, 3, 0] rfl (o_X10_seesForm_b43 S k0 a1 a2 t0 (1 : Int32) h hyp F)
  · refine g_iconst (pc := 42) (v := (0 : Int32)) S dX10_seesForm_42 (by decide) ?_
    exact g_sub [1, 2, 3, 0] rfl (o_X10_seesForm_b43 S k0 a1 a2 t0 (0 : Int32) h hyp F)
set_option maxRecDepth 100000 in
set_option maxHeartbeats 4000000 in
theorem o_X10_seesForm {K : gK} (S : Cx K RX10 cX10_seesForm 13 3 91) {c0 : Nat} (k0 : kd c0 (10 + 10, 0)) (a1 : Int32) (a2 : Int32) (h : Hp) {o : Hp} (hyp : s_X10_seesForm c0 a1 a2 h = some o) (F : Rt K none none o) : Go K 0 [(0, .ref (ad K c0)), (1, .int a1), (2, .int a2)] [] h := by
  unfold s_X10_seesForm at hyp
  refine g_aload_n (pc := 0) 0 S dX10_seesForm_0 rfl ?_
  refine g_getR (pc := 1) S dX10_seesForm_1 fl_X10_13 k0 ?_
  refine g_iconst (pc := 4) (v := (3 : Int32)) S dX10_seesForm_4 (by decide) ?_
  refine g_iload_n (pc := 5) 2 S dX10_seesForm_5 rfl ?_
  refine g_imul (pc := 6) S dX10_seesForm_6 ?_
  refine g_iald (pc := 7) S dX10_seesForm_7 (kf_10_1 k0) hyp (fun x1 hyp => ?_)
  refine g_if_eq (pc := 8) (tgt := 15) S dX10_seesForm_8 (by decide) hyp (fun hyp => ?_) (fun hyp => ?_)
  · refine g_aload_n (pc := 15) 0 S dX10_seesForm_15 rfl ?_
    refine g_getR (pc := 16) S dX10_seesForm_16 fl_X10_13 k0 ?_
    refine g_iconst (pc := 19) (v := (3 : Int32)) S dX10_seesForm_19 (by decide) ?_
    refine g_iload_n (pc := 20) 2 S dX10_seesForm_20 rfl ?_
    refine g_imul (pc := 21) S dX10_seesForm_21 ?_
    refine g_iconst (pc := 22) (v := (1 : Int32)) S dX10_seesForm_22 (by decide) ?_
    refine g_iadd (pc := 23) S dX10_seesForm_23 ?_
    refine g_iald (pc := 24) S dX10_seesForm_24 (kf_10_1 k0) hyp (fun x2 hyp => ?_)
    refine g_if_eq (pc := 25) (tgt := 32) S dX10_seesForm_25 (by decide) hyp (fun hyp => ?_) (fun hyp => ?_)
    · refine g_iconst (pc := 32) (v := (2 : Int32)) S dX10_seesForm_32 (by decide) ?_
      exact g_sub [0, 1, 2] rfl (o_X10_seesForm_b33 S k0 a1 a2 (2 : Int32) h hyp F)
    · refine g_iconst (pc := 28) (v := (1 : Int32)) S dX10_seesForm_28 (by decide) ?_
      refine g_goto (pc := 29) (tgt := 33) S dX10_seesForm_29 (by decide) ?_
      exact g_sub [0, 1, 2] rfl (o_X10_seesForm_b33 S k0 a1 a2 (1 : Int32) h hyp F)
  · refine g_iconst (pc := 11) (v := (0 : Int32)) S dX10_seesForm_11 (by decide) ?_
    refine g_goto (pc := 12) (tgt := 33) S dX10_seesForm_12 (by decide) ?_
    exact g_sub [0, 1, 2] rfl (o_X10_seesForm_b33 S k0 a1 a2 (0 : Int32) h hyp F)
theorem m_X10_seesForm {l : Launch} {D : va_G} {cT : Nat → ClassId} {aD : Nat → Nat} {c0 : Nat} (k0 : kd c0 (10 + 10, 0)) (a1 : Int32) (a2 : Int32) (h : Hp) {o : Hp} (hyp : s_X10_seesForm c0 a1 a2 h = some o) : Ok l D cT aD yX10_seesForm cX10_seesForm 13 none 3 91 [.ref (aD c0), .int a1, .int a2] h none o :=
  Ok.of (by decide +kernel) rfl (Nat.le_of_ble_eq_true rfl) (fun K e1 e2 e3 e4 S F => by subst e1; exact o_X10_seesForm S k0 a1 a2 h hyp F)
-- BoundProofsModel coreOf ()I
def s_X10_coreOf_b51 (c0 : Nat) (a2 : Int32) (t0 : Int32) (h : Hp) : Option ((Int32 × Int32 × Hp) ⊕ (Int32 × Hp)) :=
  lt (a2 + (-1 : Int32)) fun v2_5 =>
  some (.inl (t0, v2_5, h))
def s_X10_coreOf_l22 (c0 : Nat) (a1 : Int32) (a2 : Int32) (h : Hp) : Option ((Int32 × Int32 × Hp) ⊕ (Int32 × Hp)) :=
  if a2 < 0 then (some (.inr ((a1, h))))
  else ((s_X10_canBe c0 (a1 &&& (((1 : Int32) <<< (a2 &&& 31)) ^^^ (-1 : Int32))) h).bind fun y4 =>
  if y4.1 = 0 then (s_X10_coreOf_b51 c0 a2 (a1 &&& (((1 : Int32) <<< (a2 &&& 31)) ^^^ (-1 : Int32))) y4.2)
  else (s_X10_coreOf_b51 c0 a2 a1 y4.2))
def s_X10_coreOf (c0 : Nat)  (h : Hp) : Option (Int32 × Hp) :=
  (s_X10_allBounds c0  h).bind fun y1 =>
  (s_X10_canBe c0 y1 h).bind fun y2 =>
  if y2.1 = 0 then (lt ((y2.2.1 c0 3) - (1 : Int32)) fun v2_3 =>
  (iter (fun s : Int32 × Int32 × Hp => s_X10_coreOf_l22 c0 s.1 s.2.1 s.2.2) FUEL (y1, v2_3, y2.2)).bind fun e6 =>
  some (e6.1, e6.2))
  else (some ((0 : Int32), y2.2))
set_option maxRecDepth 100000 in
set_option maxHeartbeats 4000000 in
theorem o_X10_coreOf_b51 {K : gK} (S : Cx K RX10 cX10_coreOf 3 4 117) {c0 : Nat} (k0 : kd c0 (10 + 10, 0)) (a2 : Int32) (t0 : Int32) (h : Hp) {o : (Int32 × Int32 × Hp) ⊕ (Int32 × Hp)} (hyp : s_X10_coreOf_b51 c0 a2 t0 h = some o) (hin : ∀ s', o = .inl s' → Go K 22 [(0, .ref (ad K c0)), (1, .int s'.1), (2, .int s'.2.1)] [] s'.2.2) (hex0 : ∀ s', o = .inr (s') → Go K 58 [(1, .int s'.1)] [] s'.2) : Go K 51 [(0, .ref (ad K c0)), (2, .int a2)] [.int t0] h := by
  unfold s_X10_coreOf_b51 at hyp
  refine g_istore_n (pc := 51) (lv' := [(1, .int t0), (0, .ref (ad K c0)), (2, .int a2)]) S dX10_coreOf_51 rfl (by decide) rfl ?_
  refine g_iinc (pc := 52) (v := (a2 + (-1 : Int32))) (lv' := [(2, .int (a2 + (-1 : Int32))), (1, .int t0), (0, .ref (ad K c0))]) 2 S dX10_coreOf_52 rfl (by rfl) (by decide) rfl ?_
  refine g_lti (C := fun v2_5 => Go K (52 + 3) [(2, .int v2_5), (1, .int t0), (0, .ref (ad K c0))] [] h) hyp (fun v2_5 hyp => ?_)
  refine g_goto (pc := 55) (tgt := 22) S dX10_coreOf_55 (by decide) ?_
  cases hyp
  exact g_sub [2, 1, 0] rfl (hin _ rfl)
set_option maxRecDepth 100000 in
set_option maxHeartbeats 4000000 in
theorem o_X10_coreOf_l22 {K : gK} (S : Cx K RX10 cX10_coreOf 3 4 117) {c0 : Nat} (k0 : kd c0 (10 + 10, 0)) (a1 : Int32) (a2 : Int32) (h : Hp) {o : (Int32 × Int32 × Hp) ⊕ (Int32 × Hp)} (hyp : s_X10_coreOf_l22 c0 a1 a2 h = some o) (hin : ∀ s', o = .inl s' → Go K 22 [(0, .ref (ad K c0)), (1, .int s'.1), (2, .int s'.2.1)] [] s'.2.2) (hex0 : ∀ s', o = .inr (s') → Go K 58 [(1, .int s'.1)] [] s'.2) : Go K 22 [(0, .ref (ad K c0)), (1, .int a1), (2, .int a2)] [] h := by
  unfold s_X10_coreOf_l22 at hyp
  refine g_iload_n (pc := 22) 2 S dX10_coreOf_22 rfl ?_
  refine g_if_lt (pc := 23) (tgt := 58) S dX10_coreOf_23 (by decide) hyp (fun hyp => ?_) (fun hyp => ?_)
  · cases hyp
    exact g_sub [1] rfl (hex0 _ rfl)
  · refine g_aload_n (pc := 26) 0 S dX10_coreOf_26 rfl ?_
    refine g_iload_n (pc := 27) 1 S dX10_coreOf_27 rfl ?_
    refine g_iconst (pc := 28) (v := (1 : Int32)) S dX10_coreOf_28 (by decide) ?_
    refine g_iload_n (pc := 29) 2 S dX10_coreOf_29 rfl ?_
    refine g_ishl (pc := 30) S dX10_coreOf_30 ?_
    refine g_iconst (pc := 31) (v := (-1 : Int32)) S dX10_coreOf_31 (by decide) ?_
    refine g_ixor (pc := 32) S dX10_coreOf_32 ?_
    refine g_iand (pc := 33) S dX10_coreOf_33 ?_
    refine g_bind hyp (fun y4 hy4 hyp => ?_)
    refine g_callV (pc := 34) (As := [.int (a1 &&& (((1 : Int32) <<< (a2 &&& 31)) ^^^ (-1 : Int32)))]) (rest := []) S dX10_coreOf_34 k0 rfl tw_1052 tw_1053 tw_40 mw_X10_canBe (m_X10_canBe k0 (a1 &&& (((1 : Int32) <<< (a2 &&& 31)) ^^^ (-1 : Int32))) h hy4) rfl rfl (Nat.le_of_ble_eq_true rfl) (Nat.le_of_ble_eq_true rfl) (Nat.le_of_ble_eq_true rfl) ?_
    refine g_if_eq (pc := 37) (tgt := 44) S dX10_coreOf_37 (by decide) hyp (fun hyp => ?_) (fun hyp => ?_)
    · refine g_iload_n (pc := 44) 1 S dX10_coreOf_44 rfl ?_
      refine g_iconst (pc := 45) (v := (1 : Int32)) S dX10_coreOf_45 (by decide) ?_
      refine g_iload_n (pc := 46) 2 S dX10_coreOf_46 rfl ?_
      refine g_ishl (pc := 47) S dX10_coreOf_47 ?_
      refine g_iconst (pc := 48) (v := (-1 : Int32)) S dX10_coreOf_48 (by decide) ?_
      refine g_ixor (pc := 49) S dX10_coreOf_49 ?_
      refine g_iand (pc := 50) S dX10_coreOf_50 ?_
      exact g_sub [0, 2] rfl (o_X10_coreOf_b51 S k0 a2 (a1 &&& (((1 : Int32) <<< (a2 &&& 31)) ^^^ (-1 : Int32))) y4.2 hyp hin hex0)
    · refine g_iload_n (pc := 40) 1 S dX10_coreOf_40 rfl ?_
      refine g_goto (pc := 41) (tgt := 51) S dX10_coreOf_41 (by decide) ?_
      exact g_sub [0, 2] rfl (o_X10_coreOf_b51 S k0 a2 a1 y4.2 hyp hin hex0)
set_option maxRecDepth 100000 in
set_option maxHeartbeats 4000000 in
theorem o_X10_coreOf {K : gK} (S : Cx K RX10 cX10_coreOf 3 4 117) {c0 : Nat} (k0 : kd c0 (10 + 10, 0))  (h : Hp) {o : Int32 × Hp} (hyp : s_X10_coreOf c0  h = some o) (F : Rt K (some .int) (some (.int o.1)) o.2) : Go K 0 [(0, .ref (ad K c0))] [] h := by
  unfold s_X10_coreOf at hyp
  refine g_aload_n (pc := 0) 0 S dX10_coreOf_0 rfl ?_
  refine g_bind hyp (fun y1 hy1 hyp => ?_)
  refine g_callV (pc := 1) (As := []) (rest := []) S dX10_coreOf_1 k0 rfl tw_1049 tw_1050 tw_39 mw_X10_allBounds (m_X10_allBounds k0  h hy1) rfl rfl (Nat.le_of_ble_eq_true rfl) (Nat.le_of_ble_eq_true rfl) (Nat.le_of_ble_eq_true rfl) ?_
  refine g_istore_n (pc := 4) (lv' := [(1, .int y1), (0, .ref (ad K c0))]) S dX10_coreOf_4 rfl (by decide) rfl ?_
  refine g_aload_n (pc := 5) 1 S dX10_coreOf_5 rfl ?_
  refine g_iload_n (pc := 6) 0 S dX10_coreOf_6 rfl ?_
  refine g_bind hyp (fun y2 hy2 hyp => ?_)
  refine g_callV (pc := 7) (As := [.int y1]) (rest := []) S dX10_coreOf_7 k0 rfl tw_1052 tw_1053 tw_40 mw_X10_canBe (m_X10_canBe k0 y1 h hy2) rfl rfl (Nat.le_of_ble_eq_true rfl) (Nat.le_of_ble_eq_true rfl) (Nat.le_of_ble_eq_true rfl) ?_
  refine g_if_eq (pc := 10) (tgt := 15) S dX10_coreOf_10 (by decide) hyp (fun hyp => ?_) (fun hyp => ?_)
  · refine g_aload_n (pc := 15) 1 S dX10_coreOf_15 rfl ?_
    refine g_getI (pc := 16) S dX10_coreOf_16 fl_X10_97 k0 ?_
    refine g_iconst (pc := 19) (v := (1 : Int32)) S dX10_coreOf_19 (by decide) ?_
    refine g_isub (pc := 20) S dX10_coreOf_20 ?_
    refine g_lti (C := fun v2_3 => Go K 21 [(1, .int y1), (0, .ref (ad K c0))] [.int v2_3] y2.2) hyp (fun v2_3 hyp => ?_)
    refine g_istore_n (pc := 21) (lv' := [(2, .int v2_3), (1, .int y1), (0, .ref (ad K c0))]) S dX10_coreOf_21 rfl (by decide) rfl ?_
    refine g_bind hyp (fun e6 he6 hyp => ?_)
    refine g_sub [2, 1, 0] rfl (g_loop (Hd := fun s : Int32 × Int32 × Hp => Go K 22 [(0, .ref (ad K c0)), (1, .int s.1), (2, .int s.2.1)] [] s.2.2) (Ex := fun e6 => Go K 58 [(1, .int e6.1)] [] e6.2) (fun s o h1 h2 h3 => o_X10_coreOf_l22 S k0 s.1 s.2.1 s.2.2 h1 h2 h3) FUEL _ e6 he6 ?_)
    refine g_iload_n (pc := 58) 0 S dX10_coreOf_58 rfl ?_
    cases hyp
    exact g_iret (pc := 59) S F dX10_coreOf_59
  · refine g_iconst (pc := 13) (v := (0 : Int32)) S dX10_coreOf_13 (by decide) ?_
    cases hyp
    exact g_iret (pc := 14) S F dX10_coreOf_14
theorem m_X10_coreOf {l : Launch} {D : va_G} {cT : Nat → ClassId} {aD : Nat → Nat} {c0 : Nat} (k0 : kd c0 (10 + 10, 0))  (h : Hp) {o : Int32 × Hp} (hyp : s_X10_coreOf c0  h = some o) : Ok l D cT aD yX10_coreOf cX10_coreOf 3 (some .int) 4 117 [.ref (aD c0)] h (some (.int o.1)) o.2 :=
  Ok.of (by decide +kernel) rfl (Nat.le_of_ble_eq_true rfl) (fun K e1 e2 e3 e4 S F => by subst e1; exact o_X10_coreOf S k0  h hyp F)
-- BoundProofsModel core ()I
def s_X10_core (c0 : Nat)  (h : Hp) : Option (Int32 × Hp) :=
  (s_X10_coreOf c0  h).bind fun y1 =>
  some (y1.1, y1.2)
set_option maxRecDepth 100000 in
set_option maxHeartbeats 4000000 in
theorem o_X10_core {K : gK} (S : Cx K RX10 cX10_core 1 5 143) {c0 : Nat} (k0 : kd c0 (10 + 10, 0))  (h : Hp) {o : Int32 × Hp} (hyp : s_X10_core c0  h = some o) (F : Rt K (some .int) (some (.int o.1)) o.2) : Go K 0 [(0, .ref (ad K c0))] [] h := by
  unfold s_X10_core at hyp
  refine g_aload_n (pc := 0) 0 S dX10_core_0 rfl ?_
  refine g_bind hyp (fun y1 hy1 hyp => ?_)
  refine g_callV (pc := 1) (As := []) (rest := []) S dX10_core_1 k0 rfl tw_1084 tw_1085 tw_49 mw_X10_coreOf (m_X10_coreOf k0  h hy1) rfl rfl (Nat.le_of_ble_eq_true rfl) (Nat.le_of_ble_eq_true rfl) (Nat.le_of_ble_eq_true rfl) ?_
  cases hyp
  exact g_iret (pc := 4) S F dX10_core_4
theorem m_X10_core {l : Launch} {D : va_G} {cT : Nat → ClassId} {aD : Nat → Nat} {c0 : Nat} (k0 : kd c0 (10 + 10, 0))  (h : Hp) {o : Int32 × Hp} (hyp : s_X10_core c0  h = some o) : Ok l D cT aD yX10_core cX10_core 1 (some .int) 5 143 [.ref (aD c0)] h (some (.int o.1)) o.2 :=
  Ok.of (by decide +kernel) rfl (Nat.le_of_ble_eq_true rfl) (fun K e1 e2 e3 e4 S F => by subst e1; exact o_X10_core S k0  h hyp F)
