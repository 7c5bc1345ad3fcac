-- BoundProofs$Rows push (IIIJI)V
noncomputable def s_X7_push_b138 (c0 : Nat) (t0 : Int32) (t1 : Int32) (h : Hp) : Option (Hp) :=
  ckB t0 <|
  stI h (c0 + 4) 12 t1 t0 fun h6 =>
  lt (sI h6 c0 4 ((h6.1 c0 4) + (1 : Int32))) fun h7 =>
  some h7
noncomputable def s_X7_push_b118 (c0 : Nat) (a6 : Int32) (t0 : Int32) (t1 : Int32) (h : Hp) : Option (Hp) :=
  ckB t0 <|
  stI h (c0 + 3) 12 t1 t0 fun h5 =>
  if a6 = (4 : Int32) then (s_X7_push_b138 c0 (1 : Int32) (h5.1 c0 4) h5)
  else (s_X7_push_b138 c0 (0 : Int32) (h5.1 c0 4) h5)
noncomputable def s_X7_push_b113 (c0 : Nat) (a6 : Int32) (t0 : Int32) (h : Hp) : Option (Hp) :=
  s_X7_push_b118 c0 a6 (1 : Int32) t0 h
noncomputable def s_X7_push_b27 (c0 : Nat) (a1 : Int32) (a2 : Int32) (a3 : Int32) (a4 : Int64) (a6 : Int32) (t0 : Int32) (h : Hp) : Option (Hp) :=
  stI h (c0 + 1) 36 ((h.1 c0 4) * (3 : Int32)) (t0 * a1) fun h1 =>
  stI h1 (c0 + 1) 36 (((h1.1 c0 4) * (3 : Int32)) + (1 : Int32)) (t0 * a2) fun h2 =>
  stI h2 (c0 + 1) 36 (((h2.1 c0 4) * (3 : Int32)) + (2 : Int32)) (t0 * a3) fun h3 =>
  stJ h3 (c0 + 2) 12 (h3.1 c0 4) ((t0).toInt64 * a4) fun h4 =>
  if a6 = (1 : Int32) then (s_X7_push_b113 c0 a6 (h4.1 c0 4) h4)
  else (if a6 = (3 : Int32) then (s_X7_push_b113 c0 a6 (h4.1 c0 4) h4)
  else (s_X7_push_b118 c0 a6 (0 : Int32) (h4.1 c0 4) h4))
noncomputable def s_X7_push_b22 (c0 : Nat) (a1 : Int32) (a2 : Int32) (a3 : Int32) (a4 : Int64) (a6 : Int32) (h : Hp) : Option (Hp) :=
  s_X7_push_b27 c0 a1 a2 a3 a4 a6 (-1 : Int32) h
noncomputable def s_X7_push (c0 : Nat) (a1 : Int32) (a2 : Int32) (a3 : Int32) (a4 : Int64) (a6 : Int32) (h : Hp) : Option (Hp) :=
  if (h.1 c0 4) < (12 : Int32) then (if a6 = (2 : Int32) then (s_X7_push_b22 c0 a1 a2 a3 a4 a6 h)
  else (if a6 = (3 : Int32) then (s_X7_push_b22 c0 a1 a2 a3 a4 a6 h)
  else (s_X7_push_b27 c0 a1 a2 a3 a4 a6 (1 : Int32) h)))
  else (some h)
set_option maxRecDepth 100000 in
set_option maxHeartbeats 4000000 in
theorem o_X7_push_b138 {K : gK} (S : Cx K RX7 cX7_push 8 0 0) {c0 : Nat} (k0 : kd c0 (10 + 7, 0)) (t0 : Int32) (t1 : Int32) (h : Hp) {o : Hp} (hyp : s_X7_push_b138 c0 t0 t1 h = some o) (F : Rt K none none o) : Go K 138 [(0, .ref (ad K c0))] [.int t0, .int t1, .ref (ad K (c0 + 4))] h := by
  unfold s_X7_push_b138 at hyp
  refine g_ckB hyp (fun hz hyp => ?_)
  refine g_zast (pc := 138) S dX7_push_138 (kf_7_4 k0) hz hyp (fun h6 hyp => ?_)
  refine g_aload_n (pc := 139) 0 S dX7_push_139 rfl ?_
  refine g_dup (pc := 140) S dX7_push_140 rfl ?_
  refine g_getI (pc := 141) S dX7_push_141 fl_X7_26 k0 ?_
  refine g_iconst (pc := 144) (v := (1 : Int32)) S dX7_push_144 (by decide) ?_
  refine g_iadd (pc := 145) S dX7_push_145 ?_
  refine g_putI (pc := 146) S dX7_push_146 fl_X7_26 k0 hyp (fun h7 hyp => ?_)
  have hyp := Option.some.inj hyp
  subst hyp
  exact g_vret (pc := 149) S F dX7_push_149
set_option maxRecDepth 100000 in
set_option maxHeartbeats 4000000 in
theorem o_X7_push_b118 {K : gK} (S : Cx K RX7 cX7_push 8 0 0) {c0 : Nat} (k0 : kd c0 (10 + 7, 0)) (a6 : Int32) (t0 : Int32) (t1 : Int32) (h : Hp) {o : Hp} (hyp : s_X7_push_b118 c0 a6 t0 t1 h = some o) (F : Rt K none none o) : Go K 118 [(0, .ref (ad K c0)), (6, .int a6)] [.int t0, .int t1, .ref (ad K (c0 + 3))] h := by
  unfold s_X7_push_b118 at hyp
  refine g_ckB hyp (fun hz hyp => ?_)
  refine g_zast (pc := 118) S dX7_push_118 (kf_7_3 k0) hz hyp (fun h5 hyp => ?_)
  refine g_aload_n (pc := 119) 0 S dX7_push_119 rfl ?_
  refine g_getR (pc := 120) S dX7_push_120 fl_X7_23 k0 ?_
  refine g_aload_n (pc := 123) 0 S dX7_push_123 rfl ?_
  refine g_getI (pc := 124) S dX7_push_124 fl_X7_26 k0 ?_
  refine g_iload (pc := 127) 1 S dX7_push_127 rfl ?_
  refine g_iconst (pc := 129) (v := (4 : Int32)) S dX7_push_129 (by decide) ?_
  refine g_icmp_ne (pc := 130) (tgt := 137) S dX7_push_130 (by decide) hyp (fun hyp => ?_) (fun hyp => ?_)
  · refine g_iconst (pc := 133) (v := (1 : Int32)) S dX7_push_133 (by decide) ?_
    refine g_goto (pc := 134) (tgt := 138) S dX7_push_134 (by decide) ?_
    exact g_sub [0] rfl (o_X7_push_b138 S k0 (1 : Int32) (h5.1 c0 4) h5 hyp F)
  · refine g_iconst (pc := 137) (v := (0 : Int32)) S dX7_push_137 (by decide) ?_
    exact g_sub [0] rfl (o_X7_push_b138 S k0 (0 : Int32) (h5.1 c0 4) h5 hyp F)
set_option maxRecDepth 100000 in
set_option maxHeartbeats 4000000 in
theorem o_X7_push_b113 {K : gK} (S : Cx K RX7 cX7_push 8 0 0) {c0 : Nat} (k0 : kd c0 (10 + 7, 0)) (a6 : Int32) (t0 : Int32) (h : Hp) {o : Hp} (hyp : s_X7_push_b113 c0 a6 t0 h = some o) (F : Rt K none none o) : Go K 113 [(0, .ref (ad K c0)), (6, .int a6)] [.int t0, .ref (ad K (c0 + 3))] h := by
  unfold s_X7_push_b113 at hyp
  refine g_iconst (pc := 113) (v := (1 : Int32)) S dX7_push_113 (by decide) ?_
  refine g_goto (pc := 114) (tgt := 118) S dX7_push_114 (by decide) ?_
  exact g_sub [0, 1] rfl (o_X7_push_b118 S k0 a6 (1 : Int32) t0 h hyp F)
set_option maxRecDepth 100000 in
set_option maxHeartbeats 4000000 in
theorem o_X7_push_b27 {K : gK} (S : Cx K RX7 cX7_push 8 0 0) {c0 : Nat} (k0 : kd c0 (10 + 7, 0)) (a1 : Int32) (a2 : Int32) (a3 : Int32) (a4 : Int64) (a6 : Int32) (t0 : Int32) (h : Hp) {o : Hp} (hyp : s_X7_push_b27 c0 a1 a2 a3 a4 a6 t0 h = some o) (F : Rt K none none o) : Go K 27 [(0, .ref (ad K c0)), (1, .int a1), (2, .int a2), (3, .int a3), (4, .long a4), (6, .int a6)] [.int t0] h := by
  unfold s_X7_push_b27 at hyp
  refine g_istore (pc := 27) (lv' := [(7, .int t0), (0, .ref (ad K c0)), (1, .int a1), (2, .int a2), (3, .int a3), (4, .long a4), (6, .int a6)]) S dX7_push_27 (by decide) rfl ?_
  refine g_aload_n (pc := 29) 1 S dX7_push_29 rfl ?_
  refine g_getR (pc := 30) S dX7_push_30 fl_X7_9 k0 ?_
  refine g_aload_n (pc := 33) 1 S dX7_push_33 rfl ?_
  refine g_getI (pc := 34) S dX7_push_34 fl_X7_26 k0 ?_
  refine g_iconst (pc := 37) (v := (3 : Int32)) S dX7_push_37 (by decide) ?_
  refine g_imul (pc := 38) S dX7_push_38 ?_
  refine g_iload (pc := 39) 0 S dX7_push_39 rfl ?_
  refine g_iload_n (pc := 41) 2 S dX7_push_41 rfl ?_
  refine g_imul (pc := 42) S dX7_push_42 ?_
  refine g_iast (pc := 43) S dX7_push_43 (kf_7_1 k0) hyp (fun h1 hyp => ?_)
  refine g_aload_n (pc := 44) 1 S dX7_push_44 rfl ?_
  refine g_getR (pc := 45) S dX7_push_45 fl_X7_9 k0 ?_
  refine g_aload_n (pc := 48) 1 S dX7_push_48 rfl ?_
  refine g_getI (pc := 49) S dX7_push_49 fl_X7_26 k0 ?_
  refine g_iconst (pc := 52) (v := (3 : Int32)) S dX7_push_52 (by decide) ?_
  refine g_imul (pc := 53) S dX7_push_53 ?_
  refine g_iconst (pc := 54) (v := (1 : Int32)) S dX7_push_54 (by decide) ?_
  refine g_iadd (pc := 55) S dX7_push_55 ?_
  refine g_iload (pc := 56) 0 S dX7_push_56 rfl ?_
  refine g_iload_n (pc := 58) 3 S dX7_push_58 rfl ?_
  refine g_imul (pc := 59) S dX7_push_59 ?_
  refine g_iast (pc := 60) S dX7_push_60 (kf_7_1 k0) hyp (fun h2 hyp => ?_)
  refine g_aload_n (pc := 61) 1 S dX7_push_61 rfl ?_
  refine g_getR (pc := 62) S dX7_push_62 fl_X7_9 k0 ?_
  refine g_aload_n (pc := 65) 1 S dX7_push_65 rfl ?_
  refine g_getI (pc := 66) S dX7_push_66 fl_X7_26 k0 ?_
  refine g_iconst (pc := 69) (v := (3 : Int32)) S dX7_push_69 (by decide) ?_
  refine g_imul (pc := 70) S dX7_push_70 ?_
  refine g_iconst (pc := 71) (v := (2 : Int32)) S dX7_push_71 (by decide) ?_
  refine g_iadd (pc := 72) S dX7_push_72 ?_
  refine g_iload (pc := 73) 0 S dX7_push_73 rfl ?_
  refine g_iload_n (pc := 75) 4 S dX7_push_75 rfl ?_
  refine g_imul (pc := 76) S dX7_push_76 ?_
  refine g_iast (pc := 77) S dX7_push_77 (kf_7_1 k0) hyp (fun h3 hyp => ?_)
  refine g_aload_n (pc := 78) 1 S dX7_push_78 rfl ?_
  refine g_getR (pc := 79) S dX7_push_79 fl_X7_15 k0 ?_
  refine g_aload_n (pc := 82) 1 S dX7_push_82 rfl ?_
  refine g_getI (pc := 83) S dX7_push_83 fl_X7_26 k0 ?_
  refine g_iload (pc := 86) 0 S dX7_push_86 rfl ?_
  refine g_i2l (pc := 88) S dX7_push_88 ?_
  refine g_lload (pc := 89) 5 S dX7_push_89 rfl ?_
  refine g_lmul (pc := 91) S dX7_push_91 ?_
  refine g_last (pc := 92) S dX7_push_92 (kf_7_2 k0) hyp (fun h4 hyp => ?_)
  refine g_aload_n (pc := 93) 1 S dX7_push_93 rfl ?_
  refine g_getR (pc := 94) S dX7_push_94 fl_X7_19 k0 ?_
  refine g_aload_n (pc := 97) 1 S dX7_push_97 rfl ?_
  refine g_getI (pc := 98) S dX7_push_98 fl_X7_26 k0 ?_
  refine g_iload (pc := 101) 6 S dX7_push_101 rfl ?_
  refine g_iconst (pc := 103) (v := (1 : Int32)) S dX7_push_103 (by decide) ?_
  refine g_icmp_eq (pc := 104) (tgt := 113) S dX7_push_104 (by decide) hyp (fun hyp => ?_) (fun hyp => ?_)
  · exact g_sub [1, 6] rfl (o_X7_push_b113 S k0 a6 (h4.1 c0 4) h4 hyp F)
  · refine g_iload (pc := 107) 6 S dX7_push_107 rfl ?_
    refine g_iconst (pc := 109) (v := (3 : Int32)) S dX7_push_109 (by decide) ?_
    refine g_icmp_ne (pc := 110) (tgt := 117) S dX7_push_110 (by decide) hyp (fun hyp => ?_) (fun hyp => ?_)
    · exact g_sub [1, 6] rfl (o_X7_push_b113 S k0 a6 (h4.1 c0 4) h4 hyp F)
    · refine g_iconst (pc := 117) (v := (0 : Int32)) S dX7_push_117 (by decide) ?_
      exact g_sub [1, 6] rfl (o_X7_push_b118 S k0 a6 (0 : Int32) (h4.1 c0 4) h4 hyp F)
set_option maxRecDepth 100000 in
set_option maxHeartbeats 4000000 in
theorem o_X7_push_b22 {K : gK} (S : Cx K RX7 cX7_push 8 0 0) {c0 : Nat} (k0 : kd c0 (10 + 7, 0)) (a1 : Int32) (a2 : Int32) (a3 : Int32) (a4 : Int64) (a6 : Int32) (h : Hp) {o : Hp} (hyp : s_X7_push_b22 c0 a1 a2 a3 a4 a6 h = some o) (F : Rt K none none o) : Go K 22 [(0, .ref (ad K c0)), (1, .int a1), (2, .int a2), (3, .int a3), (4, .long a4), (6, .int a6)] [] h := by
  unfold s_X7_push_b22 at hyp
  refine g_iconst (pc := 22) (v := (-1 : Int32)) S dX7_push_22 (by decide) ?_
  refine g_goto (pc := 23) (tgt := 27) S dX7_push_23 (by decide) ?_
  exact g_sub [0, 1, 2, 3, 4, 5] rfl (o_X7_push_b27 S k0 a1 a2 a3 a4 a6 (-1 : Int32) h hyp F)
set_option maxRecDepth 100000 in
set_option maxHeartbeats 4000000 in
theorem o_X7_push {K : gK} (S : Cx K RX7 cX7_push 8 0 0) {c0 : Nat} (k0 : kd c0 (10 + 7, 0)) (a1 : Int32) (a2 : Int32) (a3 : Int32) (a4 : Int64) (a6 : Int32) (h : Hp) {o : Hp} (hyp : s_X7_push c0 a1 a2 a3 a4 a6 h = some o) (F : Rt K none none o) : Go K 0 [(0, .ref (ad K c0)), (1, .int a1), (2, .int a2), (3, .int a3), (4, .long a4), (6, .int a6)] [] h := by
  unfold s_X7_push at hyp
  refine g_aload_n (pc := 0) 0 S dX7_push_0 rfl ?_
  refine g_getI (pc := 1) S dX7_push_1 fl_X7_26 k0 ?_
  refine g_bipush (pc := 4) (v := (12 : Int32)) S dX7_push_4 (by decide) ?_
  refine g_icmp_lt (pc := 6) (tgt := 10) S dX7_push_6 (by decide) hyp (fun hyp => ?_) (fun hyp => ?_)
  · refine g_iload (pc := 10) 5 S dX7_push_10 rfl ?_
    refine g_iconst (pc := 12) (v := (2 : Int32)) S dX7_push_12 (by decide) ?_
    refine g_icmp_eq (pc := 13) (tgt := 22) S dX7_push_13 (by decide) hyp (fun hyp => ?_) (fun hyp => ?_)
    · exact g_sub [0, 1, 2, 3, 4, 5] rfl (o_X7_push_b22 S k0 a1 a2 a3 a4 a6 h hyp F)
    · refine g_iload (pc := 16) 5 S dX7_push_16 rfl ?_
      refine g_iconst (pc := 18) (v := (3 : Int32)) S dX7_push_18 (by decide) ?_
      refine g_icmp_ne (pc := 19) (tgt := 26) S dX7_push_19 (by decide) hyp (fun hyp => ?_) (fun hyp => ?_)
      · exact g_sub [0, 1, 2, 3, 4, 5] rfl (o_X7_push_b22 S k0 a1 a2 a3 a4 a6 h hyp F)
      · refine g_iconst (pc := 26) (v := (1 : Int32)) S dX7_push_26 (by decide) ?_
        exact g_sub [0, 1, 2, 3, 4, 5] rfl (o_X7_push_b27 S k0 a1 a2 a3 a4 a6 (1 : Int32) h hyp F)
  · have hyp := Option.some.inj hyp
    subst hyp
    exact g_vret (pc := 9) S F dX7_push_9
theorem m_X7_push {l : Launch} {D : va_G} {cT : Nat → ClassId} {aD : Nat → Nat} {c0 : Nat} (k0 : kd c0 (10 + 7, 0)) (a1 : Int32) (a2 : Int32) (a3 : Int32) (a4 : Int64) (a6 : Int32) (h : Hp) {o : Hp} (hyp : s_X7_push c0 a1 a2 a3 a4 a6 h = some o) : Ok l D cT aD yX7_push cX7_push 8 none 0 0 [.ref (aD c0), .int a1, .int a2, .int a3, .long a4, .int a6] h none o :=
  Ok.of (by decide +kernel) rfl (Nat.le_of_ble_eq_true rfl) (fun K e1 e2 e3 e4 S F => by subst e1; exact o_X7_push S k0 a1 a2 a3 a4 a6 h hyp F)
-- java/lang/Integer bitCount (I)I
noncomputable def s_J6_bitCount_0f7a4  (a0 : Int32) (h : Hp) : Option (Int32) :=
  lt (a0 - ((((a0).toUInt32 >>> (((1 : Int32)).toUInt32 &&& 31)).toInt32) &&& (1431655765 : Int32))) fun v0_1 =>
  lt ((v0_1 &&& (858993459 : Int32)) + ((((v0_1).toUInt32 >>> (((2 : Int32)).toUInt32 &&& 31)).toInt32) &&& (858993459 : Int32))) fun v0_2 =>
  lt ((v0_2 + (((v0_2).toUInt32 >>> (((4 : Int32)).toUInt32 &&& 31)).toInt32)) &&& (252645135 : Int32)) fun v0_3 =>
  lt (v0_3 + (((v0_3).toUInt32 >>> (((8 : Int32)).toUInt32 &&& 31)).toInt32)) fun v0_4 =>
  lt (v0_4 + (((v0_4).toUInt32 >>> (((16 : Int32)).toUInt32 &&& 31)).toInt32)) fun v0_5 =>
  some (v0_5 &&& (63 : Int32))
set_option maxRecDepth 100000 in
set_option maxHeartbeats 4000000 in
theorem o_J6_bitCount_0f7a4 {K : gK} (S : Cx K RJ6 cJ6_bitCount_0f7a4 1 0 0)  (a0 : Int32) (h : Hp) {o : Int32} (hyp : s_J6_bitCount_0f7a4  a0 h = some o) (F : Rt K (some .int) (some (.int o)) h) : Go K 0 [(0, .int a0)] [] h := by
  unfold s_J6_bitCount_0f7a4 at hyp
  refine g_iload_n (pc := 0) 0 S dJ6_bitCount_0f7a4_0 rfl ?_
  refine g_iload_n (pc := 1) 0 S dJ6_bitCount_0f7a4_1 rfl ?_
  refine g_iconst (pc := 2) (v := (1 : Int32)) S dJ6_bitCount_0f7a4_2 (by decide) ?_
  refine g_iushr (pc := 3) S dJ6_bitCount_0f7a4_3 ?_
  refine g_ldcw (pc := 4) (v := (1431655765 : Int32)) S dJ6_bitCount_0f7a4_4 tw_536 ?_
  refine g_iand (pc := 7) S dJ6_bitCount_0f7a4_7 ?_
  refine g_isub (pc := 8) S dJ6_bitCount_0f7a4_8 ?_
  refine g_lti (C := fun v0_1 => Go K 9 [(0, .int a0)] [.int v0_1] h) hyp (fun v0_1 hyp => ?_)
  refine g_istore_n (pc := 9) (lv' := [(0, .int v0_1)]) S dJ6_bitCount_0f7a4_9 rfl (by decide) rfl ?_
  refine g_iload_n (pc := 10) 0 S dJ6_bitCount_0f7a4_10 rfl ?_
  refine g_ldcw (pc := 11) (v := (858993459 : Int32)) S dJ6_bitCount_0f7a4_11 tw_537 ?_
  refine g_iand (pc := 14) S dJ6_bitCount_0f7a4_14 ?_
  refine g_iload_n (pc := 15) 0 S dJ6_bitCount_0f7a4_15 rfl ?_
  refine g_iconst (pc := 16) (v := (2 : Int32)) S dJ6_bitCount_0f7a4_16 (by decide) ?_
  refine g_iushr (pc := 17) S dJ6_bitCount_0f7a4_17 ?_
  refine g_ldcw (pc := 18) (v := (858993459 : Int32)) S dJ6_bitCount_0f7a4_18 tw_537 ?_
  refine g_iand (pc := 21) S dJ6_bitCount_0f7a4_21 ?_
  refine g_iadd (pc := 22) S dJ6_bitCount_0f7a4_22 ?_
  refine g_lti (C := fun v0_2 => Go K 23 [(0, .int v0_1)] [.int v0_2] h) hyp (fun v0_2 hyp => ?_)
  refine g_istore_n (pc := 23) (lv' := [(0, .int v0_2)]) S dJ6_bitCount_0f7a4_23 rfl (by decide) rfl ?_
  refine g_iload_n (pc := 24) 0 S dJ6_bitCount_0f7a4_24 rfl ?_
  refine g_iload_n (pc := 25) 0 S dJ6_bitCount_0f7a4_25 rfl ?_
  refine g_iconst (pc := 26) (v := (4 : Int32)) S dJ6_bitCount_0f7a4_26 (by decide) ?_
  refine g_iushr (pc := 27) S dJ6_bitCount_0f7a4_27 ?_
  refine g_iadd (pc := 28) S dJ6_bitCount_0f7a4_28 ?_
  refine g_ldcw (pc := 29) (v := (252645135 : Int32)) S dJ6_bitCount_0f7a4_29 tw_538 ?_
  refine g_iand (pc := 32) S dJ6_bitCount_0f7a4_32 ?_
  refine g_lti (C := fun v0_3 => Go K 33 [(0, .int v0_2)] [.int v0_3] h) hyp (fun v0_3 hyp => ?_)
  refine g_istore_n (pc := 33) (lv' := [(0, .int v0_3)]) S dJ6_bitCount_0f7a4_33 rfl (by decide) rfl ?_
  refine g_iload_n (pc := 34) 0 S dJ6_bitCount_0f7a4_34 rfl ?_
  refine g_iload_n (pc := 35) 0 S dJ6_bitCount_0f7a4_35 rfl ?_
  refine g_bipush (pc := 36) (v := (8 : Int32)) S dJ6_bitCount_0f7a4_36 (by decide) ?_
  refine g_iushr (pc := 38) S dJ6_bitCount_0f7a4_38 ?_
  refine g_iadd (pc := 39) S dJ6_bitCount_0f7a4_39 ?_
  refine g_lti (C := fun v0_4 => Go K 40 [(0, .int v0_3)] [.int v0_4] h) hyp (fun v0_4 hyp => ?_)
  refine g_istore_n (pc := 40) (lv' := [(0, .int v0_4)]) S dJ6_bitCount_0f7a4_40 rfl (by decide) rfl ?_
  refine g_iload_n (pc := 41) 0 S dJ6_bitCount_0f7a4_41 rfl ?_
  refine g_iload_n (pc := 42) 0 S dJ6_bitCount_0f7a4_42 rfl ?_
  refine g_bipush (pc := 43) (v := (16 : Int32)) S dJ6_bitCount_0f7a4_43 (by decide) ?_
  refine g_iushr (pc := 45) S dJ6_bitCount_0f7a4_45 ?_
  refine g_iadd (pc := 46) S dJ6_bitCount_0f7a4_46 ?_
  refine g_lti (C := fun v0_5 => Go K 47 [(0, .int v0_4)] [.int v0_5] h) hyp (fun v0_5 hyp => ?_)
  refine g_istore_n (pc := 47) (lv' := [(0, .int v0_5)]) S dJ6_bitCount_0f7a4_47 rfl (by decide) rfl ?_
  refine g_iload_n (pc := 48) 0 S dJ6_bitCount_0f7a4_48 rfl ?_
  refine g_bipush (pc := 49) (v := (63 : Int32)) S dJ6_bitCount_0f7a4_49 (by decide) ?_
  refine g_iand (pc := 51) S dJ6_bitCount_0f7a4_51 ?_
  have hyp := Option.some.inj hyp
  subst hyp
  exact g_iret (pc := 52) S F dJ6_bitCount_0f7a4_52
theorem m_J6_bitCount_0f7a4 {l : Launch} {D : va_G} {cT : Nat → ClassId} {aD : Nat → Nat}  (a0 : Int32) (h : Hp) {o : Int32} (hyp : s_J6_bitCount_0f7a4  a0 h = some o) : Ok l D cT aD yJ6_bitCount_0f7a4 cJ6_bitCount_0f7a4 1 (some .int) 0 0 [.int a0] h (some (.int o)) h :=
  Ok.of (by decide +kernel) rfl (Nat.le_of_ble_eq_true rfl) (fun K e1 e2 e3 e4 S F => by subst e1; exact o_J6_bitCount_0f7a4 S  a0 h hyp F)
-- BoundProofs$Rows cross (III)I
noncomputable def s_X7_cross_b60 (c0 : Nat) (a1 : Int32) (a2 : Int32) (a4 : Int32) (t0 : Int32) (h : Hp) : Option (Int32) :=
  lt (a1 * (3 : Int32)) fun v6_1 =>
  lt (a2 * (3 : Int32)) fun v7_2 =>
  ldI h (c0 + 1) 36 (v6_1 + a4) fun x3 =>
  ldI h (c0 + 1) 36 (v7_2 + t0) fun x4 =>
  ldI h (c0 + 1) 36 (v6_1 + t0) fun x5 =>
  ldI h (c0 + 1) 36 (v7_2 + a4) fun x6 =>
  some ((x3 * x4) - (x5 * x6))
noncomputable def s_X7_cross_b47 (c0 : Nat) (a1 : Int32) (a2 : Int32) (a3 : Int32) (t0 : Int32) (h : Hp) : Option (Int32) :=
  if a3 = 0 then (s_X7_cross_b60 c0 a1 a2 t0 (2 : Int32) h)
  else (s_X7_cross_b60 c0 a1 a2 t0 (a3 - (1 : Int32)) h)
noncomputable def s_X7_cross (c0 : Nat) (a1 : Int32) (a2 : Int32) (a3 : Int32) (h : Hp) : Option (Int32) :=
  if a1 < 0 then (some (0 : Int32))
  else (if a1 < (h.1 c0 4) then (if a2 < 0 then (some (0 : Int32))
  else (if a2 < (h.1 c0 4) then (if a3 < 0 then (some (0 : Int32))
  else (if a3 < (3 : Int32) then (if a3 = (2 : Int32) then (s_X7_cross_b47 c0 a1 a2 a3 (0 : Int32) h)
  else (s_X7_cross_b47 c0 a1 a2 a3 (a3 + (1 : Int32)) h))
  else (some (0 : Int32))))
  else (some (0 : Int32))))
  else (some (0 : Int32)))
set_option maxRecDepth 100000 in
set_option maxHeartbeats 4000000 in
theorem o_X7_cross_b60 {K : gK} (S : Cx K RX7 cX7_cross 8 0 0) {c0 : Nat} (k0 : kd c0 (10 + 7, 0)) (a1 : Int32) (a2 : Int32) (a4 : Int32) (t0 : Int32) (h : Hp) {o : Int32} (hyp : s_X7_cross_b60 c0 a1 a2 a4 t0 h = some o) (F : Rt K (some .int) (some (.int o)) h) : Go K 60 [(0, .ref (ad K c0)), (1, .int a1), (2, .int a2), (4, .int a4)] [.int t0] h := by
  unfold s_X7_cross_b60 at hyp
  refine g_istore (pc := 60) (lv' := [(5, .int t0), (0, .ref (ad K c0)), (1, .int a1), (2, .int a2), (4, .int a4)]) S dX7_cross_60 (by decide) rfl ?_
  refine g_iload_n (pc := 62) 2 S dX7_cross_62 rfl ?_
  refine g_iconst (pc := 63) (v := (3 : Int32)) S dX7_cross_63 (by decide) ?_
  refine g_imul (pc := 64) S dX7_cross_64 ?_
  refine g_lti (C := fun v6_1 => Go K 65 [(5, .int t0), (0, .ref (ad K c0)), (1, .int a1), (2, .int a2), (4, .int a4)] [.int v6_1] h) hyp (fun v6_1 hyp => ?_)
  refine g_istore (pc := 65) (lv' := [(6, .int v6_1), (5, .int t0), (0, .ref (ad K c0)), (1, .int a1), (2, .int a2), (4, .int a4)]) S dX7_cross_65 (by decide) rfl ?_
  refine g_iload_n (pc := 67) 4 S dX7_cross_67 rfl ?_
  refine g_iconst (pc := 68) (v := (3 : Int32)) S dX7_cross_68 (by decide) ?_
  refine g_imul (pc := 69) S dX7_cross_69 ?_
  refine g_lti (C := fun v7_2 => Go K 70 [(6, .int v6_1), (5, .int t0), (0, .ref (ad K c0)), (1, .int a1), (2, .int a2), (4, .int a4)] [.int v7_2] h) hyp (fun v7_2 hyp => ?_)
  refine g_istore (pc := 70) (lv' := [(7, .int v7_2), (6, .int v6_1), (5, .int t0), (0, .ref (ad K c0)), (1, .int a1), (2, .int a2), (4, .int a4)]) S dX7_cross_70 (by decide) rfl ?_
  refine g_aload_n (pc := 72) 3 S dX7_cross_72 rfl ?_
  refine g_getR (pc := 73) S dX7_cross_73 fl_X7_9 k0 ?_
  refine g_iload (pc := 76) 1 S dX7_cross_76 rfl ?_
  refine g_iload (pc := 78) 6 S dX7_cross_78 rfl ?_
  refine g_iadd (pc := 80) S dX7_cross_80 ?_
  refine g_iald (pc := 81) S dX7_cross_81 (kf_7_1 k0) hyp (fun x3 hyp => ?_)
  refine g_aload_n (pc := 82) 3 S dX7_cross_82 rfl ?_
  refine g_getR (pc := 83) S dX7_cross_83 fl_X7_9 k0 ?_
  refine g_iload (pc := 86) 0 S dX7_cross_86 rfl ?_
  refine g_iload (pc := 88) 2 S dX7_cross_88 rfl ?_
  refine g_iadd (pc := 90) S dX7_cross_90 ?_
  refine g_iald (pc := 91) S dX7_cross_91 (kf_7_1 k0) hyp (fun x4 hyp => ?_)
  refine g_imul (pc := 92) S dX7_cross_92 ?_
  refine g_aload_n (pc := 93) 3 S dX7_cross_93 rfl ?_
  refine g_getR (pc := 94) S dX7_cross_94 fl_X7_9 k0 ?_
  refine g_iload (pc := 97) 1 S dX7_cross_97 rfl ?_
  refine g_iload (pc := 99) 2 S dX7_cross_99 rfl ?_
  refine g_iadd (pc := 101) S dX7_cross_101 ?_
  refine g_iald (pc := 102) S dX7_cross_102 (kf_7_1 k0) hyp (fun x5 hyp => ?_)
  refine g_aload_n (pc := 103) 3 S dX7_cross_103 rfl ?_
  refine g_getR (pc := 104) S dX7_cross_104 fl_X7_9 k0 ?_
  refine g_iload (pc := 107) 0 S dX7_cross_107 rfl ?_
  refine g_iload (pc := 109) 6 S dX7_cross_109 rfl ?_
  refine g_iadd (pc := 111) S dX7_cross_111 ?_
  refine g_iald (pc := 112) S dX7_cross_112 (kf_7_1 k0) hyp (fun x6 hyp => ?_)
  refine g_imul (pc := 113) S dX7_cross_113 ?_
  refine g_isub (pc := 114) S dX7_cross_114 ?_
  have hyp := Option.some.inj hyp
  subst hyp
  exact g_iret (pc := 115) S F dX7_cross_115
set_option maxRecDepth 100000 in
set_option maxHeartbeats 4000000 in
theorem o_X7_cross_b47 {K : gK} (S : Cx K RX7 cX7_cross 8 0 0) {c0 : Nat} (k0 : kd c0 (10 + 7, 0)) (a1 : Int32) (a2 : Int32) (a3 : Int32) (t0 : Int32) (h : Hp) {o : Int32} (hyp : s_X7_cross_b47 c0 a1 a2 a3 t0 h = some o) (F : Rt K (some .int) (some (.int o)) h) : Go K 47 [(0, .ref (ad K c0)), (1, .int a1), (2, .int a2), (3, .int a3)] [.int t0] h := by
  unfold s_X7_cross_b47 at hyp
  refine g_istore (pc := 47) (lv' := [(4, .int t0), (0, .ref (ad K c0)), (1, .int a1), (2, .int a2), (3, .int a3)]) S dX7_cross_47 (by decide) rfl ?_
  refine g_iload_n (pc := 49) 4 S dX7_cross_49 rfl ?_
  refine g_if_ne (pc := 50) (tgt := 57) S dX7_cross_50 (by decide) hyp (fun hyp => ?_) (fun hyp => ?_)
  · refine g_iconst (pc := 53) (v := (2 : Int32)) S dX7_cross_53 (by decide) ?_
    refine g_goto (pc := 54) (tgt := 60) S dX7_cross_54 (by decide) ?_
    exact g_sub [1, 2, 3, 0] rfl (o_X7_cross_b60 S k0 a1 a2 t0 (2 : Int32) h hyp F)
  · refine g_iload_n (pc := 57) 4 S dX7_cross_57 rfl ?_
    refine g_iconst (pc := 58) (v := (1 : Int32)) S dX7_cross_58 (by decide) ?_
    refine g_isub (pc := 59) S dX7_cross_59 ?_
    exact g_sub [1, 2, 3, 0] rfl (o_X7_cross_b60 S k0 a1 a2 t0 (a3 - (1 : Int32)) h hyp F)
set_option maxRecDepth 100000 in
set_option maxHeartbeats 4000000 in
theorem o_X7_cross {K : gK} (S : Cx K RX7 cX7_cross 8 0 0) {c0 : Nat} (k0 : kd c0 (10 + 7, 0)) (a1 : Int32) (a2 : Int32) (a3 : Int32) (h : Hp) {o : Int32} (hyp : s_X7_cross c0 a1 a2 a3 h = some o) (F : Rt K (some .int) (some (.int o)) h) : Go K 0 [(0, .ref (ad K c0)), (1, .int a1), (2, .int a2), (3, .int a3)] [] h := by
  unfold s_X7_cross at hyp
  refine g_iload_n (pc := 0) 1 S dX7_cross_0 rfl ?_
  refine g_if_lt (pc := 1) (tgt := 33) S dX7_cross_1 (by decide) hyp (fun hyp => ?_) (fun hyp => ?_)
  · refine g_iconst (pc := 33) (v := (0 : Int32)) S dX7_cross_33 (by decide) ?_
    have hyp := Option.some.inj hyp
    subst hyp
    exact g_iret (pc := 34) S F dX7_cross_34
  · refine g_iload_n (pc := 4) 1 S dX7_cross_4 rfl ?_
    refine g_aload_n (pc := 5) 0 S dX7_cross_5 rfl ?_
    refine g_getI (pc := 6) S dX7_cross_6 fl_X7_26 k0 ?_
    refine g_icmp_ge (pc := 9) (tgt := 33) S dX7_cross_9 (by decide) hyp (fun hyp => ?_) (fun hyp => ?_)
    · refine g_iload_n (pc := 12) 2 S dX7_cross_12 rfl ?_
      refine g_if_lt (pc := 13) (tgt := 33) S dX7_cross_13 (by decide) hyp (fun hyp => ?_) (fun hyp => ?_)
      · refine g_iconst (pc := 33) (v := (0 : Int32)) S dX7_cross_33 (by decide) ?_
        have hyp := Option.some.inj hyp
        subst hyp
        exact g_iret (pc := 34) S F dX7_cross_34
      · refine g_iload_n (pc := 16) 2 S dX7_cross_16 rfl ?_
        refine g_aload_n (pc := 17) 0 S dX7_cross_17 rfl ?_
        refine g_getI (pc := 18) S dX7_cross_18 fl_X7_26 k0 ?_
        refine g_icmp_ge (pc := 21) (tgt := 33) S dX7_cross_21 (by decide) hyp (fun hyp => ?_) (fun hyp => ?_)
        · refine g_iload_n (pc := 24) 3 S dX7_cross_24 rfl ?_
          refine g_if_lt (pc := 25) (tgt := 33) S dX7_cross_25 (by decide) hyp (fun hyp => ?_) (fun hyp => ?_)
          · refine g_iconst (pc := 33) (v := (0 : Int32)) S dX7_cross_33 (by decide) ?_
            have hyp := Option.some.inj hyp
            subst hyp
            exact g_iret (pc := 34) S F dX7_cross_34
          · refine g_iload_n (pc := 28) 3 S dX7_cross_28 rfl ?_
            refine g_iconst (pc := 29) (v := (3 : Int32)) S dX7_cross_29 (by decide) ?_
            refine g_icmp_lt (pc := 30) (tgt := 35) S dX7_cross_30 (by decide) hyp (fun hyp => ?_) (fun hyp => ?_)
            · refine g_iload_n (pc := 35) 3 S dX7_cross_35 rfl ?_
              refine g_iconst (pc := 36) (v := (2 : Int32)) S dX7_cross_36 (by decide) ?_
              refine g_icmp_ne (pc := 37) (tgt := 44) S dX7_cross_37 (by decide) hyp (fun hyp => ?_) (fun hyp => ?_)
              · refine g_iconst (pc := 40) (v := (0 : Int32)) S dX7_cross_40 (by decide) ?_
                refine g_goto (pc := 41) (tgt := 47) S dX7_cross_41 (by decide) ?_
                exact g_sub [0, 1, 2, 3] rfl (o_X7_cross_b47 S k0 a1 a2 a3 (0 : Int32) h hyp F)
              · refine g_iload_n (pc := 44) 3 S dX7_cross_44 rfl ?_
                refine g_iconst (pc := 45) (v := (1 : Int32)) S dX7_cross_45 (by decide) ?_
                refine g_iadd (pc := 46) S dX7_cross_46 ?_
                exact g_sub [0, 1, 2, 3] rfl (o_X7_cross_b47 S k0 a1 a2 a3 (a3 + (1 : Int32)) h hyp F)
            · refine g_iconst (pc := 33) (v := (0 : Int32)) S dX7_cross_33 (by decide) ?_
              have hyp := Option.some.inj hyp
              subst hyp
              exact g_iret (pc := 34) S F dX7_cross_34
        · refine g_iconst (pc := 33) (v := (0 : Int32)) S dX7_cross_33 (by decide) ?_
          have hyp := Option.some.inj hyp
          subst hyp
          exact g_iret (pc := 34) S F dX7_cross_34
    · refine g_iconst (pc := 33) (v := (0 : Int32)) S dX7_cross_33 (by decide) ?_
      have hyp := Option.some.inj hyp
      subst hyp
      exact g_iret (pc := 34) S F dX7_cross_34
theorem m_X7_cross {l : Launch} {D : va_G} {cT : Nat → ClassId} {aD : Nat → Nat} {c0 : Nat} (k0 : kd c0 (10 + 7, 0)) (a1 : Int32) (a2 : Int32) (a3 : Int32) (h : Hp) {o : Int32} (hyp : s_X7_cross c0 a1 a2 a3 h = some o) : Ok l D cT aD yX7_cross cX7_cross 8 (some .int) 0 0 [.ref (aD c0), .int a1, .int a2, .int a3] h (some (.int o)) h :=
  Ok.of (by decide +kernel) rfl (Nat.le_of_ble_eq_true rfl) (fun K e1 e2 e3 e4 S F => by subst e1; exact o_X7_cross S k0 a1 a2 a3 h hyp F)
-- BoundProofs$Rows entry (II)I
noncomputable def s_X7_entry (c0 : Nat) (a1 : Int32) (a2 : Int32) (h : Hp) : Option (Int32) :=
  if a1 < 0 then (some (0 : Int32))
  else (if a1 < (h.1 c0 4) then (if a2 < 0 then (some (0 : Int32))
  else (if a2 < (3 : Int32) then (ldI h (c0 + 1) 36 ((a1 * (3 : Int32)) + a2) fun x1 =>
  some x1)
  else (some (0 : Int32))))
  else (some (0 : Int32)))
set_option maxRecDepth 100000 in
set_option maxHeartbeats 4000000 in
theorem o_X7_entry {K : gK} (S : Cx K RX7 cX7_entry 3 0 0) {c0 : Nat} (k0 : kd c0 (10 + 7, 0)) (a1 : Int32) (a2 : Int32) (h : Hp) {o : Int32} (hyp : s_X7_entry c0 a1 a2 h = some o) (F : Rt K (some .int) (some (.int o)) h) : Go K 0 [(0, .ref (ad K c0)), (1, .int a1), (2, .int a2)] [] h := by
  unfold s_X7_entry at hyp
  refine g_iload_n (pc := 0) 1 S dX7_entry_0 rfl ?_
  refine g_if_lt (pc := 1) (tgt := 21) S dX7_entry_1 (by decide) hyp (fun hyp => ?_) (fun hyp => ?_)
  · refine g_iconst (pc := 21) (v := (0 : Int32)) S dX7_entry_21 (by decide) ?_
    have hyp := Option.some.inj hyp
    subst hyp
    exact g_iret (pc := 22) S F dX7_entry_22
  · refine g_iload_n (pc := 4) 1 S dX7_entry_4 rfl ?_
    refine g_aload_n (pc := 5) 0 S dX7_entry_5 rfl ?_
    refine g_getI (pc := 6) S dX7_entry_6 fl_X7_26 k0 ?_
    refine g_icmp_ge (pc := 9) (tgt := 21) S dX7_entry_9 (by decide) hyp (fun hyp => ?_) (fun hyp => ?_)
    · refine g_iload_n (pc := 12) 2 S dX7_entry_12 rfl ?_
      refine g_if_lt (pc := 13) (tgt := 21) S dX7_entry_13 (by decide) hyp (fun hyp => ?_) (fun hyp => ?_)
      · refine g_iconst (pc := 21) (v := (0 : Int32)) S dX7_entry_21 (by decide) ?_
        have hyp := Option.some.inj hyp
        subst hyp
        exact g_iret (pc := 22) S F dX7_entry_22
      · refine g_iload_n (pc := 16) 2 S dX7_entry_16 rfl ?_
        refine g_iconst (pc := 17) (v := (3 : Int32)) S dX7_entry_17 (by decide) ?_
        refine g_icmp_lt (pc := 18) (tgt := 23) S dX7_entry_18 (by decide) hyp (fun hyp => ?_) (fun hyp => ?_)
        · refine g_aload_n (pc := 23) 0 S dX7_entry_23 rfl ?_
          refine g_getR (pc := 24) S dX7_entry_24 fl_X7_9 k0 ?_
          refine g_iload_n (pc := 27) 1 S dX7_entry_27 rfl ?_
          refine g_iconst (pc := 28) (v := (3 : Int32)) S dX7_entry_28 (by decide) ?_
          refine g_imul (pc := 29) S dX7_entry_29 ?_
          refine g_iload_n (pc := 30) 2 S dX7_entry_30 rfl ?_
          refine g_iadd (pc := 31) S dX7_entry_31 ?_
          refine g_iald (pc := 32) S dX7_entry_32 (kf_7_1 k0) hyp (fun x1 hyp => ?_)
          have hyp := Option.some.inj hyp
          subst hyp
          exact g_iret (pc := 33) S F dX7_entry_33
        · refine g_iconst (pc := 21) (v := (0 : Int32)) S dX7_entry_21 (by decide) ?_
          have hyp := Option.some.inj hyp
          subst hyp
          exact g_iret (pc := 22) S F dX7_entry_22
    · refine g_iconst (pc := 21) (v := (0 : Int32)) S dX7_entry_21 (by decide) ?_
      have hyp := Option.some.inj hyp
      subst hyp
      exact g_iret (pc := 22) S F dX7_entry_22
theorem m_X7_entry {l : Launch} {D : va_G} {cT : Nat → ClassId} {aD : Nat → Nat} {c0 : Nat} (k0 : kd c0 (10 + 7, 0)) (a1 : Int32) (a2 : Int32) (h : Hp) {o : Int32} (hyp : s_X7_entry c0 a1 a2 h = some o) : Ok l D cT aD yX7_entry cX7_entry 3 (some .int) 0 0 [.ref (aD c0), .int a1, .int a2] h (some (.int o)) h :=
  Ok.of (by decide +kernel) rfl (Nat.le_of_ble_eq_true rfl) (fun K e1 e2 e3 e4 S F => by subst e1; exact o_X7_entry S k0 a1 a2 h hyp F)
-- BoundProofs$Circuit setFactors (IIII)Z
noncomputable def s_X0_setFactors_l32 (c0 : Nat) (a5 : Int32) (h : Hp) : Option ((Int32) ⊕ ((Unit) ⊕ (Int32 × Hp))) :=
  if a5 < (h.1 c0 3) then (ldI h (c0 + 7) 4 a5 fun x5 =>
  if x5 = 0 then (some (.inr (.inr ((0 : Int32), h))))
  else (lt (a5 + (1 : Int32)) fun v5_6 =>
  some (.inl v5_6)))
  else (some (.inr (.inl ())))
noncomputable def s_X0_setFactors (c0 : Nat) (a1 : Int32) (a2 : Int32) (a3 : Int32) (a4 : Int32) (h : Hp) : Option (Int32 × Hp) :=
  stI h (c0 + 7) 4 (0 : Int32) a1 fun h1 =>
  stI h1 (c0 + 7) 4 (1 : Int32) a2 fun h2 =>
  stI h2 (c0 + 7) 4 (2 : Int32) a3 fun h3 =>
  stI h3 (c0 + 7) 4 (3 : Int32) a4 fun h4 =>
  (iter (fun s : Int32 => s_X0_setFactors_l32 c0 s h4) FUEL (0 : Int32)).bind (Sum.elim (fun t8 => some ((1 : Int32), h4))
  (fun t9 => some t9))
set_option maxRecDepth 100000 in
set_option maxHeartbeats 4000000 in
theorem o_X0_setFactors_l32 {K : gK} (S : Cx K RX0 cX0_setFactors 6 0 0) {c0 : Nat} (k0 : kd c0 (10 + 0, 0)) (a5 : Int32) (h : Hp) {o : (Int32) ⊕ ((Unit) ⊕ (Int32 × Hp))} (hyp : s_X0_setFactors_l32 c0 a5 h = some o) (hin : ∀ s', o = .inl s' → Go K 32 [(0, .ref (ad K c0)), (5, .int s')] [] h) (hex0 : ∀ s', o = .inr (.inl s') → Go K 59 [] [] h) (hret : ∀ x', o = .inr (.inr x') → Rt K (some .boolean) (some (.int x'.1)) x'.2) : Go K 32 [(0, .ref (ad K c0)), (5, .int a5)] [] h := by
  unfold s_X0_setFactors_l32 at hyp
  refine g_iload (pc := 32) 1 S dX0_setFactors_32 rfl ?_
  refine g_aload_n (pc := 34) 0 S dX0_setFactors_34 rfl ?_
  refine g_getI (pc := 35) S dX0_setFactors_35 fl_X0_25 k0 ?_
  refine g_icmp_ge (pc := 38) (tgt := 59) S dX0_setFactors_38 (by decide) hyp (fun hyp => ?_) (fun hyp => ?_)
  · refine g_aload_n (pc := 41) 0 S dX0_setFactors_41 rfl ?_
    refine g_getR (pc := 42) S dX0_setFactors_42 fl_X0_22 k0 ?_
    refine g_iload (pc := 45) 1 S dX0_setFactors_45 rfl ?_
    refine g_iald (pc := 47) S dX0_setFactors_47 (kf_0_7 k0) hyp (fun x5 hyp => ?_)
    refine g_if_ne (pc := 48) (tgt := 53) S dX0_setFactors_48 (by decide) hyp (fun hyp => ?_) (fun hyp => ?_)
    · refine g_iconst (pc := 51) (v := (0 : Int32)) S dX0_setFactors_51 (by decide) ?_
      have hyp := Option.some.inj hyp
      subst hyp
      exact g_zret (pc := 52) S (hret ((0 : Int32), h) rfl) dX0_setFactors_52 (Or.inl rfl)
    · refine g_iinc (pc := 53) (v := (a5 + (1 : Int32))) (lv' := [(5, .int (a5 + (1 : Int32))), (0, .ref (ad K c0))]) 1 S dX0_setFactors_53 rfl (by rfl) (by decide) rfl ?_
      refine g_lti (C := fun v5_6 => Go K (53 + 3) [(5, .int v5_6), (0, .ref (ad K c0))] [] h) hyp (fun v5_6 hyp => ?_)
      refine g_goto (pc := 56) (tgt := 32) S dX0_setFactors_56 (by decide) ?_
      have hyp := Option.some.inj hyp
      subst hyp
      exact g_sub [1, 0] rfl (hin v5_6 rfl)
  · have hyp := Option.some.inj hyp
    subst hyp
    exact g_sub [] rfl (hex0 () rfl)
set_option maxRecDepth 100000 in
set_option maxHeartbeats 4000000 in
theorem o_X0_setFactors {K : gK} (S : Cx K RX0 cX0_setFactors 6 0 0) {c0 : Nat} (k0 : kd c0 (10 + 0, 0)) (a1 : Int32) (a2 : Int32) (a3 : Int32) (a4 : Int32) (h : Hp) {o : Int32 × Hp} (hyp : s_X0_setFactors c0 a1 a2 a3 a4 h = some o) (F : Rt K (some .boolean) (some (.int o.1)) o.2) : Go K 0 [(0, .ref (ad K c0)), (1, .int a1), (2, .int a2), (3, .int a3), (4, .int a4)] [] h := by
  unfold s_X0_setFactors at hyp
  refine g_aload_n (pc := 0) 0 S dX0_setFactors_0 rfl ?_
  refine g_getR (pc := 1) S dX0_setFactors_1 fl_X0_22 k0 ?_
  refine g_iconst (pc := 4) (v := (0 : Int32)) S dX0_setFactors_4 (by decide) ?_
  refine g_iload_n (pc := 5) 1 S dX0_setFactors_5 rfl ?_
  refine g_iast (pc := 6) S dX0_setFactors_6 (kf_0_7 k0) hyp (fun h1 hyp => ?_)
  refine g_aload_n (pc := 7) 0 S dX0_setFactors_7 rfl ?_
  refine g_getR (pc := 8) S dX0_setFactors_8 fl_X0_22 k0 ?_
  refine g_iconst (pc := 11) (v := (1 : Int32)) S dX0_setFactors_11 (by decide) ?_
  refine g_iload_n (pc := 12) 2 S dX0_setFactors_12 rfl ?_
  refine g_iast (pc := 13) S dX0_setFactors_13 (kf_0_7 k0) hyp (fun h2 hyp => ?_)
  refine g_aload_n (pc := 14) 0 S dX0_setFactors_14 rfl ?_
  refine g_getR (pc := 15) S dX0_setFactors_15 fl_X0_22 k0 ?_
  refine g_iconst (pc := 18) (v := (2 : Int32)) S dX0_setFactors_18 (by decide) ?_
  refine g_iload_n (pc := 19) 3 S dX0_setFactors_19 rfl ?_
  refine g_iast (pc := 20) S dX0_setFactors_20 (kf_0_7 k0) hyp (fun h3 hyp => ?_)
  refine g_aload_n (pc := 21) 0 S dX0_setFactors_21 rfl ?_
  refine g_getR (pc := 22) S dX0_setFactors_22 fl_X0_22 k0 ?_
  refine g_iconst (pc := 25) (v := (3 : Int32)) S dX0_setFactors_25 (by decide) ?_
  refine g_iload (pc := 26) 4 S dX0_setFactors_26 rfl ?_
  refine g_iast (pc := 28) S dX0_setFactors_28 (kf_0_7 k0) hyp (fun h4 hyp => ?_)
  refine g_iconst (pc := 29) (v := (0 : Int32)) S dX0_setFactors_29 (by decide) ?_
  refine g_istore (pc := 30) (lv' := [(5, .int (0 : Int32)), (0, .ref (ad K c0)), (1, .int a1), (2, .int a2), (3, .int a3), (4, .int a4)]) S dX0_setFactors_30 (by decide) rfl ?_
  refine g_bind hyp (fun e7 he7 hyp => ?_)
  refine g_sub [1, 0] rfl (g_loop (f := fun s : Int32 => s_X0_setFactors_l32 c0 s h4) (ρ := (Unit) ⊕ (Int32 × Hp)) (Hd := fun s : Int32 => Go K 32 [(0, .ref (ad K c0)), (5, .int s)] [] h4) (Ex := fun e7 => (∀ t, e7 = .inl t → Go K 59 [] [] h4) ∧ (∀ t, e7 = .inr t → Rt K (some .boolean) (some (.int t.1)) t.2)) (fun s o h1 h2 h3 => o_X0_setFactors_l32 S k0 s h4 h1 h2 (fun t q => (h3 _ q).1 t rfl) (fun t q => (h3 _ q).2 t rfl)) FUEL _ e7 he7 ?_)
  refine ⟨?_, ?_⟩
  · intro t8 q
    subst q
    try dsimp only [Sum.elim] at hyp
    refine g_iconst (pc := 59) (v := (1 : Int32)) S dX0_setFactors_59 (by decide) ?_
    have hyp := Option.some.inj hyp
    subst hyp
    exact g_zret (pc := 60) S F dX0_setFactors_60 (Or.inr rfl)
  · intro t9 q
    subst q
    try dsimp only [Sum.elim] at hyp
    have hyp := Option.some.inj hyp
    subst hyp
    exact F
theorem m_X0_setFactors {l : Launch} {D : va_G} {cT : Nat → ClassId} {aD : Nat → Nat} {c0 : Nat} (k0 : kd c0 (10 + 0, 0)) (a1 : Int32) (a2 : Int32) (a3 : Int32) (a4 : Int32) (h : Hp) {o : Int32 × Hp} (hyp : s_X0_setFactors c0 a1 a2 a3 a4 h = some o) : Ok l D cT aD yX0_setFactors cX0_setFactors 6 (some .boolean) 0 0 [.ref (aD c0), .int a1, .int a2, .int a3, .int a4] h (some (.int o.1)) o.2 :=
  Ok.of (by decide +kernel) rfl (Nat.le_of_ble_eq_true rfl) (fun K e1 e2 e3 e4 S F => by subst e1; exact o_X0_setFactors S k0 a1 a2 a3 a4 h hyp F)
-- BoundProofs$Circuit dependTwo (II)Z
noncomputable def s_X0_dependTwo_l43 (c0 : Nat) (a1 : Int32) (a2 : Int32) (a3 : Int32) (h : Hp) : Option ((Int32 × Hp) ⊕ ((Hp) ⊕ (Int32 × Hp))) :=
  if a3 < (3 : Int32) then ((s_X7_entry (c0 + 1) a1 a3 h).bind fun y4 =>
  if y4 = 0 then (lt (a3 + (1 : Int32)) fun v3_5 =>
  some (.inl (v3_5, h)))
  else ((s_X7_entry (c0 + 1) a2 a3 h).bind fun y6 =>
  (s_X7_entry (c0 + 1) a1 a3 h).bind fun y7 =>
  (s_X0_setFactors c0 y6 (-y7) (0 : Int32) (0 : Int32) h).bind fun y8 =>
  ckB y8.1 <|
  some (.inr (.inr (y8.1, y8.2)))))
  else (some (.inr (.inl h)))
noncomputable def s_X0_dependTwo (c0 : Nat) (a1 : Int32) (a2 : Int32) (h : Hp) : Option (Int32 × Hp) :=
  (s_X7_cross (c0 + 1) a1 a2 (0 : Int32) h).bind fun y1 =>
  if y1 = 0 then ((s_X7_cross (c0 + 1) a1 a2 (1 : Int32) h).bind fun y2 =>
  if y2 = 0 then ((s_X7_cross (c0 + 1) a1 a2 (2 : Int32) h).bind fun y3 =>
  if y3 = 0 then ((iter (fun s : Int32 × Hp => s_X0_dependTwo_l43 c0 a1 a2 s.1 s.2) FUEL ((0 : Int32), h)).bind (Sum.elim (fun t10 => some ((0 : Int32), t10))
  (fun t11 => some t11)))
  else (some ((0 : Int32), h)))
  else (some ((0 : Int32), h)))
  else (some ((0 : Int32), h))
set_option maxRecDepth 100000 in
set_option maxHeartbeats 4000000 in
theorem o_X0_dependTwo_l43 {K : gK} (S : Cx K RX0 cX0_dependTwo 4 1 31) {c0 : Nat} (k0 : kd c0 (10 + 0, 0)) (a1 : Int32) (a2 : Int32) (a3 : Int32) (h : Hp) {o : (Int32 × Hp) ⊕ ((Hp) ⊕ (Int32 × Hp))} (hyp : s_X0_dependTwo_l43 c0 a1 a2 a3 h = some o) (hin : ∀ s', o = .inl s' → Go K 43 [(0, .ref (ad K c0)), (1, .int a1), (2, .int a2), (3, .int s'.1)] [] s'.2) (hex0 : ∀ s', o = .inr (.inl s') → Go K 92 [] [] s') (hret : ∀ x', o = .inr (.inr x') → Rt K (some .boolean) (some (.int x'.1)) x'.2) : Go K 43 [(0, .ref (ad K c0)), (1, .int a1), (2, .int a2), (3, .int a3)] [] h := by
  unfold s_X0_dependTwo_l43 at hyp
  refine g_iload_n (pc := 43) 3 S dX0_dependTwo_43 rfl ?_
  refine g_iconst (pc := 44) (v := (3 : Int32)) S dX0_dependTwo_44 (by decide) ?_
  refine g_icmp_ge (pc := 45) (tgt := 92) S dX0_dependTwo_45 (by decide) hyp (fun hyp => ?_) (fun hyp => ?_)
  · refine g_aload_n (pc := 48) 0 S dX0_dependTwo_48 rfl ?_
    refine g_getR (pc := 49) S dX0_dependTwo_49 fl_X0_12 k0 ?_
    refine g_iload_n (pc := 52) 1 S dX0_dependTwo_52 rfl ?_
    refine g_iload_n (pc := 53) 3 S dX0_dependTwo_53 rfl ?_
    refine g_bind hyp (fun y4 hy4 hyp => ?_)
    refine g_callV (pc := 54) (As := [.int a1, .int a3]) (rest := []) S dX0_dependTwo_54 (kf_0_1 k0) rfl tw_551 tw_552 tw_553 mw_X7_entry (m_X7_entry (kf_0_1 k0) a1 a3 h hy4) rfl rfl (Nat.le_of_ble_eq_true rfl) (Nat.le_of_ble_eq_true rfl) (Nat.le_of_ble_eq_true rfl) ?_
    refine g_if_eq (pc := 57) (tgt := 86) S dX0_dependTwo_57 (by decide) hyp (fun hyp => ?_) (fun hyp => ?_)
    · refine g_iinc (pc := 86) (v := (a3 + (1 : Int32))) (lv' := [(3, .int (a3 + (1 : Int32))), (0, .ref (ad K c0)), (1, .int a1), (2, .int a2)]) 3 S dX0_dependTwo_86 rfl (by rfl) (by decide) rfl ?_
      refine g_lti (C := fun v3_5 => Go K (86 + 3) [(3, .int v3_5), (0, .ref (ad K c0)), (1, .int a1), (2, .int a2)] [] h) hyp (fun v3_5 hyp => ?_)
      refine g_goto (pc := 89) (tgt := 43) S dX0_dependTwo_89 (by decide) ?_
      have hyp := Option.some.inj hyp
      subst hyp
      exact g_sub [1, 2, 3, 0] rfl (hin (v3_5, h) rfl)
    · refine g_aload_n (pc := 60) 0 S dX0_dependTwo_60 rfl ?_
      refine g_aload_n (pc := 61) 0 S dX0_dependTwo_61 rfl ?_
      refine g_getR (pc := 62) S dX0_dependTwo_62 fl_X0_12 k0 ?_
      refine g_iload_n (pc := 65) 2 S dX0_dependTwo_65 rfl ?_
      refine g_iload_n (pc := 66) 3 S dX0_dependTwo_66 rfl ?_
      refine g_bind hyp (fun y6 hy6 hyp => ?_)
      refine g_callV (pc := 67) (As := [.int a2, .int a3]) (rest := [.ref (ad K c0)]) S dX0_dependTwo_67 (kf_0_1 k0) rfl tw_551 tw_552 tw_553 mw_X7_entry (m_X7_entry (kf_0_1 k0) a2 a3 h hy6) rfl rfl (Nat.le_of_ble_eq_true rfl) (Nat.le_of_ble_eq_true rfl) (Nat.le_of_ble_eq_true rfl) ?_
      refine g_aload_n (pc := 70) 0 S dX0_dependTwo_70 rfl ?_
      refine g_getR (pc := 71) S dX0_dependTwo_71 fl_X0_12 k0 ?_
      refine g_iload_n (pc := 74) 1 S dX0_dependTwo_74 rfl ?_
      refine g_iload_n (pc := 75) 3 S dX0_dependTwo_75 rfl ?_
      refine g_bind hyp (fun y7 hy7 hyp => ?_)
      refine g_callV (pc := 76) (As := [.int a1, .int a3]) (rest := [.int y6, .ref (ad K c0)]) S dX0_dependTwo_76 (kf_0_1 k0) rfl tw_551 tw_552 tw_553 mw_X7_entry (m_X7_entry (kf_0_1 k0) a1 a3 h hy7) rfl rfl (Nat.le_of_ble_eq_true rfl) (Nat.le_of_ble_eq_true rfl) (Nat.le_of_ble_eq_true rfl) ?_
      refine g_ineg (pc := 79) S dX0_dependTwo_79 ?_
      refine g_iconst (pc := 80) (v := (0 : Int32)) S dX0_dependTwo_80 (by decide) ?_
      refine g_iconst (pc := 81) (v := (0 : Int32)) S dX0_dependTwo_81 (by decide) ?_
      refine g_bind hyp (fun y8 hy8 hyp => ?_)
      refine g_callV (pc := 82) (As := [.int y6, .int (-y7), .int (0 : Int32), .int (0 : Int32)]) (rest := []) S dX0_dependTwo_82 k0 rfl tw_555 tw_556 tw_12 mw_X0_setFactors (m_X0_setFactors k0 y6 (-y7) (0 : Int32) (0 : Int32) h hy8) rfl rfl (Nat.le_of_ble_eq_true rfl) (Nat.le_of_ble_eq_true rfl) (Nat.le_of_ble_eq_true rfl) ?_
      refine g_ckB hyp (fun hz hyp => ?_)
      have hyp := Option.some.inj hyp
      subst hyp
      exact g_zret (pc := 85) S (hret (y8.1, y8.2) rfl) dX0_dependTwo_85 hz
  · have hyp := Option.some.inj hyp
    subst hyp
    exact g_sub [] rfl (hex0 h rfl)
set_option maxRecDepth 100000 in
set_option maxHeartbeats 4000000 in
theorem o_X0_dependTwo {K : gK} (S : Cx K RX0 cX0_dependTwo 4 1 31) {c0 : Nat} (k0 : kd c0 (10 + 0, 0)) (a1 : Int32) (a2 : Int32) (h : Hp) {o : Int32 × Hp} (hyp : s_X0_dependTwo c0 a1 a2 h = some o) (F : Rt K (some .boolean) (some (.int o.1)) o.2) : Go K 0 [(0, .ref (ad K c0)), (1, .int a1), (2, .int a2)] [] h := by
  unfold s_X0_dependTwo at hyp
  refine g_aload_n (pc := 0) 0 S dX0_dependTwo_0 rfl ?_
  refine g_getR (pc := 1) S dX0_dependTwo_1 fl_X0_12 k0 ?_
  refine g_iload_n (pc := 4) 1 S dX0_dependTwo_4 rfl ?_
  refine g_iload_n (pc := 5) 2 S dX0_dependTwo_5 rfl ?_
  refine g_iconst (pc := 6) (v := (0 : Int32)) S dX0_dependTwo_6 (by decide) ?_
  refine g_bind hyp (fun y1 hy1 hyp => ?_)
  refine g_callV (pc := 7) (As := [.int a1, .int a2, .int (0 : Int32)]) (rest := []) S dX0_dependTwo_7 (kf_0_1 k0) rfl tw_547 tw_548 tw_549 mw_X7_cross (m_X7_cross (kf_0_1 k0) a1 a2 (0 : Int32) h hy1) rfl rfl (Nat.le_of_ble_eq_true rfl) (Nat.le_of_ble_eq_true rfl) (Nat.le_of_ble_eq_true rfl) ?_
  refine g_if_ne (pc := 10) (tgt := 39) S dX0_dependTwo_10 (by decide) hyp (fun hyp => ?_) (fun hyp => ?_)
  · refine g_aload_n (pc := 13) 0 S dX0_dependTwo_13 rfl ?_
    refine g_getR (pc := 14) S dX0_dependTwo_14 fl_X0_12 k0 ?_
    refine g_iload_n (pc := 17) 1 S dX0_dependTwo_17 rfl ?_
    refine g_iload_n (pc := 18) 2 S dX0_dependTwo_18 rfl ?_
    refine g_iconst (pc := 19) (v := (1 : Int32)) S dX0_dependTwo_19 (by decide) ?_
    refine g_bind hyp (fun y2 hy2 hyp => ?_)
    refine g_callV (pc := 20) (As := [.int a1, .int a2, .int (1 : Int32)]) (rest := []) S dX0_dependTwo_20 (kf_0_1 k0) rfl tw_547 tw_548 tw_549 mw_X7_cross (m_X7_cross (kf_0_1 k0) a1 a2 (1 : Int32) h hy2) rfl rfl (Nat.le_of_ble_eq_true rfl) (Nat.le_of_ble_eq_true rfl) (Nat.le_of_ble_eq_true rfl) ?_
    refine g_if_ne (pc := 23) (tgt := 39) S dX0_dependTwo_23 (by decide) hyp (fun hyp => ?_) (fun hyp => ?_)
    · refine g_aload_n (pc := 26) 0 S dX0_dependTwo_26 rfl ?_
      refine g_getR (pc := 27) S dX0_dependTwo_27 fl_X0_12 k0 ?_
      refine g_iload_n (pc := 30) 1 S dX0_dependTwo_30 rfl ?_
      refine g_iload_n (pc := 31) 2 S dX0_dependTwo_31 rfl ?_
      refine g_iconst (pc := 32) (v := (2 : Int32)) S dX0_dependTwo_32 (by decide) ?_
      refine g_bind hyp (fun y3 hy3 hyp => ?_)
      refine g_callV (pc := 33) (As := [.int a1, .int a2, .int (2 : Int32)]) (rest := []) S dX0_dependTwo_33 (kf_0_1 k0) rfl tw_547 tw_548 tw_549 mw_X7_cross (m_X7_cross (kf_0_1 k0) a1 a2 (2 : Int32) h hy3) rfl rfl (Nat.le_of_ble_eq_true rfl) (Nat.le_of_ble_eq_true rfl) (Nat.le_of_ble_eq_true rfl) ?_
      refine g_if_eq (pc := 36) (tgt := 41) S dX0_dependTwo_36 (by decide) hyp (fun hyp => ?_) (fun hyp => ?_)
      · refine g_iconst (pc := 41) (v := (0 : Int32)) S dX0_dependTwo_41 (by decide) ?_
        refine g_istore_n (pc := 42) (lv' := [(3, .int (0 : Int32)), (0, .ref (ad K c0)), (1, .int a1), (2, .int a2)]) S dX0_dependTwo_42 rfl (by decide) rfl ?_
        refine g_bind hyp (fun e9 he9 hyp => ?_)
        refine g_sub [1, 2, 3, 0] rfl (g_loop (f := fun s : Int32 × Hp => s_X0_dependTwo_l43 c0 a1 a2 s.1 s.2) (ρ := (Hp) ⊕ (Int32 × Hp)) (Hd := fun s : Int32 × Hp => Go K 43 [(0, .ref (ad K c0)), (1, .int a1), (2, .int a2), (3, .int s.1)] [] s.2) (Ex := fun e9 => (∀ t, e9 = .inl t → Go K 92 [] [] t) ∧ (∀ t, e9 = .inr t → Rt K (some .boolean) (some (.int t.1)) t.2)) (fun s o h1 h2 h3 => o_X0_dependTwo_l43 S k0 a1 a2 s.1 s.2 h1 h2 (fun t q => (h3 _ q).1 t rfl) (fun t q => (h3 _ q).2 t rfl)) FUEL _ e9 he9 ?_)
        refine ⟨?_, ?_⟩
        · intro t10 q
          subst q
          try dsimp only [Sum.elim] at hyp
          refine g_iconst (pc := 92) (v := (0 : Int32)) S dX0_dependTwo_92 (by decide) ?_
          have hyp := Option.some.inj hyp
          subst hyp
          exact g_zret (pc := 93) S F dX0_dependTwo_93 (Or.inl rfl)
        · intro t11 q
          subst q
          try dsimp only [Sum.elim] at hyp
          have hyp := Option.some.inj hyp
          subst hyp
          exact F
      · refine g_iconst (pc := 39) (v := (0 : Int32)) S dX0_dependTwo_39 (by decide) ?_
        have hyp := Option.some.inj hyp
        subst hyp
        exact g_zret (pc := 40) S F dX0_dependTwo_40 (Or.inl rfl)
    · refine g_iconst (pc := 39) (v := (0 : Int32)) S dX0_dependTwo_39 (by decide) ?_
      have hyp := Option.some.inj hyp
      subst hyp
      exact g_zret (pc := 40) S F dX0_dependTwo_40 (Or.inl rfl)
  · refine g_iconst (pc := 39) (v := (0 : Int32)) S dX0_dependTwo_39 (by decide) ?_
    have hyp := Option.some.inj hyp
    subst hyp
    exact g_zret (pc := 40) S F dX0_dependTwo_40 (Or.inl rfl)
theorem m_X0_dependTwo {l : Launch} {D : va_G} {cT : Nat → ClassId} {aD : Nat → Nat} {c0 : Nat} (k0 : kd c0 (10 + 0, 0)) (a1 : Int32) (a2 : Int32) (h : Hp) {o : Int32 × Hp} (hyp : s_X0_dependTwo c0 a1 a2 h = some o) : Ok l D cT aD yX0_dependTwo cX0_dependTwo 4 (some .boolean) 1 31 [.ref (aD c0), .int a1, .int a2] h (some (.int o.1)) o.2 :=
  Ok.of (by decide +kernel) rfl (Nat.le_of_ble_eq_true rfl) (fun K e1 e2 e3 e4 S F => by subst e1; exact o_X0_dependTwo S k0 a1 a2 h hyp F)
-- BoundProofs$Circuit turn ()Z
noncomputable def s_X0_turn_b136 (c0 : Nat) (a1 : Int32) (a3 : Int32) (t0 : Int32) (t1 : Int32) (h : Hp) : Option ((Int32 × Int32 × Int32 × Hp) ⊕ (Int32 × Int32 × Hp)) :=
  lt (t1 ||| t0) fun v2_14 =>
  lt (a3 + (1 : Int32)) fun v3_15 =>
  some (.inl (a1, v2_14, v3_15, h))
noncomputable def s_X0_turn_b135 (c0 : Nat) (a1 : Int32) (a3 : Int32) (t0 : Int32) (h : Hp) : Option ((Int32 × Int32 × Int32 × Hp) ⊕ (Int32 × Int32 × Hp)) :=
  s_X0_turn_b136 c0 a1 a3 (0 : Int32) t0 h
noncomputable def s_X0_turn_b106 (c0 : Nat) (a2 : Int32) (a3 : Int32) (a4 : Int32) (t0 : Int32) (t1 : Int32) (h : Hp) : Option ((Int32 × Int32 × Int32 × Hp) ⊕ (Int32 × Int32 × Hp)) :=
  lt (t1 ||| t0) fun v1_11 =>
  ldI h ((c0 + 1) + 4) 12 a4 fun x12 =>
  if x12 = 0 then (ldI h (c0 + 7) 4 a3 fun x13 =>
  if x13 < 0 then (s_X0_turn_b136 c0 v1_11 a3 (1 : Int32) a2 h)
  else (s_X0_turn_b135 c0 v1_11 a3 a2 h))
  else (s_X0_turn_b135 c0 v1_11 a3 a2 h)
noncomputable def s_X0_turn_b105 (c0 : Nat) (a2 : Int32) (a3 : Int32) (a4 : Int32) (t0 : Int32) (h : Hp) : Option ((Int32 × Int32 × Int32 × Hp) ⊕ (Int32 × Int32 × Hp)) :=
  s_X0_turn_b106 c0 a2 a3 a4 (0 : Int32) t0 h
noncomputable def s_X0_turn_l16 (c0 : Nat) (a1 : Int32) (a2 : Int32) (a3 : Int32) (h : Hp) : Option ((Int32 × Int32 × Int32 × Hp) ⊕ (Int32 × Int32 × Hp)) :=
  if a3 < (h.1 c0 3) then (ldI h (c0 + 6) 4 a3 fun x3 =>
  ldI h (c0 + 7) 4 a3 fun x4 =>
  ldJ h ((c0 + 1) + 2) 12 x3 fun x5 =>
  lt (sJ h c0 4 ((h.2 c0 4) + ((x4).toInt64 * x5))) fun h6 =>
  ldI h6 ((c0 + 1) + 3) 12 x3 fun x7 =>
  ckB ((h6.1 c0 5) ||| x7) <|
  lt (sI h6 c0 5 ((h6.1 c0 5) ||| x7)) fun h8 =>
  ldI h8 ((c0 + 1) + 4) 12 x3 fun x9 =>
  if x9 = 0 then (ldI h8 (c0 + 7) 4 a3 fun x10 =>
  if 0 < x10 then (s_X0_turn_b106 c0 a2 a3 x3 (1 : Int32) a1 h8)
  else (s_X0_turn_b105 c0 a2 a3 x3 a1 h8))
  else (s_X0_turn_b105 c0 a2 a3 x3 a1 h8))
  else (some (.inr ((a1, a2, h))))
noncomputable def s_X0_turn_l172 (c0 : Nat) (a1 : Int32) (a2 : Int32) (a3 : Int32) (h : Hp) : Option ((Int32 × Hp) ⊕ (Hp)) :=
  if a3 < (h.1 c0 3) then (ldI h (c0 + 7) 4 a3 fun x18 =>
  stI h (c0 + 7) 4 a3 (-x18) fun h19 =>
  lt (a3 + (1 : Int32)) fun v3_20 =>
  some (.inl (v3_20, h19)))
  else (some (.inr (h)))
noncomputable def s_X0_turn_b199 (c0 : Nat) (a1 : Int32) (a2 : Int32) (h : Hp) : Option (Int32 × Hp) :=
  if a1 = 0 then (some ((1 : Int32), h))
  else (if a2 = 0 then (some ((1 : Int32), h))
  else (some ((0 : Int32), h)))
noncomputable def s_X0_turn_b161 (c0 : Nat) (a1 : Int32) (a2 : Int32) (h : Hp) : Option (Int32 × Hp) :=
  lt (sJ h c0 4 (-(h.2 c0 4))) fun h17 =>
  (iter (fun s : Int32 × Hp => s_X0_turn_l172 c0 a1 a2 s.1 s.2) FUEL ((0 : Int32), h17)).bind fun e21 =>
  s_X0_turn_b199 c0 a1 a2 e21
noncomputable def s_X0_turn (c0 : Nat)  (h : Hp) : Option (Int32 × Hp) :=
  lt (sJ h c0 4 (0 : Int64)) fun h1 =>
  lt (sI h1 c0 5 (0 : Int32)) fun h2 =>
  (iter (fun s : Int32 × Int32 × Int32 × Hp => s_X0_turn_l16 c0 s.1 s.2.1 s.2.2.1 s.2.2.2) FUEL ((0 : Int32), (0 : Int32), (0 : Int32), h2)).bind fun e16 =>
  if e16.2.1 = 0 then (if e16.1 = 0 then (if (0 : Int64) < (e16.2.2.2 c0 4) then (s_X0_turn_b161 c0 e16.1 e16.2.1 e16.2.2)
  else (s_X0_turn_b199 c0 e16.1 e16.2.1 e16.2.2))
  else (s_X0_turn_b199 c0 e16.1 e16.2.1 e16.2.2))
  else (s_X0_turn_b161 c0 e16.1 e16.2.1 e16.2.2)
set_option maxRecDepth 100000 in
set_option maxHeartbeats 4000000 in
theorem o_X0_turn_b136 {K : gK} (S : Cx K RX0 cX0_turn 5 0 0) {c0 : Nat} (k0 : kd c0 (10 + 0, 0)) (a1 : Int32) (a3 : Int32) (t0 : Int32) (t1 : Int32) (h : Hp) {o : (Int32 × Int32 × Int32 × Hp) ⊕ (Int32 × Int32 × Hp)} (hyp : s_X0_turn_b136 c0 a1 a3 t0 t1 h = some o) (hin : ∀ s', o = .inl s' → Go K 16 [(0, .ref (ad K c0)), (1, .int s'.1), (2, .int s'.2.1), (3, .int s'.2.2.1)] [] s'.2.2.2) (hex0 : ∀ s', o = .inr (s') → Go K 144 [(0, .ref (ad K c0)), (1, .int s'.1), (2, .int s'.2.1)] [] s'.2.2) : Go K 136 [(0, .ref (ad K c0)), (1, .int a1), (3, .int a3)] [.int t0, .int t1] h := by
  unfold s_X0_turn_b136 at hyp
  refine g_ior (pc := 136) S dX0_turn_136 ?_
  refine g_lti (C := fun v2_14 => Go K 137 [(0, .ref (ad K c0)), (1, .int a1), (3, .int a3)] [.int v2_14] h) hyp (fun v2_14 hyp => ?_)
  refine g_istore_n (pc := 137) (lv' := [(2, .int v2_14), (0, .ref (ad K c0)), (1, .int a1), (3, .int a3)]) S dX0_turn_137 rfl (by decide) rfl ?_
  refine g_iinc (pc := 138) (v := (a3 + (1 : Int32))) (lv' := [(3, .int (a3 + (1 : Int32))), (2, .int v2_14), (0, .ref (ad K c0)), (1, .int a1)]) 3 S dX0_turn_138 rfl (by rfl) (by decide) rfl ?_
  refine g_lti (C := fun v3_15 => Go K (138 + 3) [(3, .int v3_15), (2, .int v2_14), (0, .ref (ad K c0)), (1, .int a1)] [] h) hyp (fun v3_15 hyp => ?_)
  refine g_goto (pc := 141) (tgt := 16) S dX0_turn_141 (by decide) ?_
  have hyp := Option.some.inj hyp
  subst hyp
  exact g_sub [2, 3, 1, 0] rfl (hin (a1, v2_14, v3_15, h) rfl)
set_option maxRecDepth 100000 in
set_option maxHeartbeats 4000000 in
theorem o_X0_turn_b135 {K : gK} (S : Cx K RX0 cX0_turn 5 0 0) {c0 : Nat} (k0 : kd c0 (10 + 0, 0)) (a1 : Int32) (a3 : Int32) (t0 : Int32) (h : Hp) {o : (Int32 × Int32 × Int32 × Hp) ⊕ (Int32 × Int32 × Hp)} (hyp : s_X0_turn_b135 c0 a1 a3 t0 h = some o) (hin : ∀ s', o = .inl s' → Go K 16 [(0, .ref (ad K c0)), (1, .int s'.1), (2, .int s'.2.1), (3, .int s'.2.2.1)] [] s'.2.2.2) (hex0 : ∀ s', o = .inr (s') → Go K 144 [(0, .ref (ad K c0)), (1, .int s'.1), (2, .int s'.2.1)] [] s'.2.2) : Go K 135 [(0, .ref (ad K c0)), (1, .int a1), (3, .int a3)] [.int t0] h := by
  unfold s_X0_turn_b135 at hyp
  refine g_iconst (pc := 135) (v := (0 : Int32)) S dX0_turn_135 (by decide) ?_
  exact g_sub [0, 1, 2] rfl (o_X0_turn_b136 S k0 a1 a3 (0 : Int32) t0 h hyp hin hex0)
set_option maxRecDepth 100000 in
set_option maxHeartbeats 4000000 in
theorem o_X0_turn_b106 {K : gK} (S : Cx K RX0 cX0_turn 5 0 0) {c0 : Nat} (k0 : kd c0 (10 + 0, 0)) (a2 : Int32) (a3 : Int32) (a4 : Int32) (t0 : Int32) (t1 : Int32) (h : Hp) {o : (Int32 × Int32 × Int32 × Hp) ⊕ (Int32 × Int32 × Hp)} (hyp : s_X0_turn_b106 c0 a2 a3 a4 t0 t1 h = some o) (hin : ∀ s', o = .inl s' → Go K 16 [(0, .ref (ad K c0)), (1, .int s'.1), (2, .int s'.2.1), (3, .int s'.2.2.1)] [] s'.2.2.2) (hex0 : ∀ s', o = .inr (s') → Go K 144 [(0, .ref (ad K c0)), (1, .int s'.1), (2, .int s'.2.1)] [] s'.2.2) : Go K 106 [(0, .ref (ad K c0)), (2, .int a2), (3, .int a3), (4, .int a4)] [.int t0, .int t1] h := by
  unfold s_X0_turn_b106 at hyp
  refine g_ior (pc := 106) S dX0_turn_106 ?_
  refine g_lti (C := fun v1_11 => Go K 107 [(0, .ref (ad K c0)), (2, .int a2), (3, .int a3), (4, .int a4)] [.int v1_11] h) hyp (fun v1_11 hyp => ?_)
  refine g_istore_n (pc := 107) (lv' := [(1, .int v1_11), (0, .ref (ad K c0)), (2, .int a2), (3, .int a3), (4, .int a4)]) S dX0_turn_107 rfl (by decide) rfl ?_
  refine g_iload_n (pc := 108) 2 S dX0_turn_108 rfl ?_
  refine g_aload_n (pc := 109) 1 S dX0_turn_109 rfl ?_
  refine g_getR (pc := 110) S dX0_turn_110 fl_X0_12 k0 ?_
  refine g_getR (pc := 113) S dX0_turn_113 fl_X0_81 (kf_0_1 k0) ?_
  refine g_iload (pc := 116) 4 S dX0_turn_116 rfl ?_
  refine g_zald (pc := 118) S dX0_turn_118 (kf_7_4 (kf_0_1 k0)) hyp (fun x12 hyp => ?_)
  refine g_if_ne (pc := 119) (tgt := 135) S dX0_turn_119 (by decide) hyp (fun hyp => ?_) (fun hyp => ?_)
  · refine g_aload_n (pc := 122) 1 S dX0_turn_122 rfl ?_
    refine g_getR (pc := 123) S dX0_turn_123 fl_X0_22 k0 ?_
    refine g_iload_n (pc := 126) 3 S dX0_turn_126 rfl ?_
    refine g_iald (pc := 127) S dX0_turn_127 (kf_0_7 k0) hyp (fun x13 hyp => ?_)
    refine g_if_ge (pc := 128) (tgt := 135) S dX0_turn_128 (by decide) hyp (fun hyp => ?_) (fun hyp => ?_)
    · refine g_iconst (pc := 131) (v := (1 : Int32)) S dX0_turn_131 (by decide) ?_
      refine g_goto (pc := 132) (tgt := 136) S dX0_turn_132 (by decide) ?_
      exact g_sub [1, 0, 3] rfl (o_X0_turn_b136 S k0 v1_11 a3 (1 : Int32) a2 h hyp hin hex0)
    · exact g_sub [1, 0, 3] rfl (o_X0_turn_b135 S k0 v1_11 a3 a2 h hyp hin hex0)
  · exact g_sub [1, 0, 3] rfl (o_X0_turn_b135 S k0 v1_11 a3 a2 h hyp hin hex0)
set_option maxRecDepth 100000 in
set_option maxHeartbeats 4000000 in
theorem o_X0_turn_b105 {K : gK} (S : Cx K RX0 cX0_turn 5 0 0) {c0 : Nat} (k0 : kd c0 (10 + 0, 0)) (a2 : Int32) (a3 : Int32) (a4 : Int32) (t0 : Int32) (h : Hp) {o : (Int32 × Int32 × Int32 × Hp) ⊕ (Int32 × Int32 × Hp)} (hyp : s_X0_turn_b105 c0 a2 a3 a4 t0 h = some o) (hin : ∀ s', o = .inl s' → Go K 16 [(0, .ref (ad K c0)), (1, .int s'.1), (2, .int s'.2.1), (3, .int s'.2.2.1)] [] s'.2.2.2) (hex0 : ∀ s', o = .inr (s') → Go K 144 [(0, .ref (ad K c0)), (1, .int s'.1), (2, .int s'.2.1)] [] s'.2.2) : Go K 105 [(0, .ref (ad K c0)), (2, .int a2), (3, .int a3), (4, .int a4)] [.int t0] h := by
  unfold s_X0_turn_b105 at hyp
  refine g_iconst (pc := 105) (v := (0 : Int32)) S dX0_turn_105 (by decide) ?_
  exact g_sub [0, 1, 2, 3] rfl (o_X0_turn_b106 S k0 a2 a3 a4 (0 : Int32) t0 h hyp hin hex0)
set_option maxRecDepth 100000 in
set_option maxHeartbeats 4000000 in
theorem o_X0_turn_l16 {K : gK} (S : Cx K RX0 cX0_turn 5 0 0) {c0 : Nat} (k0 : kd c0 (10 + 0, 0)) (a1 : Int32) (a2 : Int32) (a3 : Int32) (h : Hp) {o : (Int32 × Int32 × Int32 × Hp) ⊕ (Int32 × Int32 × Hp)} (hyp : s_X0_turn_l16 c0 a1 a2 a3 h = some o) (hin : ∀ s', o = .inl s' → Go K 16 [(0, .ref (ad K c0)), (1, .int s'.1), (2, .int s'.2.1), (3, .int s'.2.2.1)] [] s'.2.2.2) (hex0 : ∀ s', o = .inr (s') → Go K 144 [(0, .ref (ad K c0)), (1, .int s'.1), (2, .int s'.2.1)] [] s'.2.2) : Go K 16 [(0, .ref (ad K c0)), (1, .int a1), (2, .int a2), (3, .int a3)] [] h := by
  unfold s_X0_turn_l16 at hyp
  refine g_iload_n (pc := 16) 3 S dX0_turn_16 rfl ?_
  refine g_aload_n (pc := 17) 0 S dX0_turn_17 rfl ?_
  refine g_getI (pc := 18) S dX0_turn_18 fl_X0_25 k0 ?_
  refine g_icmp_ge (pc := 21) (tgt := 144) S dX0_turn_21 (by decide) hyp (fun hyp => ?_) (fun hyp => ?_)
  · refine g_aload_n (pc := 24) 0 S dX0_turn_24 rfl ?_
    refine g_getR (pc := 25) S dX0_turn_25 fl_X0_18 k0 ?_
    refine g_iload_n (pc := 28) 3 S dX0_turn_28 rfl ?_
    refine g_iald (pc := 29) S dX0_turn_29 (kf_0_6 k0) hyp (fun x3 hyp => ?_)
    refine g_istore (pc := 30) (lv' := [(4, .int x3), (0, .ref (ad K c0)), (1, .int a1), (2, .int a2), (3, .int a3)]) S dX0_turn_30 (by decide) rfl ?_
    refine g_aload_n (pc := 32) 1 S dX0_turn_32 rfl ?_
    refine g_dup (pc := 33) S dX0_turn_33 rfl ?_
    refine g_getJ (pc := 34) S dX0_turn_34 fl_X0_29 k0 ?_
    refine g_aload_n (pc := 37) 1 S dX0_turn_37 rfl ?_
    refine g_getR (pc := 38) S dX0_turn_38 fl_X0_22 k0 ?_
    refine g_iload_n (pc := 41) 4 S dX0_turn_41 rfl ?_
    refine g_iald (pc := 42) S dX0_turn_42 (kf_0_7 k0) hyp (fun x4 hyp => ?_)
    refine g_i2l (pc := 43) S dX0_turn_43 ?_
    refine g_aload_n (pc := 44) 1 S dX0_turn_44 rfl ?_
    refine g_getR (pc := 45) S dX0_turn_45 fl_X0_12 k0 ?_
    refine g_getR (pc := 48) S dX0_turn_48 fl_X0_74 (kf_0_1 k0) ?_
    refine g_iload (pc := 51) 0 S dX0_turn_51 rfl ?_
    refine g_lald (pc := 53) S dX0_turn_53 (kf_7_2 (kf_0_1 k0)) hyp (fun x5 hyp => ?_)
    refine g_lmul (pc := 54) S dX0_turn_54 ?_
    refine g_ladd (pc := 55) S dX0_turn_55 ?_
    refine g_putJ (pc := 56) S dX0_turn_56 fl_X0_29 k0 hyp (fun h6 hyp => ?_)
    refine g_aload_n (pc := 59) 1 S dX0_turn_59 rfl ?_
    refine g_dup (pc := 60) S dX0_turn_60 rfl ?_
    refine g_getI (pc := 61) S dX0_turn_61 fl_X0_33 k0 ?_
    refine g_aload_n (pc := 64) 1 S dX0_turn_64 rfl ?_
    refine g_getR (pc := 65) S dX0_turn_65 fl_X0_12 k0 ?_
    refine g_getR (pc := 68) S dX0_turn_68 fl_X0_78 (kf_0_1 k0) ?_
    refine g_iload (pc := 71) 0 S dX0_turn_71 rfl ?_
    refine g_zald (pc := 73) S dX0_turn_73 (kf_7_3 (kf_0_1 k0)) hyp (fun x7 hyp => ?_)
    refine g_ior (pc := 74) S dX0_turn_74 ?_
    refine g_ckB hyp (fun hz hyp => ?_)
    refine g_putZ (pc := 75) S dX0_turn_75 fl_X0_33 k0 hz hyp (fun h8 hyp => ?_)
    refine g_iload_n (pc := 78) 2 S dX0_turn_78 rfl ?_
    refine g_aload_n (pc := 79) 1 S dX0_turn_79 rfl ?_
    refine g_getR (pc := 80) S dX0_turn_80 fl_X0_12 k0 ?_
    refine g_getR (pc := 83) S dX0_turn_83 fl_X0_81 (kf_0_1 k0) ?_
    refine g_iload (pc := 86) 0 S dX0_turn_86 rfl ?_
    refine g_zald (pc := 88) S dX0_turn_88 (kf_7_4 (kf_0_1 k0)) hyp (fun x9 hyp => ?_)
    refine g_if_ne (pc := 89) (tgt := 105) S dX0_turn_89 (by decide) hyp (fun hyp => ?_) (fun hyp => ?_)
    · refine g_aload_n (pc := 92) 1 S dX0_turn_92 rfl ?_
      refine g_getR (pc := 93) S dX0_turn_93 fl_X0_22 k0 ?_
      refine g_iload_n (pc := 96) 4 S dX0_turn_96 rfl ?_
      refine g_iald (pc := 97) S dX0_turn_97 (kf_0_7 k0) hyp (fun x10 hyp => ?_)
      refine g_if_le (pc := 98) (tgt := 105) S dX0_turn_98 (by decide) hyp (fun hyp => ?_) (fun hyp => ?_)
      · refine g_iconst (pc := 101) (v := (1 : Int32)) S dX0_turn_101 (by decide) ?_
        refine g_goto (pc := 102) (tgt := 106) S dX0_turn_102 (by decide) ?_
        exact g_sub [1, 3, 4, 0] rfl (o_X0_turn_b106 S k0 a2 a3 x3 (1 : Int32) a1 h8 hyp hin hex0)
      · exact g_sub [1, 3, 4, 0] rfl (o_X0_turn_b105 S k0 a2 a3 x3 a1 h8 hyp hin hex0)
    · exact g_sub [1, 3, 4, 0] rfl (o_X0_turn_b105 S k0 a2 a3 x3 a1 h8 hyp hin hex0)
  · have hyp := Option.some.inj hyp
    subst hyp
    exact g_sub [0, 1, 2] rfl (hex0 (a1, a2, h) rfl)
set_option maxRecDepth 100000 in
set_option maxHeartbeats 4000000 in
theorem o_X0_turn_l172 {K : gK} (S : Cx K RX0 cX0_turn 5 0 0) {c0 : Nat} (k0 : kd c0 (10 + 0, 0)) (a1 : Int32) (a2 : Int32) (a3 : Int32) (h : Hp) {o : (Int32 × Hp) ⊕ (Hp)} (hyp : s_X0_turn_l172 c0 a1 a2 a3 h = some o) (hin : ∀ s', o = .inl s' → Go K 172 [(0, .ref (ad K c0)), (1, .int a1), (2, .int a2), (3, .int s'.1)] [] s'.2) (hex0 : ∀ s', o = .inr (s') → Go K 199 [(1, .int a1), (2, .int a2)] [] s') : Go K 172 [(0, .ref (ad K c0)), (1, .int a1), (2, .int a2), (3, .int a3)] [] h := by
  unfold s_X0_turn_l172 at hyp
  refine g_iload_n (pc := 172) 3 S dX0_turn_172 rfl ?_
  refine g_aload_n (pc := 173) 0 S dX0_turn_173 rfl ?_
  refine g_getI (pc := 174) S dX0_turn_174 fl_X0_25 k0 ?_
  refine g_icmp_ge (pc := 177) (tgt := 199) S dX0_turn_177 (by decide) hyp (fun hyp => ?_) (fun hyp => ?_)
  · refine g_aload_n (pc := 180) 0 S dX0_turn_180 rfl ?_
    refine g_getR (pc := 181) S dX0_turn_181 fl_X0_22 k0 ?_
    refine g_iload_n (pc := 184) 3 S dX0_turn_184 rfl ?_
    refine g_aload_n (pc := 185) 0 S dX0_turn_185 rfl ?_
    refine g_getR (pc := 186) S dX0_turn_186 fl_X0_22 k0 ?_
    refine g_iload_n (pc := 189) 3 S dX0_turn_189 rfl ?_
    refine g_iald (pc := 190) S dX0_turn_190 (kf_0_7 k0) hyp (fun x18 hyp => ?_)
    refine g_ineg (pc := 191) S dX0_turn_191 ?_
    refine g_iast (pc := 192) S dX0_turn_192 (kf_0_7 k0) hyp (fun h19 hyp => ?_)
    refine g_iinc (pc := 193) (v := (a3 + (1 : Int32))) (lv' := [(3, .int (a3 + (1 : Int32))), (0, .ref (ad K c0)), (1, .int a1), (2, .int a2)]) 3 S dX0_turn_193 rfl (by rfl) (by decide) rfl ?_
    refine g_lti (C := fun v3_20 => Go K (193 + 3) [(3, .int v3_20), (0, .ref (ad K c0)), (1, .int a1), (2, .int a2)] [] h19) hyp (fun v3_20 hyp => ?_)
    refine g_goto (pc := 196) (tgt := 172) S dX0_turn_196 (by decide) ?_
    have hyp := Option.some.inj hyp
    subst hyp
    exact g_sub [1, 2, 3, 0] rfl (hin (v3_20, h19) rfl)
  · have hyp := Option.some.inj hyp
    subst hyp
    exact g_sub [1, 2] rfl (hex0 h rfl)
set_option maxRecDepth 100000 in
set_option maxHeartbeats 4000000 in
theorem o_X0_turn_b199 {K : gK} (S : Cx K RX0 cX0_turn 5 0 0) {c0 : Nat} (k0 : kd c0 (10 + 0, 0)) (a1 : Int32) (a2 : Int32) (h : Hp) {o : Int32 × Hp} (hyp : s_X0_turn_b199 c0 a1 a2 h = some o) (F : Rt K (some .boolean) (some (.int o.1)) o.2) : Go K 199 [(1, .int a1), (2, .int a2)] [] h := by
  unfold s_X0_turn_b199 at hyp
  refine g_iload_n (pc := 199) 0 S dX0_turn_199 rfl ?_
  refine g_if_eq (pc := 200) (tgt := 207) S dX0_turn_200 (by decide) hyp (fun hyp => ?_) (fun hyp => ?_)
  · refine g_iconst (pc := 207) (v := (1 : Int32)) S dX0_turn_207 (by decide) ?_
    refine g_goto (pc := 208) (tgt := 212) S dX0_turn_208 (by decide) ?_
    have hyp := Option.some.inj hyp
    subst hyp
    exact g_zret (pc := 212) S F dX0_turn_212 (Or.inr rfl)
  · refine g_iload_n (pc := 203) 1 S dX0_turn_203 rfl ?_
    refine g_if_ne (pc := 204) (tgt := 211) S dX0_turn_204 (by decide) hyp (fun hyp => ?_) (fun hyp => ?_)
    · refine g_iconst (pc := 207) (v := (1 : Int32)) S dX0_turn_207 (by decide) ?_
      refine g_goto (pc := 208) (tgt := 212) S dX0_turn_208 (by decide) ?_
      have hyp := Option.some.inj hyp
      subst hyp
      exact g_zret (pc := 212) S F dX0_turn_212 (Or.inr rfl)
    · refine g_iconst (pc := 211) (v := (0 : Int32)) S dX0_turn_211 (by decide) ?_
      have hyp := Option.some.inj hyp
      subst hyp
      exact g_zret (pc := 212) S F dX0_turn_212 (Or.inl rfl)
set_option maxRecDepth 100000 in
set_option maxHeartbeats 4000000 in
theorem o_X0_turn_b161 {K : gK} (S : Cx K RX0 cX0_turn 5 0 0) {c0 : Nat} (k0 : kd c0 (10 + 0, 0)) (a1 : Int32) (a2 : Int32) (h : Hp) {o : Int32 × Hp} (hyp : s_X0_turn_b161 c0 a1 a2 h = some o) (F : Rt K (some .boolean) (some (.int o.1)) o.2) : Go K 161 [(0, .ref (ad K c0)), (1, .int a1), (2, .int a2)] [] h := by
  unfold s_X0_turn_b161 at hyp
  refine g_aload_n (pc := 161) 0 S dX0_turn_161 rfl ?_
  refine g_aload_n (pc := 162) 0 S dX0_turn_162 rfl ?_
  refine g_getJ (pc := 163) S dX0_turn_163 fl_X0_29 k0 ?_
  refine g_lneg (pc := 166) S dX0_turn_166 ?_
  refine g_putJ (pc := 167) S dX0_turn_167 fl_X0_29 k0 hyp (fun h17 hyp => ?_)
  refine g_iconst (pc := 170) (v := (0 : Int32)) S dX0_turn_170 (by decide) ?_
  refine g_istore_n (pc := 171) (lv' := [(3, .int (0 : Int32)), (0, .ref (ad K c0)), (1, .int a1), (2, .int a2)]) S dX0_turn_171 rfl (by decide) rfl ?_
  refine g_bind hyp (fun e21 he21 hyp => ?_)
  refine g_sub [1, 2, 3, 0] rfl (g_loop (f := fun s : Int32 × Hp => s_X0_turn_l172 c0 a1 a2 s.1 s.2) (ρ := Hp) (Hd := fun s : Int32 × Hp => Go K 172 [(0, .ref (ad K c0)), (1, .int a1), (2, .int a2), (3, .int s.1)] [] s.2) (Ex := fun e21 => Go K 199 [(1, .int a1), (2, .int a2)] [] e21) (fun s o h1 h2 h3 => o_X0_turn_l172 S k0 a1 a2 s.1 s.2 h1 h2 h3) FUEL _ e21 he21 ?_)
  exact g_sub [0, 1] rfl (o_X0_turn_b199 S k0 a1 a2 e21 hyp F)
set_option maxRecDepth 100000 in
set_option maxHeartbeats 4000000 in
theorem o_X0_turn {K : gK} (S : Cx K RX0 cX0_turn 5 0 0) {c0 : Nat} (k0 : kd c0 (10 + 0, 0))  (h : Hp) {o : Int32 × Hp} (hyp : s_X0_turn c0  h = some o) (F : Rt K (some .boolean) (some (.int o.1)) o.2) : Go K 0 [(0, .ref (ad K c0))] [] h := by
  unfold s_X0_turn at hyp
  refine g_aload_n (pc := 0) 0 S dX0_turn_0 rfl ?_
  refine g_lconst (pc := 1) (v := (0 : Int64)) S dX0_turn_1 (by decide) ?_
  refine g_putJ (pc := 2) S dX0_turn_2 fl_X0_29 k0 hyp (fun h1 hyp => ?_)
  refine g_aload_n (pc := 5) 0 S dX0_turn_5 rfl ?_
  refine g_iconst (pc := 6) (v := (0 : Int32)) S dX0_turn_6 (by decide) ?_
  refine g_putZ (pc := 7) S dX0_turn_7 fl_X0_33 k0 (Or.inl rfl) hyp (fun h2 hyp => ?_)
  refine g_iconst (pc := 10) (v := (0 : Int32)) S dX0_turn_10 (by decide) ?_
  refine g_istore_n (pc := 11) (lv' := [(1, .int (0 : Int32)), (0, .ref (ad K c0))]) S dX0_turn_11 rfl (by decide) rfl ?_
  refine g_iconst (pc := 12) (v := (0 : Int32)) S dX0_turn_12 (by decide) ?_
  refine g_istore_n (pc := 13) (lv' := [(2, .int (0 : Int32)), (1, .int (0 : Int32)), (0, .ref (ad K c0))]) S dX0_turn_13 rfl (by decide) rfl ?_
  refine g_iconst (pc := 14) (v := (0 : Int32)) S dX0_turn_14 (by decide) ?_
  refine g_istore_n (pc := 15) (lv' := [(3, .int (0 : Int32)), (2, .int (0 : Int32)), (1, .int (0 : Int32)), (0, .ref (ad K c0))]) S dX0_turn_15 rfl (by decide) rfl ?_
  refine g_bind hyp (fun e16 he16 hyp => ?_)
  refine g_sub [3, 2, 1, 0] rfl (g_loop (f := fun s : Int32 × Int32 × Int32 × Hp => s_X0_turn_l16 c0 s.1 s.2.1 s.2.2.1 s.2.2.2) (ρ := Int32 × Int32 × Hp) (Hd := fun s : Int32 × Int32 × Int32 × Hp => Go K 16 [(0, .ref (ad K c0)), (1, .int s.1), (2, .int s.2.1), (3, .int s.2.2.1)] [] s.2.2.2) (Ex := fun e16 => Go K 144 [(0, .ref (ad K c0)), (1, .int e16.1), (2, .int e16.2.1)] [] e16.2.2) (fun s o h1 h2 h3 => o_X0_turn_l16 S k0 s.1 s.2.1 s.2.2.1 s.2.2.2 h1 h2 h3) FUEL _ e16 he16 ?_)
  refine g_iload_n (pc := 144) 2 S dX0_turn_144 rfl ?_
  refine g_if_ne (pc := 145) (tgt := 161) S dX0_turn_145 (by decide) hyp (fun hyp => ?_) (fun hyp => ?_)
  · refine g_iload_n (pc := 148) 1 S dX0_turn_148 rfl ?_
    refine g_if_ne (pc := 149) (tgt := 199) S dX0_turn_149 (by decide) hyp (fun hyp => ?_) (fun hyp => ?_)
    · refine g_aload_n (pc := 152) 0 S dX0_turn_152 rfl ?_
      refine g_getJ (pc := 153) S dX0_turn_153 fl_X0_29 k0 ?_
      refine g_lconst (pc := 156) (v := (0 : Int64)) S dX0_turn_156 (by decide) ?_
      refine g_lcmp_le (pc := 157) (tgt := 199) S dX0_turn_157 dX0_turn_158 (by decide) hyp (fun hyp => ?_) (fun hyp => ?_)
      · exact g_sub [0, 1, 2] rfl (o_X0_turn_b161 S k0 e16.1 e16.2.1 e16.2.2 hyp F)
      · exact g_sub [1, 2] rfl (o_X0_turn_b199 S k0 e16.1 e16.2.1 e16.2.2 hyp F)
    · exact g_sub [1, 2] rfl (o_X0_turn_b199 S k0 e16.1 e16.2.1 e16.2.2 hyp F)
  · exact g_sub [0, 1, 2] rfl (o_X0_turn_b161 S k0 e16.1 e16.2.1 e16.2.2 hyp F)
theorem m_X0_turn {l : Launch} {D : va_G} {cT : Nat → ClassId} {aD : Nat → Nat} {c0 : Nat} (k0 : kd c0 (10 + 0, 0))  (h : Hp) {o : Int32 × Hp} (hyp : s_X0_turn c0  h = some o) : Ok l D cT aD yX0_turn cX0_turn 5 (some .boolean) 0 0 [.ref (aD c0)] h (some (.int o.1)) o.2 :=
  Ok.of (by decide +kernel) rfl (Nat.le_of_ble_eq_true rfl) (fun K e1 e2 e3 e4 S F => by subst e1; exact o_X0_turn S k0  h hyp F)
