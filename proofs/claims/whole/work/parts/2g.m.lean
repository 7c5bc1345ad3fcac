-- BoundProofs range (II)I
noncomputable def s_X9_range_b41 (c0 : Nat) (a1 : Int32) (t0 : Int32) (h : Hp) : Option (Int32 × Hp) :=
  (s_X5_entry (c0 + 1) a1 (0 : Int32) h).bind fun y3 =>
  (s_X5_entry (c0 + 1) a1 (1 : Int32) h).bind fun y4 =>
  (s_X5_entry (c0 + 1) a1 (2 : Int32) h).bind fun y5 =>
  (s_X4_seek (c0 + 41) (c0 + 31) (t0 * y3) (t0 * y4) (t0 * y5) h).bind fun y6 =>
  if (y6.1 (c0 + 41) 0) = 0 then (some ((-9 : Int32), y6))
  else ((s_X9_find c0 ((t0).toInt64 * (y6.2 (c0 + 41) 1)) (y6.2 (c0 + 41) 2) y6).bind fun y7 =>
  if (y7.1 (c0 + 41) 3) = 0 then (some ((1 : Int32), y7))
  else (some ((0 : Int32), y7)))
noncomputable def s_X9_range (c0 : Nat) (a1 : Int32) (a2 : Int32) (h : Hp) : Option (Int32 × Hp) :=
  (s_X5_hasForm (c0 + 1) a1 h).bind fun y1 =>
  if y1 = 0 then (some ((-1 : Int32), h))
  else (if a2 < 0 then (some ((-1 : Int32), h))
  else (if (1 : Int32) < a2 then (some ((-1 : Int32), h))
  else ((s_X9_satisfiable c0  h).bind fun y2 =>
  if y2 = 0 then (some ((-2 : Int32), h))
  else (if a2 = 0 then (s_X9_range_b41 c0 a1 (-1 : Int32) h)
  else (s_X9_range_b41 c0 a1 (1 : Int32) h)))))
set_option maxRecDepth 100000 in
set_option maxHeartbeats 4000000 in
theorem o_X9_range_b41 {K : gK} (S : Cx K RX9 cX9_range 4 4 117) {c0 : Nat} (k0 : kd c0 (10 + 9, 0)) (a1 : Int32) (t0 : Int32) (h : Hp) {o : Int32 × Hp} (hyp : s_X9_range_b41 c0 a1 t0 h = some o) (F : Rt K (some .int) (some (.int o.1)) o.2) : Go K 41 [(0, .ref (ad K c0)), (1, .int a1)] [.int t0] h := by
  unfold s_X9_range_b41 at hyp
  refine g_istore_n (pc := 41) (lv' := [(3, .int t0), (0, .ref (ad K c0)), (1, .int a1)]) S dX9_range_41 rfl (by decide) rfl ?_
  refine g_aload_n (pc := 42) 1 S dX9_range_42 rfl ?_
  refine g_getR (pc := 43) S dX9_range_43 fl_X9_56 k0 ?_
  refine g_aload_n (pc := 46) 1 S dX9_range_46 rfl ?_
  refine g_getR (pc := 47) S dX9_range_47 fl_X9_45 k0 ?_
  refine g_iload_n (pc := 50) 0 S dX9_range_50 rfl ?_
  refine g_aload_n (pc := 51) 1 S dX9_range_51 rfl ?_
  refine g_getR (pc := 52) S dX9_range_52 fl_X9_12 k0 ?_
  refine g_iload_n (pc := 55) 2 S dX9_range_55 rfl ?_
  refine g_iconst (pc := 56) (v := (0 : Int32)) S dX9_range_56 (by decide) ?_
  refine g_bind hyp (fun y3 hy3 hyp => ?_)
  refine g_callV (pc := 57) (As := [.int a1, .int (0 : Int32)]) (rest := [.int t0, .ref (ad K (c0 + 31)), .ref (ad K (c0 + 41))]) S dX9_range_57 (kf_9_1 k0) rfl tw_516 tw_517 tw_518 mw_X5_entry (m_X5_entry (kf_9_1 k0) a1 (0 : Int32) h hy3) rfl rfl (Nat.le_of_ble_eq_true rfl) (Nat.le_of_ble_eq_true rfl) (Nat.le_of_ble_eq_true rfl) ?_
  refine g_imul (pc := 60) S dX9_range_60 ?_
  refine g_iload_n (pc := 61) 0 S dX9_range_61 rfl ?_
  refine g_aload_n (pc := 62) 1 S dX9_range_62 rfl ?_
  refine g_getR (pc := 63) S dX9_range_63 fl_X9_12 k0 ?_
  refine g_iload_n (pc := 66) 2 S dX9_range_66 rfl ?_
  refine g_iconst (pc := 67) (v := (1 : Int32)) S dX9_range_67 (by decide) ?_
  refine g_bind hyp (fun y4 hy4 hyp => ?_)
  refine g_callV (pc := 68) (As := [.int a1, .int (1 : Int32)]) (rest := [.int t0, .int (t0 * y3), .ref (ad K (c0 + 31)), .ref (ad K (c0 + 41))]) S dX9_range_68 (kf_9_1 k0) rfl tw_516 tw_517 tw_518 mw_X5_entry (m_X5_entry (kf_9_1 k0) a1 (1 : Int32) h hy4) rfl rfl (Nat.le_of_ble_eq_true rfl) (Nat.le_of_ble_eq_true rfl) (Nat.le_of_ble_eq_true rfl) ?_
  refine g_imul (pc := 71) S dX9_range_71 ?_
  refine g_iload_n (pc := 72) 0 S dX9_range_72 rfl ?_
  refine g_aload_n (pc := 73) 1 S dX9_range_73 rfl ?_
  refine g_getR (pc := 74) S dX9_range_74 fl_X9_12 k0 ?_
  refine g_iload_n (pc := 77) 2 S dX9_range_77 rfl ?_
  refine g_iconst (pc := 78) (v := (2 : Int32)) S dX9_range_78 (by decide) ?_
  refine g_bind hyp (fun y5 hy5 hyp => ?_)
  refine g_callV (pc := 79) (As := [.int a1, .int (2 : Int32)]) (rest := [.int t0, .int (t0 * y4), .int (t0 * y3), .ref (ad K (c0 + 31)), .ref (ad K (c0 + 41))]) S dX9_range_79 (kf_9_1 k0) rfl tw_516 tw_517 tw_518 mw_X5_entry (m_X5_entry (kf_9_1 k0) a1 (2 : Int32) h hy5) rfl rfl (Nat.le_of_ble_eq_true rfl) (Nat.le_of_ble_eq_true rfl) (Nat.le_of_ble_eq_true rfl) ?_
  refine g_imul (pc := 82) S dX9_range_82 ?_
  refine g_bind hyp (fun y6 hy6 hyp => ?_)
  refine g_callV (pc := 83) (As := [.ref (ad K (c0 + 31)), .int (t0 * y3), .int (t0 * y4), .int (t0 * y5)]) (rest := []) S dX9_range_83 (kf_9_41 k0) rfl tw_689 tw_690 tw_691 mw_X4_seek (m_X4_seek (kf_9_41 k0) (kf_9_31 k0) (t0 * y3) (t0 * y4) (t0 * y5) h hy6) rfl rfl (Nat.le_of_ble_eq_true rfl) (Nat.le_of_ble_eq_true rfl) (Nat.le_of_ble_eq_true rfl) ?_
  refine g_aload_n (pc := 86) 1 S dX9_range_86 rfl ?_
  refine g_getR (pc := 87) S dX9_range_87 fl_X9_56 k0 ?_
  refine g_getI (pc := 90) S dX9_range_90 fl_X9_240 (kf_9_41 k0) ?_
  refine g_if_ne (pc := 93) (tgt := 99) S dX9_range_93 (by decide) hyp (fun hyp => ?_) (fun hyp => ?_)
  · refine g_bipush (pc := 96) (v := (-9 : Int32)) S dX9_range_96 (by decide) ?_
    have hyp := Option.some.inj hyp
    subst hyp
    exact g_iret (pc := 98) S F dX9_range_98
  · refine g_aload_n (pc := 99) 1 S dX9_range_99 rfl ?_
    refine g_iload_n (pc := 100) 0 S dX9_range_100 rfl ?_
    refine g_i2l (pc := 101) S dX9_range_101 ?_
    refine g_aload_n (pc := 102) 1 S dX9_range_102 rfl ?_
    refine g_getR (pc := 103) S dX9_range_103 fl_X9_56 k0 ?_
    refine g_getJ (pc := 106) S dX9_range_106 fl_X9_218 (kf_9_41 k0) ?_
    refine g_lmul (pc := 109) S dX9_range_109 ?_
    refine g_aload_n (pc := 110) 1 S dX9_range_110 rfl ?_
    refine g_getR (pc := 111) S dX9_range_111 fl_X9_56 k0 ?_
    refine g_getJ (pc := 114) S dX9_range_114 fl_X9_221 (kf_9_41 k0) ?_
    refine g_bind hyp (fun y7 hy7 hyp => ?_)
    refine g_callV (pc := 117) (As := [.long ((t0).toInt64 * (y6.2 (c0 + 41) 1)), .long (y6.2 (c0 + 41) 2)]) (rest := []) S dX9_range_117 k0 rfl tw_676 tw_677 tw_19 mw_X9_find (m_X9_find k0 ((t0).toInt64 * (y6.2 (c0 + 41) 1)) (y6.2 (c0 + 41) 2) y6 hy7) rfl rfl (Nat.le_of_ble_eq_true rfl) (Nat.le_of_ble_eq_true rfl) (Nat.le_of_ble_eq_true rfl) ?_
    refine g_aload_n (pc := 120) 1 S dX9_range_120 rfl ?_
    refine g_getR (pc := 121) S dX9_range_121 fl_X9_56 k0 ?_
    refine g_getI (pc := 124) S dX9_range_124 fl_X9_228 (kf_9_41 k0) ?_
    refine g_if_eq (pc := 127) (tgt := 134) S dX9_range_127 (by decide) hyp (fun hyp => ?_) (fun hyp => ?_)
    · refine g_iconst (pc := 134) (v := (1 : Int32)) S dX9_range_134 (by decide) ?_
      have hyp := Option.some.inj hyp
      subst hyp
      exact g_iret (pc := 135) S F dX9_range_135
    · refine g_iconst (pc := 130) (v := (0 : Int32)) S dX9_range_130 (by decide) ?_
      refine g_goto (pc := 131) (tgt := 135) S dX9_range_131 (by decide) ?_
      have hyp := Option.some.inj hyp
      subst hyp
      exact g_iret (pc := 135) S F dX9_range_135
set_option maxRecDepth 100000 in
set_option maxHeartbeats 4000000 in
theorem o_X9_range {K : gK} (S : Cx K RX9 cX9_range 4 4 117) {c0 : Nat} (k0 : kd c0 (10 + 9, 0)) (a1 : Int32) (a2 : Int32) (h : Hp) {o : Int32 × Hp} (hyp : s_X9_range c0 a1 a2 h = some o) (F : Rt K (some .int) (some (.int o.1)) o.2) : Go K 0 [(0, .ref (ad K c0)), (1, .int a1), (2, .int a2)] [] h := by
  unfold s_X9_range at hyp
  refine g_aload_n (pc := 0) 0 S dX9_range_0 rfl ?_
  refine g_getR (pc := 1) S dX9_range_1 fl_X9_12 k0 ?_
  refine g_iload_n (pc := 4) 1 S dX9_range_4 rfl ?_
  refine g_bind hyp (fun y1 hy1 hyp => ?_)
  refine g_callV (pc := 5) (As := [.int a1]) (rest := []) S dX9_range_5 (kf_9_1 k0) rfl tw_585 tw_521 tw_522 mw_X5_hasForm (m_X5_hasForm (kf_9_1 k0) a1 h hy1) rfl rfl (Nat.le_of_ble_eq_true rfl) (Nat.le_of_ble_eq_true rfl) (Nat.le_of_ble_eq_true rfl) ?_
  refine g_if_eq (pc := 8) (tgt := 20) S dX9_range_8 (by decide) hyp (fun hyp => ?_) (fun hyp => ?_)
  · refine g_iconst (pc := 20) (v := (-1 : Int32)) S dX9_range_20 (by decide) ?_
    have hyp := Option.some.inj hyp
    subst hyp
    exact g_iret (pc := 21) S F dX9_range_21
  · refine g_iload_n (pc := 11) 2 S dX9_range_11 rfl ?_
    refine g_if_lt (pc := 12) (tgt := 20) S dX9_range_12 (by decide) hyp (fun hyp => ?_) (fun hyp => ?_)
    · refine g_iconst (pc := 20) (v := (-1 : Int32)) S dX9_range_20 (by decide) ?_
      have hyp := Option.some.inj hyp
      subst hyp
      exact g_iret (pc := 21) S F dX9_range_21
    · refine g_iload_n (pc := 15) 2 S dX9_range_15 rfl ?_
      refine g_iconst (pc := 16) (v := (1 : Int32)) S dX9_range_16 (by decide) ?_
      refine g_icmp_le (pc := 17) (tgt := 22) S dX9_range_17 (by decide) hyp (fun hyp => ?_) (fun hyp => ?_)
      · refine g_iconst (pc := 20) (v := (-1 : Int32)) S dX9_range_20 (by decide) ?_
        have hyp := Option.some.inj hyp
        subst hyp
        exact g_iret (pc := 21) S F dX9_range_21
      · refine g_aload_n (pc := 22) 0 S dX9_range_22 rfl ?_
        refine g_bind hyp (fun y2 hy2 hyp => ?_)
        refine g_callV (pc := 23) (As := []) (rest := []) S dX9_range_23 k0 rfl tw_620 tw_621 tw_16 mw_X9_satisfiable (m_X9_satisfiable k0  h hy2) rfl rfl (Nat.le_of_ble_eq_true rfl) (Nat.le_of_ble_eq_true rfl) (Nat.le_of_ble_eq_true rfl) ?_
        refine g_if_ne (pc := 26) (tgt := 32) S dX9_range_26 (by decide) hyp (fun hyp => ?_) (fun hyp => ?_)
        · refine g_bipush (pc := 29) (v := (-2 : Int32)) S dX9_range_29 (by decide) ?_
          have hyp := Option.some.inj hyp
          subst hyp
          exact g_iret (pc := 31) S F dX9_range_31
        · refine g_iload_n (pc := 32) 2 S dX9_range_32 rfl ?_
          refine g_if_ne (pc := 33) (tgt := 40) S dX9_range_33 (by decide) hyp (fun hyp => ?_) (fun hyp => ?_)
          · refine g_iconst (pc := 36) (v := (-1 : Int32)) S dX9_range_36 (by decide) ?_
            refine g_goto (pc := 37) (tgt := 41) S dX9_range_37 (by decide) ?_
            exact g_sub [0, 1] rfl (o_X9_range_b41 S k0 a1 (-1 : Int32) h hyp F)
          · refine g_iconst (pc := 40) (v := (1 : Int32)) S dX9_range_40 (by decide) ?_
            exact g_sub [0, 1] rfl (o_X9_range_b41 S k0 a1 (1 : Int32) h hyp F)
theorem m_X9_range {l : Launch} {D : va_G} {cT : Nat → ClassId} {aD : Nat → Nat} {c0 : Nat} (k0 : kd c0 (10 + 9, 0)) (a1 : Int32) (a2 : Int32) (h : Hp) {o : Int32 × Hp} (hyp : s_X9_range c0 a1 a2 h = some o) : Ok l D cT aD yX9_range cX9_range 4 (some .int) 4 117 [.ref (aD c0), .int a1, .int a2] h (some (.int o.1)) o.2 :=
  Ok.of (by decide +kernel) rfl (Nat.le_of_ble_eq_true rfl) (fun K e1 e2 e3 e4 S F => by subst e1; exact o_X9_range S k0 a1 a2 h hyp F)
-- BoundProofs deny (III)V
noncomputable def s_X9_deny_b45 (c0 : Nat) (a1 : Int32) (a2 : Int32) (a3 : Int32) (h : Hp) : Option (Hp) :=
  if a2 = (3 : Int32) then ((s_X9_pushRow c0 a1 (0 : Int32) a3 h).bind fun y4 =>
  some y4)
  else (some h)
noncomputable def s_X9_deny_b33 (c0 : Nat) (a1 : Int32) (a2 : Int32) (a3 : Int32) (h : Hp) : Option (Hp) :=
  if a2 = (1 : Int32) then ((s_X9_pushRow c0 a1 (2 : Int32) a3 h).bind fun y3 =>
  s_X9_deny_b45 c0 a1 a2 a3 y3)
  else (s_X9_deny_b45 c0 a1 a2 a3 h)
noncomputable def s_X9_deny_b26 (c0 : Nat) (a1 : Int32) (a2 : Int32) (a3 : Int32) (h : Hp) : Option (Hp) :=
  (s_X9_pushRow c0 a1 (1 : Int32) a3 h).bind fun y2 =>
  s_X9_deny_b33 c0 a1 a2 a3 y2
noncomputable def s_X9_deny_b16 (c0 : Nat) (a1 : Int32) (a2 : Int32) (a3 : Int32) (h : Hp) : Option (Hp) :=
  if a2 = (2 : Int32) then (s_X9_deny_b26 c0 a1 a2 a3 h)
  else (if a2 = (4 : Int32) then (s_X9_deny_b26 c0 a1 a2 a3 h)
  else (s_X9_deny_b33 c0 a1 a2 a3 h))
noncomputable def s_X9_deny_b9 (c0 : Nat) (a1 : Int32) (a2 : Int32) (a3 : Int32) (h : Hp) : Option (Hp) :=
  (s_X9_pushRow c0 a1 (3 : Int32) a3 h).bind fun y1 =>
  s_X9_deny_b16 c0 a1 a2 a3 y1
noncomputable def s_X9_deny (c0 : Nat) (a1 : Int32) (a2 : Int32) (a3 : Int32) (h : Hp) : Option (Hp) :=
  if a2 = 0 then (s_X9_deny_b9 c0 a1 a2 a3 h)
  else (if a2 = (4 : Int32) then (s_X9_deny_b9 c0 a1 a2 a3 h)
  else (s_X9_deny_b16 c0 a1 a2 a3 h))
set_option maxRecDepth 100000 in
set_option maxHeartbeats 4000000 in
theorem o_X9_deny_b45 {K : gK} (S : Cx K RX9 cX9_deny 4 5 140) {c0 : Nat} (k0 : kd c0 (10 + 9, 0)) (a1 : Int32) (a2 : Int32) (a3 : Int32) (h : Hp) {o : Hp} (hyp : s_X9_deny_b45 c0 a1 a2 a3 h = some o) (F : Rt K none none o) : Go K 45 [(0, .ref (ad K c0)), (1, .int a1), (2, .int a2), (3, .int a3)] [] h := by
  unfold s_X9_deny_b45 at hyp
  refine g_iload_n (pc := 45) 2 S dX9_deny_45 rfl ?_
  refine g_iconst (pc := 46) (v := (3 : Int32)) S dX9_deny_46 (by decide) ?_
  refine g_icmp_ne (pc := 47) (tgt := 57) S dX9_deny_47 (by decide) hyp (fun hyp => ?_) (fun hyp => ?_)
  · refine g_aload_n (pc := 50) 0 S dX9_deny_50 rfl ?_
    refine g_iload_n (pc := 51) 1 S dX9_deny_51 rfl ?_
    refine g_iconst (pc := 52) (v := (0 : Int32)) S dX9_deny_52 (by decide) ?_
    refine g_iload_n (pc := 53) 3 S dX9_deny_53 rfl ?_
    refine g_bind hyp (fun y4 hy4 hyp => ?_)
    refine g_callV (pc := 54) (As := [.int a1, .int (0 : Int32), .int a3]) (rest := []) S dX9_deny_54 k0 rfl tw_513 tw_514 tw_10 mw_X9_pushRow (m_X9_pushRow k0 a1 (0 : Int32) a3 h hy4) rfl rfl (Nat.le_of_ble_eq_true rfl) (Nat.le_of_ble_eq_true rfl) (Nat.le_of_ble_eq_true rfl) ?_
    have hyp := Option.some.inj hyp
    subst hyp
    exact g_vret (pc := 57) S F dX9_deny_57
  · have hyp := Option.some.inj hyp
    subst hyp
    exact g_vret (pc := 57) S F dX9_deny_57
set_option maxRecDepth 100000 in
set_option maxHeartbeats 4000000 in
theorem o_X9_deny_b33 {K : gK} (S : Cx K RX9 cX9_deny 4 5 140) {c0 : Nat} (k0 : kd c0 (10 + 9, 0)) (a1 : Int32) (a2 : Int32) (a3 : Int32) (h : Hp) {o : Hp} (hyp : s_X9_deny_b33 c0 a1 a2 a3 h = some o) (F : Rt K none none o) : Go K 33 [(0, .ref (ad K c0)), (1, .int a1), (2, .int a2), (3, .int a3)] [] h := by
  unfold s_X9_deny_b33 at hyp
  refine g_iload_n (pc := 33) 2 S dX9_deny_33 rfl ?_
  refine g_iconst (pc := 34) (v := (1 : Int32)) S dX9_deny_34 (by decide) ?_
  refine g_icmp_ne (pc := 35) (tgt := 45) S dX9_deny_35 (by decide) hyp (fun hyp => ?_) (fun hyp => ?_)
  · refine g_aload_n (pc := 38) 0 S dX9_deny_38 rfl ?_
    refine g_iload_n (pc := 39) 1 S dX9_deny_39 rfl ?_
    refine g_iconst (pc := 40) (v := (2 : Int32)) S dX9_deny_40 (by decide) ?_
    refine g_iload_n (pc := 41) 3 S dX9_deny_41 rfl ?_
    refine g_bind hyp (fun y3 hy3 hyp => ?_)
    refine g_callV (pc := 42) (As := [.int a1, .int (2 : Int32), .int a3]) (rest := []) S dX9_deny_42 k0 rfl tw_513 tw_514 tw_10 mw_X9_pushRow (m_X9_pushRow k0 a1 (2 : Int32) a3 h hy3) rfl rfl (Nat.le_of_ble_eq_true rfl) (Nat.le_of_ble_eq_true rfl) (Nat.le_of_ble_eq_true rfl) ?_
    exact g_sub [0, 1, 2, 3] rfl (o_X9_deny_b45 S k0 a1 a2 a3 y3 hyp F)
  · exact g_sub [0, 1, 2, 3] rfl (o_X9_deny_b45 S k0 a1 a2 a3 h hyp F)
set_option maxRecDepth 100000 in
set_option maxHeartbeats 4000000 in
theorem o_X9_deny_b26 {K : gK} (S : Cx K RX9 cX9_deny 4 5 140) {c0 : Nat} (k0 : kd c0 (10 + 9, 0)) (a1 : Int32) (a2 : Int32) (a3 : Int32) (h : Hp) {o : Hp} (hyp : s_X9_deny_b26 c0 a1 a2 a3 h = some o) (F : Rt K none none o) : Go K 26 [(0, .ref (ad K c0)), (1, .int a1), (2, .int a2), (3, .int a3)] [] h := by
  unfold s_X9_deny_b26 at hyp
  refine g_aload_n (pc := 26) 0 S dX9_deny_26 rfl ?_
  refine g_iload_n (pc := 27) 1 S dX9_deny_27 rfl ?_
  refine g_iconst (pc := 28) (v := (1 : Int32)) S dX9_deny_28 (by decide) ?_
  refine g_iload_n (pc := 29) 3 S dX9_deny_29 rfl ?_
  refine g_bind hyp (fun y2 hy2 hyp => ?_)
  refine g_callV (pc := 30) (As := [.int a1, .int (1 : Int32), .int a3]) (rest := []) S dX9_deny_30 k0 rfl tw_513 tw_514 tw_10 mw_X9_pushRow (m_X9_pushRow k0 a1 (1 : Int32) a3 h hy2) rfl rfl (Nat.le_of_ble_eq_true rfl) (Nat.le_of_ble_eq_true rfl) (Nat.le_of_ble_eq_true rfl) ?_
  exact g_sub [0, 1, 2, 3] rfl (o_X9_deny_b33 S k0 a1 a2 a3 y2 hyp F)
set_option maxRecDepth 100000 in
set_option maxHeartbeats 4000000 in
theorem o_X9_deny_b16 {K : gK} (S : Cx K RX9 cX9_deny 4 5 140) {c0 : Nat} (k0 : kd c0 (10 + 9, 0)) (a1 : Int32) (a2 : Int32) (a3 : Int32) (h : Hp) {o : Hp} (hyp : s_X9_deny_b16 c0 a1 a2 a3 h = some o) (F : Rt K none none o) : Go K 16 [(0, .ref (ad K c0)), (1, .int a1), (2, .int a2), (3, .int a3)] [] h := by
  unfold s_X9_deny_b16 at hyp
  refine g_iload_n (pc := 16) 2 S dX9_deny_16 rfl ?_
  refine g_iconst (pc := 17) (v := (2 : Int32)) S dX9_deny_17 (by decide) ?_
  refine g_icmp_eq (pc := 18) (tgt := 26) S dX9_deny_18 (by decide) hyp (fun hyp => ?_) (fun hyp => ?_)
  · exact g_sub [0, 1, 2, 3] rfl (o_X9_deny_b26 S k0 a1 a2 a3 h hyp F)
  · refine g_iload_n (pc := 21) 2 S dX9_deny_21 rfl ?_
    refine g_iconst (pc := 22) (v := (4 : Int32)) S dX9_deny_22 (by decide) ?_
    refine g_icmp_ne (pc := 23) (tgt := 33) S dX9_deny_23 (by decide) hyp (fun hyp => ?_) (fun hyp => ?_)
    · exact g_sub [0, 1, 2, 3] rfl (o_X9_deny_b26 S k0 a1 a2 a3 h hyp F)
    · exact g_sub [0, 1, 2, 3] rfl (o_X9_deny_b33 S k0 a1 a2 a3 h hyp F)
set_option maxRecDepth 100000 in
set_option maxHeartbeats 4000000 in
theorem o_X9_deny_b9 {K : gK} (S : Cx K RX9 cX9_deny 4 5 140) {c0 : Nat} (k0 : kd c0 (10 + 9, 0)) (a1 : Int32) (a2 : Int32) (a3 : Int32) (h : Hp) {o : Hp} (hyp : s_X9_deny_b9 c0 a1 a2 a3 h = some o) (F : Rt K none none o) : Go K 9 [(0, .ref (ad K c0)), (1, .int a1), (2, .int a2), (3, .int a3)] [] h := by
  unfold s_X9_deny_b9 at hyp
  refine g_aload_n (pc := 9) 0 S dX9_deny_9 rfl ?_
  refine g_iload_n (pc := 10) 1 S dX9_deny_10 rfl ?_
  refine g_iconst (pc := 11) (v := (3 : Int32)) S dX9_deny_11 (by decide) ?_
  refine g_iload_n (pc := 12) 3 S dX9_deny_12 rfl ?_
  refine g_bind hyp (fun y1 hy1 hyp => ?_)
  refine g_callV (pc := 13) (As := [.int a1, .int (3 : Int32), .int a3]) (rest := []) S dX9_deny_13 k0 rfl tw_513 tw_514 tw_10 mw_X9_pushRow (m_X9_pushRow k0 a1 (3 : Int32) a3 h hy1) rfl rfl (Nat.le_of_ble_eq_true rfl) (Nat.le_of_ble_eq_true rfl) (Nat.le_of_ble_eq_true rfl) ?_
  exact g_sub [0, 1, 2, 3] rfl (o_X9_deny_b16 S k0 a1 a2 a3 y1 hyp F)
set_option maxRecDepth 100000 in
set_option maxHeartbeats 4000000 in
theorem o_X9_deny {K : gK} (S : Cx K RX9 cX9_deny 4 5 140) {c0 : Nat} (k0 : kd c0 (10 + 9, 0)) (a1 : Int32) (a2 : Int32) (a3 : Int32) (h : Hp) {o : Hp} (hyp : s_X9_deny c0 a1 a2 a3 h = some o) (F : Rt K none none o) : Go K 0 [(0, .ref (ad K c0)), (1, .int a1), (2, .int a2), (3, .int a3)] [] h := by
  unfold s_X9_deny at hyp
  refine g_iload_n (pc := 0) 2 S dX9_deny_0 rfl ?_
  refine g_if_eq (pc := 1) (tgt := 9) S dX9_deny_1 (by decide) hyp (fun hyp => ?_) (fun hyp => ?_)
  · exact g_sub [0, 1, 2, 3] rfl (o_X9_deny_b9 S k0 a1 a2 a3 h hyp F)
  · refine g_iload_n (pc := 4) 2 S dX9_deny_4 rfl ?_
    refine g_iconst (pc := 5) (v := (4 : Int32)) S dX9_deny_5 (by decide) ?_
    refine g_icmp_ne (pc := 6) (tgt := 16) S dX9_deny_6 (by decide) hyp (fun hyp => ?_) (fun hyp => ?_)
    · exact g_sub [0, 1, 2, 3] rfl (o_X9_deny_b9 S k0 a1 a2 a3 h hyp F)
    · exact g_sub [0, 1, 2, 3] rfl (o_X9_deny_b16 S k0 a1 a2 a3 h hyp F)
theorem m_X9_deny {l : Launch} {D : va_G} {cT : Nat → ClassId} {aD : Nat → Nat} {c0 : Nat} (k0 : kd c0 (10 + 9, 0)) (a1 : Int32) (a2 : Int32) (a3 : Int32) (h : Hp) {o : Hp} (hyp : s_X9_deny c0 a1 a2 a3 h = some o) : Ok l D cT aD yX9_deny cX9_deny 4 none 5 140 [.ref (aD c0), .int a1, .int a2, .int a3] h none o :=
  Ok.of (by decide +kernel) rfl (Nat.le_of_ble_eq_true rfl) (fun K e1 e2 e3 e4 S F => by subst e1; exact o_X9_deny S k0 a1 a2 a3 h hyp F)
-- BoundProofs followsFrom (I)Z
noncomputable def s_X9_followsFrom_l8 (c0 : Nat) (a1 : Int32) (a2 : Int32) (h : Hp) : Option ((Int32) ⊕ ((Unit) ⊕ (Int32))) :=
  if a2 < (h.1 (c0 + 32) 4) then ((s_X1_within (c0 + 30) (a1 ||| ((1 : Int32) <<< (a2 &&& 31))) h).bind fun y2 =>
  if y2 = 0 then (some (.inr (.inr (0 : Int32))))
  else (lt (a2 + (1 : Int32)) fun v2_3 =>
  some (.inl v2_3)))
  else (some (.inr (.inl ())))
noncomputable def s_X9_followsFrom (c0 : Nat) (a1 : Int32) (h : Hp) : Option (Int32) :=
  lt (h.1 (c0 + 1) 2) fun v2_1 =>
  (iter (fun s : Int32 => s_X9_followsFrom_l8 c0 a1 s h) FUEL v2_1).bind (Sum.elim (fun t5 => some (1 : Int32))
  (fun t6 => some t6))
set_option maxRecDepth 100000 in
set_option maxHeartbeats 4000000 in
theorem o_X9_followsFrom_l8 {K : gK} (S : Cx K RX9 cX9_followsFrom 3 2 51) {c0 : Nat} (k0 : kd c0 (10 + 9, 0)) (a1 : Int32) (a2 : Int32) (h : Hp) {o : (Int32) ⊕ ((Unit) ⊕ (Int32))} (hyp : s_X9_followsFrom_l8 c0 a1 a2 h = some o) (hin : ∀ s', o = .inl s' → Go K 8 [(0, .ref (ad K c0)), (1, .int a1), (2, .int s')] [] h) (hex0 : ∀ s', o = .inr (.inl s') → Go K 42 [] [] h) (hret : ∀ x', o = .inr (.inr x') → Rt K (some .boolean) (some (.int x')) h) : Go K 8 [(0, .ref (ad K c0)), (1, .int a1), (2, .int a2)] [] h := by
  unfold s_X9_followsFrom_l8 at hyp
  refine g_iload_n (pc := 8) 2 S dX9_followsFrom_8 rfl ?_
  refine g_aload_n (pc := 9) 0 S dX9_followsFrom_9 rfl ?_
  refine g_getR (pc := 10) S dX9_followsFrom_10 fl_X9_52 k0 ?_
  refine g_getI (pc := 13) S dX9_followsFrom_13 fl_X9_288 (kf_9_32 k0) ?_
  refine g_icmp_ge (pc := 16) (tgt := 42) S dX9_followsFrom_16 (by decide) hyp (fun hyp => ?_) (fun hyp => ?_)
  · refine g_aload_n (pc := 19) 0 S dX9_followsFrom_19 rfl ?_
    refine g_getR (pc := 20) S dX9_followsFrom_20 fl_X9_37 k0 ?_
    refine g_iload_n (pc := 23) 1 S dX9_followsFrom_23 rfl ?_
    refine g_iconst (pc := 24) (v := (1 : Int32)) S dX9_followsFrom_24 (by decide) ?_
    refine g_iload_n (pc := 25) 2 S dX9_followsFrom_25 rfl ?_
    refine g_ishl (pc := 26) S dX9_followsFrom_26 ?_
    refine g_ior (pc := 27) S dX9_followsFrom_27 ?_
    refine g_bind hyp (fun y2 hy2 hyp => ?_)
    refine g_callV (pc := 28) (As := [.int (a1 ||| ((1 : Int32) <<< (a2 &&& 31)))]) (rest := []) S dX9_followsFrom_28 (kf_9_30 k0) rfl tw_626 tw_627 tw_628 mw_X1_within (m_X1_within (kf_9_30 k0) (a1 ||| ((1 : Int32) <<< (a2 &&& 31))) h hy2) rfl rfl (Nat.le_of_ble_eq_true rfl) (Nat.le_of_ble_eq_true rfl) (Nat.le_of_ble_eq_true rfl) ?_
    refine g_if_ne (pc := 31) (tgt := 36) S dX9_followsFrom_31 (by decide) hyp (fun hyp => ?_) (fun hyp => ?_)
    · refine g_iconst (pc := 34) (v := (0 : Int32)) S dX9_followsFrom_34 (by decide) ?_
      have hyp := Option.some.inj hyp
      subst hyp
      exact g_zret (pc := 35) S (hret (0 : Int32) rfl) dX9_followsFrom_35 (Or.inl rfl)
    · refine g_iinc (pc := 36) (v := (a2 + (1 : Int32))) (lv' := [(2, .int (a2 + (1 : Int32))), (0, .ref (ad K c0)), (1, .int a1)]) 2 S dX9_followsFrom_36 rfl (by rfl) (by decide) rfl ?_
      refine g_lti (C := fun v2_3 => Go K (36 + 3) [(2, .int v2_3), (0, .ref (ad K c0)), (1, .int a1)] [] h) hyp (fun v2_3 hyp => ?_)
      refine g_goto (pc := 39) (tgt := 8) S dX9_followsFrom_39 (by decide) ?_
      have hyp := Option.some.inj hyp
      subst hyp
      exact g_sub [1, 2, 0] rfl (hin v2_3 rfl)
  · have hyp := Option.some.inj hyp
    subst hyp
    exact g_sub [] rfl (hex0 () rfl)
set_option maxRecDepth 100000 in
set_option maxHeartbeats 4000000 in
theorem o_X9_followsFrom {K : gK} (S : Cx K RX9 cX9_followsFrom 3 2 51) {c0 : Nat} (k0 : kd c0 (10 + 9, 0)) (a1 : Int32) (h : Hp) {o : Int32} (hyp : s_X9_followsFrom c0 a1 h = some o) (F : Rt K (some .boolean) (some (.int o)) h) : Go K 0 [(0, .ref (ad K c0)), (1, .int a1)] [] h := by
  unfold s_X9_followsFrom at hyp
  refine g_aload_n (pc := 0) 0 S dX9_followsFrom_0 rfl ?_
  refine g_getR (pc := 1) S dX9_followsFrom_1 fl_X9_12 k0 ?_
  refine g_getI (pc := 4) S dX9_followsFrom_4 fl_X9_140 (kf_9_1 k0) ?_
  refine g_lti (C := fun v2_1 => Go K 7 [(0, .ref (ad K c0)), (1, .int a1)] [.int v2_1] h) hyp (fun v2_1 hyp => ?_)
  refine g_istore_n (pc := 7) (lv' := [(2, .int v2_1), (0, .ref (ad K c0)), (1, .int a1)]) S dX9_followsFrom_7 rfl (by decide) rfl ?_
  refine g_bind hyp (fun e4 he4 hyp => ?_)
  refine g_sub [1, 2, 0] rfl (g_loop (f := fun s : Int32 => s_X9_followsFrom_l8 c0 a1 s h) (ρ := (Unit) ⊕ (Int32)) (Hd := fun s : Int32 => Go K 8 [(0, .ref (ad K c0)), (1, .int a1), (2, .int s)] [] h) (Ex := fun e4 => (∀ t, e4 = .inl t → Go K 42 [] [] h) ∧ (∀ t, e4 = .inr t → Rt K (some .boolean) (some (.int t)) h)) (fun s o h1 h2 h3 => o_X9_followsFrom_l8 S k0 a1 s h h1 h2 (fun t q => (h3 _ q).1 t rfl) (fun t q => (h3 _ q).2 t rfl)) FUEL _ e4 he4 ?_)
  refine ⟨?_, ?_⟩
  · intro t5 q
    subst q
    try dsimp only [Sum.elim] at hyp
    refine g_iconst (pc := 42) (v := (1 : Int32)) S dX9_followsFrom_42 (by decide) ?_
    have hyp := Option.some.inj hyp
    subst hyp
    exact g_zret (pc := 43) S F dX9_followsFrom_43 (Or.inr rfl)
  · intro t6 q
    subst q
    try dsimp only [Sum.elim] at hyp
    have hyp := Option.some.inj hyp
    subst hyp
    exact F
theorem m_X9_followsFrom {l : Launch} {D : va_G} {cT : Nat → ClassId} {aD : Nat → Nat} {c0 : Nat} (k0 : kd c0 (10 + 9, 0)) (a1 : Int32) (h : Hp) {o : Int32} (hyp : s_X9_followsFrom c0 a1 h = some o) : Ok l D cT aD yX9_followsFrom cX9_followsFrom 3 (some .boolean) 2 51 [.ref (aD c0), .int a1] h (some (.int o)) h :=
  Ok.of (by decide +kernel) rfl (Nat.le_of_ble_eq_true rfl) (fun K e1 e2 e3 e4 S F => by subst e1; exact o_X9_followsFrom S k0 a1 h hyp F)
-- BoundProofs follows (III)I
noncomputable def s_X9_follows_b38 (c0 : Nat) (t0 : Int32) (h : Hp) : Option (Int32 × Hp) :=
  (s_X7_cut (c0 + 32) (h.1 (c0 + 1) 2) h).bind fun y5 =>
  some (t0, y5)
noncomputable def s_X9_follows (c0 : Nat) (a1 : Int32) (a2 : Int32) (a3 : Int32) (h : Hp) : Option (Int32 × Hp) :=
  (s_X5_allowsConstraint (c0 + 1) a1 a2 a3 h).bind fun y1 =>
  if y1 = 0 then (some ((-1 : Int32), h))
  else ((s_X9_deny c0 a1 a2 a3 h).bind fun y2 =>
  (s_X9_allConstraints c0  y2).bind fun y3 =>
  (s_X9_followsFrom c0 y3 y2).bind fun y4 =>
  if y4 = 0 then (s_X9_follows_b38 c0 (0 : Int32) y2)
  else (s_X9_follows_b38 c0 (1 : Int32) y2))
set_option maxRecDepth 100000 in
set_option maxHeartbeats 4000000 in
theorem o_X9_follows_b38 {K : gK} (S : Cx K RX9 cX9_follows 5 6 167) {c0 : Nat} (k0 : kd c0 (10 + 9, 0)) (t0 : Int32) (h : Hp) {o : Int32 × Hp} (hyp : s_X9_follows_b38 c0 t0 h = some o) (F : Rt K (some .int) (some (.int o.1)) o.2) : Go K 38 [(0, .ref (ad K c0))] [.int t0] h := by
  unfold s_X9_follows_b38 at hyp
  refine g_istore (pc := 38) (lv' := [(4, .int t0), (0, .ref (ad K c0))]) S dX9_follows_38 (by decide) rfl ?_
  refine g_aload_n (pc := 40) 1 S dX9_follows_40 rfl ?_
  refine g_getR (pc := 41) S dX9_follows_41 fl_X9_52 k0 ?_
  refine g_aload_n (pc := 44) 1 S dX9_follows_44 rfl ?_
  refine g_getR (pc := 45) S dX9_follows_45 fl_X9_12 k0 ?_
  refine g_getI (pc := 48) S dX9_follows_48 fl_X9_140 (kf_9_1 k0) ?_
  refine g_bind hyp (fun y5 hy5 hyp => ?_)
  refine g_callV (pc := 51) (As := [.int (h.1 (c0 + 1) 2)]) (rest := []) S dX9_follows_51 (kf_9_32 k0) rfl tw_612 tw_613 tw_614 mw_X7_cut (m_X7_cut (kf_9_32 k0) (h.1 (c0 + 1) 2) h hy5) rfl rfl (Nat.le_of_ble_eq_true rfl) (Nat.le_of_ble_eq_true rfl) (Nat.le_of_ble_eq_true rfl) ?_
  refine g_iload (pc := 54) 0 S dX9_follows_54 rfl ?_
  have hyp := Option.some.inj hyp
  subst hyp
  exact g_iret (pc := 56) S F dX9_follows_56
set_option maxRecDepth 100000 in
set_option maxHeartbeats 4000000 in
theorem o_X9_follows {K : gK} (S : Cx K RX9 cX9_follows 5 6 167) {c0 : Nat} (k0 : kd c0 (10 + 9, 0)) (a1 : Int32) (a2 : Int32) (a3 : Int32) (h : Hp) {o : Int32 × Hp} (hyp : s_X9_follows c0 a1 a2 a3 h = some o) (F : Rt K (some .int) (some (.int o.1)) o.2) : Go K 0 [(0, .ref (ad K c0)), (1, .int a1), (2, .int a2), (3, .int a3)] [] h := by
  unfold s_X9_follows at hyp
  refine g_aload_n (pc := 0) 0 S dX9_follows_0 rfl ?_
  refine g_getR (pc := 1) S dX9_follows_1 fl_X9_12 k0 ?_
  refine g_iload_n (pc := 4) 1 S dX9_follows_4 rfl ?_
  refine g_iload_n (pc := 5) 2 S dX9_follows_5 rfl ?_
  refine g_iload_n (pc := 6) 3 S dX9_follows_6 rfl ?_
  refine g_bind hyp (fun y1 hy1 hyp => ?_)
  refine g_callV (pc := 7) (As := [.int a1, .int a2, .int a3]) (rest := []) S dX9_follows_7 (kf_9_1 k0) rfl tw_591 tw_592 tw_593 mw_X5_allowsConstraint (m_X5_allowsConstraint (kf_9_1 k0) a1 a2 a3 h hy1) rfl rfl (Nat.le_of_ble_eq_true rfl) (Nat.le_of_ble_eq_true rfl) (Nat.le_of_ble_eq_true rfl) ?_
  refine g_if_ne (pc := 10) (tgt := 15) S dX9_follows_10 (by decide) hyp (fun hyp => ?_) (fun hyp => ?_)
  · refine g_iconst (pc := 13) (v := (-1 : Int32)) S dX9_follows_13 (by decide) ?_
    have hyp := Option.some.inj hyp
    subst hyp
    exact g_iret (pc := 14) S F dX9_follows_14
  · refine g_aload_n (pc := 15) 0 S dX9_follows_15 rfl ?_
    refine g_iload_n (pc := 16) 1 S dX9_follows_16 rfl ?_
    refine g_iload_n (pc := 17) 2 S dX9_follows_17 rfl ?_
    refine g_iload_n (pc := 18) 3 S dX9_follows_18 rfl ?_
    refine g_bind hyp (fun y2 hy2 hyp => ?_)
    refine g_callV (pc := 19) (As := [.int a1, .int a2, .int a3]) (rest := []) S dX9_follows_19 k0 rfl tw_704 tw_705 tw_20 mw_X9_deny (m_X9_deny k0 a1 a2 a3 h hy2) rfl rfl (Nat.le_of_ble_eq_true rfl) (Nat.le_of_ble_eq_true rfl) (Nat.le_of_ble_eq_true rfl) ?_
    refine g_aload_n (pc := 22) 0 S dX9_follows_22 rfl ?_
    refine g_aload_n (pc := 23) 0 S dX9_follows_23 rfl ?_
    refine g_bind hyp (fun y3 hy3 hyp => ?_)
    refine g_callV (pc := 24) (As := []) (rest := [.ref (ad K c0)]) S dX9_follows_24 k0 rfl tw_623 tw_624 tw_17 mw_X9_allConstraints (m_X9_allConstraints k0  y2 hy3) rfl rfl (Nat.le_of_ble_eq_true rfl) (Nat.le_of_ble_eq_true rfl) (Nat.le_of_ble_eq_true rfl) ?_
    refine g_bind hyp (fun y4 hy4 hyp => ?_)
    refine g_callV (pc := 27) (As := [.int y3]) (rest := []) S dX9_follows_27 k0 rfl tw_707 tw_708 tw_21 mw_X9_followsFrom (m_X9_followsFrom k0 y3 y2 hy4) rfl rfl (Nat.le_of_ble_eq_true rfl) (Nat.le_of_ble_eq_true rfl) (Nat.le_of_ble_eq_true rfl) ?_
    refine g_if_eq (pc := 30) (tgt := 37) S dX9_follows_30 (by decide) hyp (fun hyp => ?_) (fun hyp => ?_)
    · refine g_iconst (pc := 37) (v := (0 : Int32)) S dX9_follows_37 (by decide) ?_
      exact g_sub [0] rfl (o_X9_follows_b38 S k0 (0 : Int32) y2 hyp F)
    · refine g_iconst (pc := 33) (v := (1 : Int32)) S dX9_follows_33 (by decide) ?_
      refine g_goto (pc := 34) (tgt := 38) S dX9_follows_34 (by decide) ?_
      exact g_sub [0] rfl (o_X9_follows_b38 S k0 (1 : Int32) y2 hyp F)
theorem m_X9_follows {l : Launch} {D : va_G} {cT : Nat → ClassId} {aD : Nat → Nat} {c0 : Nat} (k0 : kd c0 (10 + 9, 0)) (a1 : Int32) (a2 : Int32) (a3 : Int32) (h : Hp) {o : Int32 × Hp} (hyp : s_X9_follows c0 a1 a2 a3 h = some o) : Ok l D cT aD yX9_follows cX9_follows 5 (some .int) 6 167 [.ref (aD c0), .int a1, .int a2, .int a3] h (some (.int o.1)) o.2 :=
  Ok.of (by decide +kernel) rfl (Nat.le_of_ble_eq_true rfl) (fun K e1 e2 e3 e4 S F => by subst e1; exact o_X9_follows S k0 a1 a2 a3 h hyp F)
-- BoundProofs since (III)I
noncomputable def s_X9_since_b65 (c0 : Nat) (a4 : Int32) (a5 : Int32) (h : Hp) : Option ((Int32 × Int32) ⊕ (Int32)) :=
  lt (a5 + (1 : Int32)) fun v5_4 =>
  some (.inl (a4, v5_4))
noncomputable def s_X9_since_l29 (c0 : Nat) (a4 : Int32) (a5 : Int32) (h : Hp) : Option ((Int32 × Int32) ⊕ (Int32)) :=
  if (h.1 (c0 + 1) 2) < a5 then (some (.inr (a4)))
  else (if a4 = (-9 : Int32) then ((s_X9_followsFrom c0 (((1 : Int32) <<< (a5 &&& 31)) - (1 : Int32)) h).bind fun y3 =>
  if y3 = 0 then (s_X9_since_b65 c0 a4 a5 h)
  else (s_X9_since_b65 c0 a5 a5 h))
  else (some (.inr (a4))))
noncomputable def s_X9_since (c0 : Nat) (a1 : Int32) (a2 : Int32) (a3 : Int32) (h : Hp) : Option (Int32 × Hp) :=
  (s_X5_allowsConstraint (c0 + 1) a1 a2 a3 h).bind fun y1 =>
  if y1 = 0 then (some ((-1 : Int32), h))
  else ((s_X9_deny c0 a1 a2 a3 h).bind fun y2 =>
  (iter (fun s : Int32 × Int32 => s_X9_since_l29 c0 s.1 s.2 y2) FUEL ((-9 : Int32), (0 : Int32))).bind fun e5 =>
  (s_X7_cut (c0 + 32) (y2.1 (c0 + 1) 2) y2).bind fun y6 =>
  some (e5, y6))
set_option maxRecDepth 100000 in
set_option maxHeartbeats 4000000 in
theorem o_X9_since_b65 {K : gK} (S : Cx K RX9 cX9_since 6 6 167) {c0 : Nat} (k0 : kd c0 (10 + 9, 0)) (a4 : Int32) (a5 : Int32) (h : Hp) {o : (Int32 × Int32) ⊕ (Int32)} (hyp : s_X9_since_b65 c0 a4 a5 h = some o) (hin : ∀ s', o = .inl s' → Go K 29 [(0, .ref (ad K c0)), (4, .int s'.1), (5, .int s'.2)] [] h) (hex0 : ∀ s', o = .inr (s') → Go K 71 [(0, .ref (ad K c0)), (4, .int s')] [] h) : Go K 65 [(0, .ref (ad K c0)), (4, .int a4), (5, .int a5)] [] h := by
  unfold s_X9_since_b65 at hyp
  refine g_iinc (pc := 65) (v := (a5 + (1 : Int32))) (lv' := [(5, .int (a5 + (1 : Int32))), (0, .ref (ad K c0)), (4, .int a4)]) 2 S dX9_since_65 rfl (by rfl) (by decide) rfl ?_
  refine g_lti (C := fun v5_4 => Go K (65 + 3) [(5, .int v5_4), (0, .ref (ad K c0)), (4, .int a4)] [] h) hyp (fun v5_4 hyp => ?_)
  refine g_goto (pc := 68) (tgt := 29) S dX9_since_68 (by decide) ?_
  have hyp := Option.some.inj hyp
  subst hyp
  exact g_sub [1, 2, 0] rfl (hin (a4, v5_4) rfl)
set_option maxRecDepth 100000 in
set_option maxHeartbeats 4000000 in
theorem o_X9_since_l29 {K : gK} (S : Cx K RX9 cX9_since 6 6 167) {c0 : Nat} (k0 : kd c0 (10 + 9, 0)) (a4 : Int32) (a5 : Int32) (h : Hp) {o : (Int32 × Int32) ⊕ (Int32)} (hyp : s_X9_since_l29 c0 a4 a5 h = some o) (hin : ∀ s', o = .inl s' → Go K 29 [(0, .ref (ad K c0)), (4, .int s'.1), (5, .int s'.2)] [] h) (hex0 : ∀ s', o = .inr (s') → Go K 71 [(0, .ref (ad K c0)), (4, .int s')] [] h) : Go K 29 [(0, .ref (ad K c0)), (4, .int a4), (5, .int a5)] [] h := by
  unfold s_X9_since_l29 at hyp
  refine g_iload (pc := 29) 2 S dX9_since_29 rfl ?_
  refine g_aload_n (pc := 31) 0 S dX9_since_31 rfl ?_
  refine g_getR (pc := 32) S dX9_since_32 fl_X9_12 k0 ?_
  refine g_getI (pc := 35) S dX9_since_35 fl_X9_140 (kf_9_1 k0) ?_
  refine g_icmp_gt (pc := 38) (tgt := 71) S dX9_since_38 (by decide) hyp (fun hyp => ?_) (fun hyp => ?_)
  · have hyp := Option.some.inj hyp
    subst hyp
    exact g_sub [0, 1] rfl (hex0 a4 rfl)
  · refine g_iload (pc := 41) 1 S dX9_since_41 rfl ?_
    refine g_bipush (pc := 43) (v := (-9 : Int32)) S dX9_since_43 (by decide) ?_
    refine g_icmp_ne (pc := 45) (tgt := 71) S dX9_since_45 (by decide) hyp (fun hyp => ?_) (fun hyp => ?_)
    · refine g_aload_n (pc := 48) 0 S dX9_since_48 rfl ?_
      refine g_iconst (pc := 49) (v := (1 : Int32)) S dX9_since_49 (by decide) ?_
      refine g_iload (pc := 50) 2 S dX9_since_50 rfl ?_
      refine g_ishl (pc := 52) S dX9_since_52 ?_
      refine g_iconst (pc := 53) (v := (1 : Int32)) S dX9_since_53 (by decide) ?_
      refine g_isub (pc := 54) S dX9_since_54 ?_
      refine g_bind hyp (fun y3 hy3 hyp => ?_)
      refine g_callV (pc := 55) (As := [.int (((1 : Int32) <<< (a5 &&& 31)) - (1 : Int32))]) (rest := []) S dX9_since_55 k0 rfl tw_707 tw_708 tw_21 mw_X9_followsFrom (m_X9_followsFrom k0 (((1 : Int32) <<< (a5 &&& 31)) - (1 : Int32)) h hy3) rfl rfl (Nat.le_of_ble_eq_true rfl) (Nat.le_of_ble_eq_true rfl) (Nat.le_of_ble_eq_true rfl) ?_
      refine g_if_eq (pc := 58) (tgt := 65) S dX9_since_58 (by decide) hyp (fun hyp => ?_) (fun hyp => ?_)
      · exact g_sub [0, 1, 2] rfl (o_X9_since_b65 S k0 a4 a5 h hyp hin hex0)
      · refine g_iload (pc := 61) 2 S dX9_since_61 rfl ?_
        refine g_istore (pc := 63) (lv' := [(4, .int a5), (0, .ref (ad K c0)), (5, .int a5)]) S dX9_since_63 (by decide) rfl ?_
        exact g_sub [1, 0, 2] rfl (o_X9_since_b65 S k0 a5 a5 h hyp hin hex0)
    · have hyp := Option.some.inj hyp
      subst hyp
      exact g_sub [0, 1] rfl (hex0 a4 rfl)
set_option maxRecDepth 100000 in
set_option maxHeartbeats 4000000 in
theorem o_X9_since {K : gK} (S : Cx K RX9 cX9_since 6 6 167) {c0 : Nat} (k0 : kd c0 (10 + 9, 0)) (a1 : Int32) (a2 : Int32) (a3 : Int32) (h : Hp) {o : Int32 × Hp} (hyp : s_X9_since c0 a1 a2 a3 h = some o) (F : Rt K (some .int) (some (.int o.1)) o.2) : Go K 0 [(0, .ref (ad K c0)), (1, .int a1), (2, .int a2), (3, .int a3)] [] h := by
  unfold s_X9_since at hyp
  refine g_aload_n (pc := 0) 0 S dX9_since_0 rfl ?_
  refine g_getR (pc := 1) S dX9_since_1 fl_X9_12 k0 ?_
  refine g_iload_n (pc := 4) 1 S dX9_since_4 rfl ?_
  refine g_iload_n (pc := 5) 2 S dX9_since_5 rfl ?_
  refine g_iload_n (pc := 6) 3 S dX9_since_6 rfl ?_
  refine g_bind hyp (fun y1 hy1 hyp => ?_)
  refine g_callV (pc := 7) (As := [.int a1, .int a2, .int a3]) (rest := []) S dX9_since_7 (kf_9_1 k0) rfl tw_591 tw_592 tw_593 mw_X5_allowsConstraint (m_X5_allowsConstraint (kf_9_1 k0) a1 a2 a3 h hy1) rfl rfl (Nat.le_of_ble_eq_true rfl) (Nat.le_of_ble_eq_true rfl) (Nat.le_of_ble_eq_true rfl) ?_
  refine g_if_ne (pc := 10) (tgt := 15) S dX9_since_10 (by decide) hyp (fun hyp => ?_) (fun hyp => ?_)
  · refine g_iconst (pc := 13) (v := (-1 : Int32)) S dX9_since_13 (by decide) ?_
    have hyp := Option.some.inj hyp
    subst hyp
    exact g_iret (pc := 14) S F dX9_since_14
  · refine g_aload_n (pc := 15) 0 S dX9_since_15 rfl ?_
    refine g_iload_n (pc := 16) 1 S dX9_since_16 rfl ?_
    refine g_iload_n (pc := 17) 2 S dX9_since_17 rfl ?_
    refine g_iload_n (pc := 18) 3 S dX9_since_18 rfl ?_
    refine g_bind hyp (fun y2 hy2 hyp => ?_)
    refine g_callV (pc := 19) (As := [.int a1, .int a2, .int a3]) (rest := []) S dX9_since_19 k0 rfl tw_704 tw_705 tw_20 mw_X9_deny (m_X9_deny k0 a1 a2 a3 h hy2) rfl rfl (Nat.le_of_ble_eq_true rfl) (Nat.le_of_ble_eq_true rfl) (Nat.le_of_ble_eq_true rfl) ?_
    refine g_bipush (pc := 22) (v := (-9 : Int32)) S dX9_since_22 (by decide) ?_
    refine g_istore (pc := 24) (lv' := [(4, .int (-9 : Int32)), (0, .ref (ad K c0)), (1, .int a1), (2, .int a2), (3, .int a3)]) S dX9_since_24 (by decide) rfl ?_
    refine g_iconst (pc := 26) (v := (0 : Int32)) S dX9_since_26 (by decide) ?_
    refine g_istore (pc := 27) (lv' := [(5, .int (0 : Int32)), (4, .int (-9 : Int32)), (0, .ref (ad K c0)), (1, .int a1), (2, .int a2), (3, .int a3)]) S dX9_since_27 (by decide) rfl ?_
    refine g_bind hyp (fun e5 he5 hyp => ?_)
    refine g_sub [2, 1, 0] rfl (g_loop (f := fun s : Int32 × Int32 => s_X9_since_l29 c0 s.1 s.2 y2) (ρ := Int32) (Hd := fun s : Int32 × Int32 => Go K 29 [(0, .ref (ad K c0)), (4, .int s.1), (5, .int s.2)] [] y2) (Ex := fun e5 => Go K 71 [(0, .ref (ad K c0)), (4, .int e5)] [] y2) (fun s o h1 h2 h3 => o_X9_since_l29 S k0 s.1 s.2 y2 h1 h2 h3) FUEL _ e5 he5 ?_)
    refine g_aload_n (pc := 71) 0 S dX9_since_71 rfl ?_
    refine g_getR (pc := 72) S dX9_since_72 fl_X9_52 k0 ?_
    refine g_aload_n (pc := 75) 0 S dX9_since_75 rfl ?_
    refine g_getR (pc := 76) S dX9_since_76 fl_X9_12 k0 ?_
    refine g_getI (pc := 79) S dX9_since_79 fl_X9_140 (kf_9_1 k0) ?_
    refine g_bind hyp (fun y6 hy6 hyp => ?_)
    refine g_callV (pc := 82) (As := [.int (y2.1 (c0 + 1) 2)]) (rest := []) S dX9_since_82 (kf_9_32 k0) rfl tw_612 tw_613 tw_614 mw_X7_cut (m_X7_cut (kf_9_32 k0) (y2.1 (c0 + 1) 2) y2 hy6) rfl rfl (Nat.le_of_ble_eq_true rfl) (Nat.le_of_ble_eq_true rfl) (Nat.le_of_ble_eq_true rfl) ?_
    refine g_iload (pc := 85) 1 S dX9_since_85 rfl ?_
    have hyp := Option.some.inj hyp
    subst hyp
    exact g_iret (pc := 87) S F dX9_since_87
theorem m_X9_since {l : Launch} {D : va_G} {cT : Nat → ClassId} {aD : Nat → Nat} {c0 : Nat} (k0 : kd c0 (10 + 9, 0)) (a1 : Int32) (a2 : Int32) (a3 : Int32) (h : Hp) {o : Int32 × Hp} (hyp : s_X9_since c0 a1 a2 a3 h = some o) : Ok l D cT aD yX9_since cX9_since 6 (some .int) 6 167 [.ref (aD c0), .int a1, .int a2, .int a3] h (some (.int o.1)) o.2 :=
  Ok.of (by decide +kernel) rfl (Nat.le_of_ble_eq_true rfl) (fun K e1 e2 e3 e4 S F => by subst e1; exact o_X9_since S k0 a1 a2 a3 h hyp F)
-- BoundProofs why (III)I
noncomputable def s_X9_why_b84 (c0 : Nat) (a4 : Int32) (a5 : Int32) (a6 : Int32) (h : Hp) : Option ((Int32 × Int32) ⊕ (Int32)) :=
  lt (a6 + (-1 : Int32)) fun v6_7 =>
  some (.inl (a4, v6_7))
noncomputable def s_X9_why_l47 (c0 : Nat) (a4 : Int32) (a5 : Int32) (a6 : Int32) (h : Hp) : Option ((Int32 × Int32) ⊕ (Int32)) :=
  if a6 < 0 then (some (.inr (a4)))
  else (if a5 = 0 then (some (.inr (a4)))
  else ((s_X9_followsFrom c0 (a4 &&& (((1 : Int32) <<< (a6 &&& 31)) ^^^ (-1 : Int32))) h).bind fun y6 =>
  if y6 = 0 then (s_X9_why_b84 c0 a4 a5 a6 h)
  else (lt (a4 &&& (((1 : Int32) <<< (a6 &&& 31)) ^^^ (-1 : Int32))) fun v4_8 =>
  s_X9_why_b84 c0 v4_8 a5 a6 h)))
noncomputable def s_X9_why (c0 : Nat) (a1 : Int32) (a2 : Int32) (a3 : Int32) (h : Hp) : Option (Int32 × Hp) :=
  (s_X5_allowsConstraint (c0 + 1) a1 a2 a3 h).bind fun y1 =>
  if y1 = 0 then (some ((-1 : Int32), h))
  else ((s_X9_deny c0 a1 a2 a3 h).bind fun y2 =>
  (s_X9_allConstraints c0  y2).bind fun y3 =>
  (s_X9_followsFrom c0 y3 y2).bind fun y4 =>
  lt ((y2.1 (c0 + 1) 2) - (1 : Int32)) fun v6_5 =>
  (iter (fun s : Int32 × Int32 => s_X9_why_l47 c0 s.1 y4 s.2 y2) FUEL (y3, v6_5)).bind fun e9 =>
  (s_X7_cut (c0 + 32) (y2.1 (c0 + 1) 2) y2).bind fun y10 =>
  if y4 = 0 then (some ((-9 : Int32), y10))
  else (some (e9, y10)))
set_option maxRecDepth 100000 in
set_option maxHeartbeats 4000000 in
theorem o_X9_why_b84 {K : gK} (S : Cx K RX9 cX9_why 7 6 167) {c0 : Nat} (k0 : kd c0 (10 + 9, 0)) (a4 : Int32) (a5 : Int32) (a6 : Int32) (h : Hp) {o : (Int32 × Int32) ⊕ (Int32)} (hyp : s_X9_why_b84 c0 a4 a5 a6 h = some o) (hin : ∀ s', o = .inl s' → Go K 47 [(0, .ref (ad K c0)), (4, .int s'.1), (5, .int a5), (6, .int s'.2)] [] h) (hex0 : ∀ s', o = .inr (s') → Go K 90 [(0, .ref (ad K c0)), (4, .int s'), (5, .int a5)] [] h) : Go K 84 [(0, .ref (ad K c0)), (4, .int a4), (5, .int a5), (6, .int a6)] [] h := by
  unfold s_X9_why_b84 at hyp
  refine g_iinc (pc := 84) (v := (a6 + (-1 : Int32))) (lv' := [(6, .int (a6 + (-1 : Int32))), (0, .ref (ad K c0)), (4, .int a4), (5, .int a5)]) 3 S dX9_why_84 rfl (by rfl) (by decide) rfl ?_
  refine g_lti (C := fun v6_7 => Go K (84 + 3) [(6, .int v6_7), (0, .ref (ad K c0)), (4, .int a4), (5, .int a5)] [] h) hyp (fun v6_7 hyp => ?_)
  refine g_goto (pc := 87) (tgt := 47) S dX9_why_87 (by decide) ?_
  have hyp := Option.some.inj hyp
  subst hyp
  exact g_sub [1, 2, 3, 0] rfl (hin (a4, v6_7) rfl)
set_option maxRecDepth 100000 in
set_option maxHeartbeats 4000000 in
theorem o_X9_why_l47 {K : gK} (S : Cx K RX9 cX9_why 7 6 167) {c0 : Nat} (k0 : kd c0 (10 + 9, 0)) (a4 : Int32) (a5 : Int32) (a6 : Int32) (h : Hp) {o : (Int32 × Int32) ⊕ (Int32)} (hyp : s_X9_why_l47 c0 a4 a5 a6 h = some o) (hin : ∀ s', o = .inl s' → Go K 47 [(0, .ref (ad K c0)), (4, .int s'.1), (5, .int a5), (6, .int s'.2)] [] h) (hex0 : ∀ s', o = .inr (s') → Go K 90 [(0, .ref (ad K c0)), (4, .int s'), (5, .int a5)] [] h) : Go K 47 [(0, .ref (ad K c0)), (4, .int a4), (5, .int a5), (6, .int a6)] [] h := by
  unfold s_X9_why_l47 at hyp
  refine g_iload (pc := 47) 3 S dX9_why_47 rfl ?_
  refine g_if_lt (pc := 49) (tgt := 90) S dX9_why_49 (by decide) hyp (fun hyp => ?_) (fun hyp => ?_)
  · have hyp := Option.some.inj hyp
    subst hyp
    exact g_sub [0, 1, 2] rfl (hex0 a4 rfl)
  · refine g_iload (pc := 52) 2 S dX9_why_52 rfl ?_
    refine g_if_eq (pc := 54) (tgt := 90) S dX9_why_54 (by decide) hyp (fun hyp => ?_) (fun hyp => ?_)
    · have hyp := Option.some.inj hyp
      subst hyp
      exact g_sub [0, 1, 2] rfl (hex0 a4 rfl)
    · refine g_aload_n (pc := 57) 0 S dX9_why_57 rfl ?_
      refine g_iload (pc := 58) 1 S dX9_why_58 rfl ?_
      refine g_iconst (pc := 60) (v := (1 : Int32)) S dX9_why_60 (by decide) ?_
      refine g_iload (pc := 61) 3 S dX9_why_61 rfl ?_
      refine g_ishl (pc := 63) S dX9_why_63 ?_
      refine g_iconst (pc := 64) (v := (-1 : Int32)) S dX9_why_64 (by decide) ?_
      refine g_ixor (pc := 65) S dX9_why_65 ?_
      refine g_iand (pc := 66) S dX9_why_66 ?_
      refine g_bind hyp (fun y6 hy6 hyp => ?_)
      refine g_callV (pc := 67) (As := [.int (a4 &&& (((1 : Int32) <<< (a6 &&& 31)) ^^^ (-1 : Int32)))]) (rest := []) S dX9_why_67 k0 rfl tw_707 tw_708 tw_21 mw_X9_followsFrom (m_X9_followsFrom k0 (a4 &&& (((1 : Int32) <<< (a6 &&& 31)) ^^^ (-1 : Int32))) h hy6) rfl rfl (Nat.le_of_ble_eq_true rfl) (Nat.le_of_ble_eq_true rfl) (Nat.le_of_ble_eq_true rfl) ?_
      refine g_if_eq (pc := 70) (tgt := 84) S dX9_why_70 (by decide) hyp (fun hyp => ?_) (fun hyp => ?_)
      · exact g_sub [0, 1, 2, 3] rfl (o_X9_why_b84 S k0 a4 a5 a6 h hyp hin hex0)
      · refine g_iload (pc := 73) 1 S dX9_why_73 rfl ?_
        refine g_iconst (pc := 75) (v := (1 : Int32)) S dX9_why_75 (by decide) ?_
        refine g_iload (pc := 76) 3 S dX9_why_76 rfl ?_
        refine g_ishl (pc := 78) S dX9_why_78 ?_
        refine g_iconst (pc := 79) (v := (-1 : Int32)) S dX9_why_79 (by decide) ?_
        refine g_ixor (pc := 80) S dX9_why_80 ?_
        refine g_iand (pc := 81) S dX9_why_81 ?_
        refine g_lti (C := fun v4_8 => Go K 82 [(0, .ref (ad K c0)), (4, .int a4), (5, .int a5), (6, .int a6)] [.int v4_8] h) hyp (fun v4_8 hyp => ?_)
        refine g_istore (pc := 82) (lv' := [(4, .int v4_8), (0, .ref (ad K c0)), (5, .int a5), (6, .int a6)]) S dX9_why_82 (by decide) rfl ?_
        exact g_sub [1, 0, 2, 3] rfl (o_X9_why_b84 S k0 v4_8 a5 a6 h hyp hin hex0)
set_option maxRecDepth 100000 in
set_option maxHeartbeats 4000000 in
theorem o_X9_why {K : gK} (S : Cx K RX9 cX9_why 7 6 167) {c0 : Nat} (k0 : kd c0 (10 + 9, 0)) (a1 : Int32) (a2 : Int32) (a3 : Int32) (h : Hp) {o : Int32 × Hp} (hyp : s_X9_why c0 a1 a2 a3 h = some o) (F : Rt K (some .int) (some (.int o.1)) o.2) : Go K 0 [(0, .ref (ad K c0)), (1, .int a1), (2, .int a2), (3, .int a3)] [] h := by
  unfold s_X9_why at hyp
  refine g_aload_n (pc := 0) 0 S dX9_why_0 rfl ?_
  refine g_getR (pc := 1) S dX9_why_1 fl_X9_12 k0 ?_
  refine g_iload_n (pc := 4) 1 S dX9_why_4 rfl ?_
  refine g_iload_n (pc := 5) 2 S dX9_why_5 rfl ?_
  refine g_iload_n (pc := 6) 3 S dX9_why_6 rfl ?_
  refine g_bind hyp (fun y1 hy1 hyp => ?_)
  refine g_callV (pc := 7) (As := [.int a1, .int a2, .int a3]) (rest := []) S dX9_why_7 (kf_9_1 k0) rfl tw_591 tw_592 tw_593 mw_X5_allowsConstraint (m_X5_allowsConstraint (kf_9_1 k0) a1 a2 a3 h hy1) rfl rfl (Nat.le_of_ble_eq_true rfl) (Nat.le_of_ble_eq_true rfl) (Nat.le_of_ble_eq_true rfl) ?_
  refine g_if_ne (pc := 10) (tgt := 15) S dX9_why_10 (by decide) hyp (fun hyp => ?_) (fun hyp => ?_)
  · refine g_iconst (pc := 13) (v := (-1 : Int32)) S dX9_why_13 (by decide) ?_
    have hyp := Option.some.inj hyp
    subst hyp
    exact g_iret (pc := 14) S F dX9_why_14
  · refine g_aload_n (pc := 15) 0 S dX9_why_15 rfl ?_
    refine g_iload_n (pc := 16) 1 S dX9_why_16 rfl ?_
    refine g_iload_n (pc := 17) 2 S dX9_why_17 rfl ?_
    refine g_iload_n (pc := 18) 3 S dX9_why_18 rfl ?_
    refine g_bind hyp (fun y2 hy2 hyp => ?_)
    refine g_callV (pc := 19) (As := [.int a1, .int a2, .int a3]) (rest := []) S dX9_why_19 k0 rfl tw_704 tw_705 tw_20 mw_X9_deny (m_X9_deny k0 a1 a2 a3 h hy2) rfl rfl (Nat.le_of_ble_eq_true rfl) (Nat.le_of_ble_eq_true rfl) (Nat.le_of_ble_eq_true rfl) ?_
    refine g_aload_n (pc := 22) 0 S dX9_why_22 rfl ?_
    refine g_bind hyp (fun y3 hy3 hyp => ?_)
    refine g_callV (pc := 23) (As := []) (rest := []) S dX9_why_23 k0 rfl tw_623 tw_624 tw_17 mw_X9_allConstraints (m_X9_allConstraints k0  y2 hy3) rfl rfl (Nat.le_of_ble_eq_true rfl) (Nat.le_of_ble_eq_true rfl) (Nat.le_of_ble_eq_true rfl) ?_
    refine g_istore (pc := 26) (lv' := [(4, .int y3), (0, .ref (ad K c0)), (1, .int a1), (2, .int a2), (3, .int a3)]) S dX9_why_26 (by decide) rfl ?_
    refine g_aload_n (pc := 28) 1 S dX9_why_28 rfl ?_
    refine g_iload (pc := 29) 0 S dX9_why_29 rfl ?_
    refine g_bind hyp (fun y4 hy4 hyp => ?_)
    refine g_callV (pc := 31) (As := [.int y3]) (rest := []) S dX9_why_31 k0 rfl tw_707 tw_708 tw_21 mw_X9_followsFrom (m_X9_followsFrom k0 y3 y2 hy4) rfl rfl (Nat.le_of_ble_eq_true rfl) (Nat.le_of_ble_eq_true rfl) (Nat.le_of_ble_eq_true rfl) ?_
    refine g_istore (pc := 34) (lv' := [(5, .int y4), (4, .int y3), (0, .ref (ad K c0)), (1, .int a1), (2, .int a2), (3, .int a3)]) S dX9_why_34 (by decide) rfl ?_
    refine g_aload_n (pc := 36) 2 S dX9_why_36 rfl ?_
    refine g_getR (pc := 37) S dX9_why_37 fl_X9_12 k0 ?_
    refine g_getI (pc := 40) S dX9_why_40 fl_X9_140 (kf_9_1 k0) ?_
    refine g_iconst (pc := 43) (v := (1 : Int32)) S dX9_why_43 (by decide) ?_
    refine g_isub (pc := 44) S dX9_why_44 ?_
    refine g_lti (C := fun v6_5 => Go K 45 [(5, .int y4), (4, .int y3), (0, .ref (ad K c0)), (1, .int a1), (2, .int a2), (3, .int a3)] [.int v6_5] y2) hyp (fun v6_5 hyp => ?_)
    refine g_istore (pc := 45) (lv' := [(6, .int v6_5), (5, .int y4), (4, .int y3), (0, .ref (ad K c0)), (1, .int a1), (2, .int a2), (3, .int a3)]) S dX9_why_45 (by decide) rfl ?_
    refine g_bind hyp (fun e9 he9 hyp => ?_)
    refine g_sub [3, 2, 1, 0] rfl (g_loop (f := fun s : Int32 × Int32 => s_X9_why_l47 c0 s.1 y4 s.2 y2) (ρ := Int32) (Hd := fun s : Int32 × Int32 => Go K 47 [(0, .ref (ad K c0)), (4, .int s.1), (5, .int y4), (6, .int s.2)] [] y2) (Ex := fun e9 => Go K 90 [(0, .ref (ad K c0)), (4, .int e9), (5, .int y4)] [] y2) (fun s o h1 h2 h3 => o_X9_why_l47 S k0 s.1 y4 s.2 y2 h1 h2 h3) FUEL _ e9 he9 ?_)
    refine g_aload_n (pc := 90) 0 S dX9_why_90 rfl ?_
    refine g_getR (pc := 91) S dX9_why_91 fl_X9_52 k0 ?_
    refine g_aload_n (pc := 94) 0 S dX9_why_94 rfl ?_
    refine g_getR (pc := 95) S dX9_why_95 fl_X9_12 k0 ?_
    refine g_getI (pc := 98) S dX9_why_98 fl_X9_140 (kf_9_1 k0) ?_
    refine g_bind hyp (fun y10 hy10 hyp => ?_)
    refine g_callV (pc := 101) (As := [.int (y2.1 (c0 + 1) 2)]) (rest := []) S dX9_why_101 (kf_9_32 k0) rfl tw_612 tw_613 tw_614 mw_X7_cut (m_X7_cut (kf_9_32 k0) (y2.1 (c0 + 1) 2) y2 hy10) rfl rfl (Nat.le_of_ble_eq_true rfl) (Nat.le_of_ble_eq_true rfl) (Nat.le_of_ble_eq_true rfl) ?_
    refine g_iload (pc := 104) 2 S dX9_why_104 rfl ?_
    refine g_if_eq (pc := 106) (tgt := 114) S dX9_why_106 (by decide) hyp (fun hyp => ?_) (fun hyp => ?_)
    · refine g_bipush (pc := 114) (v := (-9 : Int32)) S dX9_why_114 (by decide) ?_
      have hyp := Option.some.inj hyp
      subst hyp
      exact g_iret (pc := 116) S F dX9_why_116
    · refine g_iload (pc := 109) 1 S dX9_why_109 rfl ?_
      refine g_goto (pc := 111) (tgt := 116) S dX9_why_111 (by decide) ?_
      have hyp := Option.some.inj hyp
      subst hyp
      exact g_iret (pc := 116) S F dX9_why_116
theorem m_X9_why {l : Launch} {D : va_G} {cT : Nat → ClassId} {aD : Nat → Nat} {c0 : Nat} (k0 : kd c0 (10 + 9, 0)) (a1 : Int32) (a2 : Int32) (a3 : Int32) (h : Hp) {o : Int32 × Hp} (hyp : s_X9_why c0 a1 a2 a3 h = some o) : Ok l D cT aD yX9_why cX9_why 7 (some .int) 6 167 [.ref (aD c0), .int a1, .int a2, .int a3] h (some (.int o.1)) o.2 :=
  Ok.of (by decide +kernel) rfl (Nat.le_of_ble_eq_true rfl) (fun K e1 e2 e3 e4 S F => by subst e1; exact o_X9_why S k0 a1 a2 a3 h hyp F)
-- BoundProofs$Rows copy (LBoundProofs$Rows;)V
noncomputable def s_X7_copy_l54 (c0 : Nat) (c1 : Nat) (a2 : Int32) (h : Hp) : Option ((Int32 × Hp) ⊕ (Hp)) :=
  if a2 < (12 : Int32) then (ldI h (c1 + 3) 12 a2 fun x5 =>
  ckB x5 <|
  stI h (c0 + 3) 12 a2 x5 fun h6 =>
  ldI h6 (c1 + 4) 12 a2 fun x7 =>
  ckB x7 <|
  stI h6 (c0 + 4) 12 a2 x7 fun h8 =>
  lt (a2 + (1 : Int32)) fun v2_9 =>
  some (.inl (v2_9, h8)))
  else (some (.inr (h)))
noncomputable def s_X7_copy (c0 : Nat) (c1 : Nat)  (h : Hp) : Option (Hp) :=
  lt (sI h c0 4 (h.1 c1 4)) fun h1 =>
  lt (sI h1 c0 5 (h1.1 c1 5)) fun h2 =>
  cpyI h2 (c1 + 1) 36 (0 : Int32) (c0 + 1) 36 (0 : Int32) (36 : Int32) fun h3 =>
  cpyJ h3 (c1 + 2) 12 (0 : Int32) (c0 + 2) 12 (0 : Int32) (12 : Int32) fun h4 =>
  (iter (fun s : Int32 × Hp => s_X7_copy_l54 c0 c1 s.1 s.2) FUEL ((0 : Int32), h4)).bind fun e10 =>
  some e10
set_option maxRecDepth 100000 in
set_option maxHeartbeats 4000000 in
theorem o_X7_copy_l54 {K : gK} (S : Cx K RX7 cX7_copy 3 1 60) {c0 : Nat} (k0 : kd c0 (10 + 7, 0)) {c1 : Nat} (k1 : kd c1 (10 + 7, 0)) (a2 : Int32) (h : Hp) {o : (Int32 × Hp) ⊕ (Hp)} (hyp : s_X7_copy_l54 c0 c1 a2 h = some o) (hin : ∀ s', o = .inl s' → Go K 54 [(0, .ref (ad K c0)), (1, .ref (ad K c1)), (2, .int s'.1)] [] s'.2) (hex0 : ∀ s', o = .inr (s') → Go K 90 [] [] s') : Go K 54 [(0, .ref (ad K c0)), (1, .ref (ad K c1)), (2, .int a2)] [] h := by
  unfold s_X7_copy_l54 at hyp
  refine g_iload_n (pc := 54) 2 S dX7_copy_54 rfl ?_
  refine g_bipush (pc := 55) (v := (12 : Int32)) S dX7_copy_55 (by decide) ?_
  refine g_icmp_ge (pc := 57) (tgt := 90) S dX7_copy_57 (by decide) hyp (fun hyp => ?_) (fun hyp => ?_)
  · refine g_aload_n (pc := 60) 0 S dX7_copy_60 rfl ?_
    refine g_getR (pc := 61) S dX7_copy_61 fl_X7_19 k0 ?_
    refine g_iload_n (pc := 64) 2 S dX7_copy_64 rfl ?_
    refine g_aload_n (pc := 65) 1 S dX7_copy_65 rfl ?_
    refine g_getR (pc := 66) S dX7_copy_66 fl_X7_19 k1 ?_
    refine g_iload_n (pc := 69) 2 S dX7_copy_69 rfl ?_
    refine g_zald (pc := 70) S dX7_copy_70 (kf_7_3 k1) hyp (fun x5 hyp => ?_)
    refine g_ckB hyp (fun hz hyp => ?_)
    refine g_zast (pc := 71) S dX7_copy_71 (kf_7_3 k0) hz hyp (fun h6 hyp => ?_)
    refine g_aload_n (pc := 72) 0 S dX7_copy_72 rfl ?_
    refine g_getR (pc := 73) S dX7_copy_73 fl_X7_23 k0 ?_
    refine g_iload_n (pc := 76) 2 S dX7_copy_76 rfl ?_
    refine g_aload_n (pc := 77) 1 S dX7_copy_77 rfl ?_
    refine g_getR (pc := 78) S dX7_copy_78 fl_X7_23 k1 ?_
    refine g_iload_n (pc := 81) 2 S dX7_copy_81 rfl ?_
    refine g_zald (pc := 82) S dX7_copy_82 (kf_7_4 k1) hyp (fun x7 hyp => ?_)
    refine g_ckB hyp (fun hz hyp => ?_)
    refine g_zast (pc := 83) S dX7_copy_83 (kf_7_4 k0) hz hyp (fun h8 hyp => ?_)
    refine g_iinc (pc := 84) (v := (a2 + (1 : Int32))) (lv' := [(2, .int (a2 + (1 : Int32))), (0, .ref (ad K c0)), (1, .ref (ad K c1))]) 2 S dX7_copy_84 rfl (by rfl) (by decide) rfl ?_
    refine g_lti (C := fun v2_9 => Go K (84 + 3) [(2, .int v2_9), (0, .ref (ad K c0)), (1, .ref (ad K c1))] [] h8) hyp (fun v2_9 hyp => ?_)
    refine g_goto (pc := 87) (tgt := 54) S dX7_copy_87 (by decide) ?_
    have hyp := Option.some.inj hyp
    subst hyp
    exact g_sub [1, 2, 0] rfl (hin (v2_9, h8) rfl)
  · have hyp := Option.some.inj hyp
    subst hyp
    exact g_sub [] rfl (hex0 h rfl)
set_option maxRecDepth 100000 in
set_option maxHeartbeats 4000000 in
theorem o_X7_copy {K : gK} (S : Cx K RX7 cX7_copy 3 1 60) {c0 : Nat} (k0 : kd c0 (10 + 7, 0)) {c1 : Nat} (k1 : kd c1 (10 + 7, 0))  (h : Hp) {o : Hp} (hyp : s_X7_copy c0 c1  h = some o) (F : Rt K none none o) : Go K 0 [(0, .ref (ad K c0)), (1, .ref (ad K c1))] [] h := by
  unfold s_X7_copy at hyp
  refine g_aload_n (pc := 0) 0 S dX7_copy_0 rfl ?_
  refine g_aload_n (pc := 1) 1 S dX7_copy_1 rfl ?_
  refine g_getI (pc := 2) S dX7_copy_2 fl_X7_26 k1 ?_
  refine g_putI (pc := 5) S dX7_copy_5 fl_X7_26 k0 hyp (fun h1 hyp => ?_)
  refine g_aload_n (pc := 8) 0 S dX7_copy_8 rfl ?_
  refine g_aload_n (pc := 9) 1 S dX7_copy_9 rfl ?_
  refine g_getI (pc := 10) S dX7_copy_10 fl_X7_30 k1 ?_
  refine g_putI (pc := 13) S dX7_copy_13 fl_X7_30 k0 hyp (fun h2 hyp => ?_)
  refine g_aload_n (pc := 16) 1 S dX7_copy_16 rfl ?_
  refine g_getR (pc := 17) S dX7_copy_17 fl_X7_9 k1 ?_
  refine g_iconst (pc := 20) (v := (0 : Int32)) S dX7_copy_20 (by decide) ?_
  refine g_aload_n (pc := 21) 0 S dX7_copy_21 rfl ?_
  refine g_getR (pc := 22) S dX7_copy_22 fl_X7_9 k0 ?_
  refine g_iconst (pc := 25) (v := (0 : Int32)) S dX7_copy_25 (by decide) ?_
  refine g_aload_n (pc := 26) 0 S dX7_copy_26 rfl ?_
  refine g_getR (pc := 27) S dX7_copy_27 fl_X7_9 k0 ?_
  refine g_alen (pc := 30) (v := (36 : Int32)) S dX7_copy_30 (kf_7_1 k0) (by decide) (by decide) ?_
  refine g_cpI (pc := 31) S dX7_copy_31 tw_730 tw_505 tw_504 tw_99 (kf_7_1 k1) (kf_7_1 k0) (Nat.le_of_ble_eq_true rfl) (Nat.le_of_ble_eq_true rfl) hyp (fun h3 hyp => ?_)
  refine g_aload_n (pc := 34) 1 S dX7_copy_34 rfl ?_
  refine g_getR (pc := 35) S dX7_copy_35 fl_X7_15 k1 ?_
  refine g_iconst (pc := 38) (v := (0 : Int32)) S dX7_copy_38 (by decide) ?_
  refine g_aload_n (pc := 39) 0 S dX7_copy_39 rfl ?_
  refine g_getR (pc := 40) S dX7_copy_40 fl_X7_15 k0 ?_
  refine g_iconst (pc := 43) (v := (0 : Int32)) S dX7_copy_43 (by decide) ?_
  refine g_aload_n (pc := 44) 0 S dX7_copy_44 rfl ?_
  refine g_getR (pc := 45) S dX7_copy_45 fl_X7_15 k0 ?_
  refine g_alen (pc := 48) (v := (12 : Int32)) S dX7_copy_48 (kf_7_2 k0) (by decide) (by decide) ?_
  refine g_cpJ (pc := 49) S dX7_copy_49 tw_730 tw_505 tw_504 tw_99 (kf_7_2 k1) (kf_7_2 k0) (Nat.le_of_ble_eq_true rfl) (Nat.le_of_ble_eq_true rfl) hyp (fun h4 hyp => ?_)
  refine g_iconst (pc := 52) (v := (0 : Int32)) S dX7_copy_52 (by decide) ?_
  refine g_istore_n (pc := 53) (lv' := [(2, .int (0 : Int32)), (0, .ref (ad K c0)), (1, .ref (ad K c1))]) S dX7_copy_53 rfl (by decide) rfl ?_
  refine g_bind hyp (fun e10 he10 hyp => ?_)
  refine g_sub [1, 2, 0] rfl (g_loop (f := fun s : Int32 × Hp => s_X7_copy_l54 c0 c1 s.1 s.2) (ρ := Hp) (Hd := fun s : Int32 × Hp => Go K 54 [(0, .ref (ad K c0)), (1, .ref (ad K c1)), (2, .int s.1)] [] s.2) (Ex := fun e10 => Go K 90 [] [] e10) (fun s o h1 h2 h3 => o_X7_copy_l54 S k0 k1 s.1 s.2 h1 h2 h3) FUEL _ e10 he10 ?_)
  have hyp := Option.some.inj hyp
  subst hyp
  exact g_vret (pc := 90) S F dX7_copy_90
theorem m_X7_copy {l : Launch} {D : va_G} {cT : Nat → ClassId} {aD : Nat → Nat} {c0 : Nat} (k0 : kd c0 (10 + 7, 0)) {c1 : Nat} (k1 : kd c1 (10 + 7, 0))  (h : Hp) {o : Hp} (hyp : s_X7_copy c0 c1  h = some o) : Ok l D cT aD yX7_copy cX7_copy 3 none 1 60 [.ref (aD c0), .ref (aD c1)] h none o :=
  Ok.of (by decide +kernel) rfl (Nat.le_of_ble_eq_true rfl) (fun K e1 e2 e3 e4 S F => by subst e1; exact o_X7_copy S k0 k1  h hyp F)
-- BoundProofs$Sampler seek (LBoundProofs$Limit;II)V
noncomputable def s_X8_seek_b34 (c0 : Nat) (c1 : Nat) (t0 : Int32) (t1 : Int32) (t2 : Int32) (h : Hp) : Option (Hp) :=
  (s_X4_seek c1 (c0 + 1) t2 t1 t0 h).bind fun y1 =>
  lt (sJ y1 c1 2 ((y1.2 c1 2) * (y1.2 c0 2))) fun h2 =>
  some h2
noncomputable def s_X8_seek_b24 (c0 : Nat) (c1 : Nat) (a2 : Int32) (a3 : Int32) (t0 : Int32) (t1 : Int32) (h : Hp) : Option (Hp) :=
  if a2 = (2 : Int32) then (s_X8_seek_b34 c0 c1 a3 t0 t1 h)
  else (s_X8_seek_b34 c0 c1 (0 : Int32) t0 t1 h)
noncomputable def s_X8_seek_b14 (c0 : Nat) (c1 : Nat) (a2 : Int32) (a3 : Int32) (t0 : Int32) (h : Hp) : Option (Hp) :=
  if a2 = (1 : Int32) then (s_X8_seek_b24 c0 c1 a2 a3 a3 t0 h)
  else (s_X8_seek_b24 c0 c1 a2 a3 (0 : Int32) t0 h)
noncomputable def s_X8_seek (c0 : Nat) (c1 : Nat) (a2 : Int32) (a3 : Int32) (h : Hp) : Option (Hp) :=
  if a2 = 0 then (s_X8_seek_b14 c0 c1 a2 a3 a3 h)
  else (s_X8_seek_b14 c0 c1 a2 a3 (0 : Int32) h)
set_option maxRecDepth 100000 in
set_option maxHeartbeats 4000000 in
theorem o_X8_seek_b34 {K : gK} (S : Cx K RX8 cX8_seek 4 4 117) {c0 : Nat} (k0 : kd c0 (10 + 8, 0)) {c1 : Nat} (k1 : kd c1 (10 + 4, 0)) (t0 : Int32) (t1 : Int32) (t2 : Int32) (h : Hp) {o : Hp} (hyp : s_X8_seek_b34 c0 c1 t0 t1 t2 h = some o) (F : Rt K none none o) : Go K 34 [(0, .ref (ad K c0)), (1, .ref (ad K c1))] [.int t0, .int t1, .int t2, .ref (ad K (c0 + 1)), .ref (ad K c1)] h := by
  unfold s_X8_seek_b34 at hyp
  refine g_bind hyp (fun y1 hy1 hyp => ?_)
  refine g_callV (pc := 34) (As := [.ref (ad K (c0 + 1)), .int t2, .int t1, .int t0]) (rest := []) S dX8_seek_34 k1 rfl tw_734 tw_690 tw_691 mw_X4_seek (m_X4_seek k1 (kf_8_1 k0) t2 t1 t0 h hy1) rfl rfl (Nat.le_of_ble_eq_true rfl) (Nat.le_of_ble_eq_true rfl) (Nat.le_of_ble_eq_true rfl) ?_
  refine g_aload_n (pc := 37) 1 S dX8_seek_37 rfl ?_
  refine g_dup (pc := 38) S dX8_seek_38 rfl ?_
  refine g_getJ (pc := 39) S dX8_seek_39 fl_X8_76 k1 ?_
  refine g_aload_n (pc := 42) 0 S dX8_seek_42 rfl ?_
  refine g_getJ (pc := 43) S dX8_seek_43 fl_X8_25 k0 ?_
  refine g_lmul (pc := 46) S dX8_seek_46 ?_
  refine g_putJ (pc := 47) S dX8_seek_47 fl_X8_76 k1 hyp (fun h2 hyp => ?_)
  have hyp := Option.some.inj hyp
  subst hyp
  exact g_vret (pc := 50) S F dX8_seek_50
set_option maxRecDepth 100000 in
set_option maxHeartbeats 4000000 in
theorem o_X8_seek_b24 {K : gK} (S : Cx K RX8 cX8_seek 4 4 117) {c0 : Nat} (k0 : kd c0 (10 + 8, 0)) {c1 : Nat} (k1 : kd c1 (10 + 4, 0)) (a2 : Int32) (a3 : Int32) (t0 : Int32) (t1 : Int32) (h : Hp) {o : Hp} (hyp : s_X8_seek_b24 c0 c1 a2 a3 t0 t1 h = some o) (F : Rt K none none o) : Go K 24 [(0, .ref (ad K c0)), (1, .ref (ad K c1)), (2, .int a2), (3, .int a3)] [.int t0, .int t1, .ref (ad K (c0 + 1)), .ref (ad K c1)] h := by
  unfold s_X8_seek_b24 at hyp
  refine g_iload_n (pc := 24) 2 S dX8_seek_24 rfl ?_
  refine g_iconst (pc := 25) (v := (2 : Int32)) S dX8_seek_25 (by decide) ?_
  refine g_icmp_ne (pc := 26) (tgt := 33) S dX8_seek_26 (by decide) hyp (fun hyp => ?_) (fun hyp => ?_)
  · refine g_iload_n (pc := 29) 3 S dX8_seek_29 rfl ?_
    refine g_goto (pc := 30) (tgt := 34) S dX8_seek_30 (by decide) ?_
    exact g_sub [0, 1] rfl (o_X8_seek_b34 S k0 k1 a3 t0 t1 h hyp F)
  · refine g_iconst (pc := 33) (v := (0 : Int32)) S dX8_seek_33 (by decide) ?_
    exact g_sub [0, 1] rfl (o_X8_seek_b34 S k0 k1 (0 : Int32) t0 t1 h hyp F)
set_option maxRecDepth 100000 in
set_option maxHeartbeats 4000000 in
theorem o_X8_seek_b14 {K : gK} (S : Cx K RX8 cX8_seek 4 4 117) {c0 : Nat} (k0 : kd c0 (10 + 8, 0)) {c1 : Nat} (k1 : kd c1 (10 + 4, 0)) (a2 : Int32) (a3 : Int32) (t0 : Int32) (h : Hp) {o : Hp} (hyp : s_X8_seek_b14 c0 c1 a2 a3 t0 h = some o) (F : Rt K none none o) : Go K 14 [(0, .ref (ad K c0)), (1, .ref (ad K c1)), (2, .int a2), (3, .int a3)] [.int t0, .ref (ad K (c0 + 1)), .ref (ad K c1)] h := by
  unfold s_X8_seek_b14 at hyp
  refine g_iload_n (pc := 14) 2 S dX8_seek_14 rfl ?_
  refine g_iconst (pc := 15) (v := (1 : Int32)) S dX8_seek_15 (by decide) ?_
  refine g_icmp_ne (pc := 16) (tgt := 23) S dX8_seek_16 (by decide) hyp (fun hyp => ?_) (fun hyp => ?_)
  · refine g_iload_n (pc := 19) 3 S dX8_seek_19 rfl ?_
    refine g_goto (pc := 20) (tgt := 24) S dX8_seek_20 (by decide) ?_
    exact g_sub [0, 1, 2, 3] rfl (o_X8_seek_b24 S k0 k1 a2 a3 a3 t0 h hyp F)
  · refine g_iconst (pc := 23) (v := (0 : Int32)) S dX8_seek_23 (by decide) ?_
    exact g_sub [0, 1, 2, 3] rfl (o_X8_seek_b24 S k0 k1 a2 a3 (0 : Int32) t0 h hyp F)
set_option maxRecDepth 100000 in
set_option maxHeartbeats 4000000 in
theorem o_X8_seek {K : gK} (S : Cx K RX8 cX8_seek 4 4 117) {c0 : Nat} (k0 : kd c0 (10 + 8, 0)) {c1 : Nat} (k1 : kd c1 (10 + 4, 0)) (a2 : Int32) (a3 : Int32) (h : Hp) {o : Hp} (hyp : s_X8_seek c0 c1 a2 a3 h = some o) (F : Rt K none none o) : Go K 0 [(0, .ref (ad K c0)), (1, .ref (ad K c1)), (2, .int a2), (3, .int a3)] [] h := by
  unfold s_X8_seek at hyp
  refine g_aload_n (pc := 0) 1 S dX8_seek_0 rfl ?_
  refine g_aload_n (pc := 1) 0 S dX8_seek_1 rfl ?_
  refine g_getR (pc := 2) S dX8_seek_2 fl_X8_12 k0 ?_
  refine g_iload_n (pc := 5) 2 S dX8_seek_5 rfl ?_
  refine g_if_ne (pc := 6) (tgt := 13) S dX8_seek_6 (by decide) hyp (fun hyp => ?_) (fun hyp => ?_)
  · refine g_iload_n (pc := 9) 3 S dX8_seek_9 rfl ?_
    refine g_goto (pc := 10) (tgt := 14) S dX8_seek_10 (by decide) ?_
    exact g_sub [0, 1, 2, 3] rfl (o_X8_seek_b14 S k0 k1 a2 a3 a3 h hyp F)
  · refine g_iconst (pc := 13) (v := (0 : Int32)) S dX8_seek_13 (by decide) ?_
    exact g_sub [0, 1, 2, 3] rfl (o_X8_seek_b14 S k0 k1 a2 a3 (0 : Int32) h hyp F)
theorem m_X8_seek {l : Launch} {D : va_G} {cT : Nat → ClassId} {aD : Nat → Nat} {c0 : Nat} (k0 : kd c0 (10 + 8, 0)) {c1 : Nat} (k1 : kd c1 (10 + 4, 0)) (a2 : Int32) (a3 : Int32) (h : Hp) {o : Hp} (hyp : s_X8_seek c0 c1 a2 a3 h = some o) : Ok l D cT aD yX8_seek cX8_seek 4 none 4 117 [.ref (aD c0), .ref (aD c1), .int a2, .int a3] h none o :=
  Ok.of (by decide +kernel) rfl (Nat.le_of_ble_eq_true rfl) (fun K e1 e2 e3 e4 S F => by subst e1; exact o_X8_seek S k0 k1 a2 a3 h hyp F)
-- BoundProofs$Sampler reachesZero (LBoundProofs$Limit;)Z
noncomputable def s_X8_reachesZero (c0 : Nat)  (h : Hp) : Option (Int32) :=
  if (h.1 c0 0) = 0 then (some (1 : Int32))
  else (if (0 : Int64) < (h.2 c0 1) then (some (1 : Int32))
  else (if (h.2 c0 1) = (0 : Int64) then (if (h.1 c0 3) = 0 then (some (1 : Int32))
  else (some (0 : Int32)))
  else (some (0 : Int32))))
set_option maxRecDepth 100000 in
set_option maxHeartbeats 4000000 in
theorem o_X8_reachesZero {K : gK} (S : Cx K RX8 cX8_reachesZero 1 0 0) {c0 : Nat} (k0 : kd c0 (10 + 4, 0))  (h : Hp) {o : Int32} (hyp : s_X8_reachesZero c0  h = some o) (F : Rt K (some .boolean) (some (.int o)) h) : Go K 0 [(0, .ref (ad K c0))] [] h := by
  unfold s_X8_reachesZero at hyp
  refine g_aload_n (pc := 0) 0 S dX8_reachesZero_0 rfl ?_
  refine g_getI (pc := 1) S dX8_reachesZero_1 fl_X8_86 k0 ?_
  refine g_if_eq (pc := 4) (tgt := 32) S dX8_reachesZero_4 (by decide) hyp (fun hyp => ?_) (fun hyp => ?_)
  · refine g_iconst (pc := 32) (v := (1 : Int32)) S dX8_reachesZero_32 (by decide) ?_
    refine g_goto (pc := 33) (tgt := 37) S dX8_reachesZero_33 (by decide) ?_
    have hyp := Option.some.inj hyp
    subst hyp
    exact g_zret (pc := 37) S F dX8_reachesZero_37 (Or.inr rfl)
  · refine g_aload_n (pc := 7) 0 S dX8_reachesZero_7 rfl ?_
    refine g_getJ (pc := 8) S dX8_reachesZero_8 fl_X8_90 k0 ?_
    refine g_lconst (pc := 11) (v := (0 : Int64)) S dX8_reachesZero_11 (by decide) ?_
    refine g_lcmp_gt (pc := 12) (tgt := 32) S dX8_reachesZero_12 dX8_reachesZero_13 (by decide) hyp (fun hyp => ?_) (fun hyp => ?_)
    · refine g_iconst (pc := 32) (v := (1 : Int32)) S dX8_reachesZero_32 (by decide) ?_
      refine g_goto (pc := 33) (tgt := 37) S dX8_reachesZero_33 (by decide) ?_
      have hyp := Option.some.inj hyp
      subst hyp
      exact g_zret (pc := 37) S F dX8_reachesZero_37 (Or.inr rfl)
    · refine g_aload_n (pc := 16) 0 S dX8_reachesZero_16 rfl ?_
      refine g_getJ (pc := 17) S dX8_reachesZero_17 fl_X8_90 k0 ?_
      refine g_lconst (pc := 20) (v := (0 : Int64)) S dX8_reachesZero_20 (by decide) ?_
      refine g_lcmp_ne (pc := 21) (tgt := 36) S dX8_reachesZero_21 dX8_reachesZero_22 (by decide) hyp (fun hyp => ?_) (fun hyp => ?_)
      · refine g_aload_n (pc := 25) 0 S dX8_reachesZero_25 rfl ?_
        refine g_getI (pc := 26) S dX8_reachesZero_26 fl_X8_92 k0 ?_
        refine g_if_ne (pc := 29) (tgt := 36) S dX8_reachesZero_29 (by decide) hyp (fun hyp => ?_) (fun hyp => ?_)
        · refine g_iconst (pc := 32) (v := (1 : Int32)) S dX8_reachesZero_32 (by decide) ?_
          refine g_goto (pc := 33) (tgt := 37) S dX8_reachesZero_33 (by decide) ?_
          have hyp := Option.some.inj hyp
          subst hyp
          exact g_zret (pc := 37) S F dX8_reachesZero_37 (Or.inr rfl)
        · refine g_iconst (pc := 36) (v := (0 : Int32)) S dX8_reachesZero_36 (by decide) ?_
          have hyp := Option.some.inj hyp
          subst hyp
          exact g_zret (pc := 37) S F dX8_reachesZero_37 (Or.inl rfl)
      · refine g_iconst (pc := 36) (v := (0 : Int32)) S dX8_reachesZero_36 (by decide) ?_
        have hyp := Option.some.inj hyp
        subst hyp
        exact g_zret (pc := 37) S F dX8_reachesZero_37 (Or.inl rfl)
theorem m_X8_reachesZero {l : Launch} {D : va_G} {cT : Nat → ClassId} {aD : Nat → Nat} {c0 : Nat} (k0 : kd c0 (10 + 4, 0))  (h : Hp) {o : Int32} (hyp : s_X8_reachesZero c0  h = some o) : Ok l D cT aD yX8_reachesZero cX8_reachesZero 1 (some .boolean) 0 0 [.ref (aD c0)] h (some (.int o)) h :=
  Ok.of (by decide +kernel) rfl (Nat.le_of_ble_eq_true rfl) (fun K e1 e2 e3 e4 S F => by subst e1; exact o_X8_reachesZero S k0  h hyp F)
-- java/lang/Math floorDiv (JJ)J
noncomputable def s_J9_floorDiv_f86c9  (a0 : Int64) (a2 : Int64) (h : Hp) : Option (Int64) :=
  nzJ a2 <|
  lt (a0 / a2) fun v4_1 =>
  if (a0 ^^^ a2) < (0 : Int64) then (if (v4_1 * a2) = a0 then (some v4_1)
  else (some (v4_1 - (1 : Int64))))
  else (some v4_1)
set_option maxRecDepth 100000 in
set_option maxHeartbeats 4000000 in
theorem o_J9_floorDiv_f86c9 {K : gK} (S : Cx K RJ9 cJ9_floorDiv_f86c9 6 0 0)  (a0 : Int64) (a2 : Int64) (h : Hp) {o : Int64} (hyp : s_J9_floorDiv_f86c9  a0 a2 h = some o) (F : Rt K (some .long) (some (.long o)) h) : Go K 0 [(0, .long a0), (2, .long a2)] [] h := by
  unfold s_J9_floorDiv_f86c9 at hyp
  refine g_lload_n (pc := 0) 0 S dJ9_floorDiv_f86c9_0 rfl ?_
  refine g_lload_n (pc := 1) 1 S dJ9_floorDiv_f86c9_1 rfl ?_
  refine g_nzJ hyp (fun hz hyp => ?_)
  refine g_ldiv (pc := 2) S dJ9_floorDiv_f86c9_2 hz ?_
  refine g_lti (C := fun v4_1 => Go K 3 [(0, .long a0), (2, .long a2)] [.long v4_1] h) hyp (fun v4_1 hyp => ?_)
  refine g_lstore (pc := 3) (lv' := [(4, .long v4_1), (0, .long a0), (2, .long a2)]) S dJ9_floorDiv_f86c9_3 (by decide) rfl ?_
  refine g_lload_n (pc := 5) 1 S dJ9_floorDiv_f86c9_5 rfl ?_
  refine g_lload_n (pc := 6) 2 S dJ9_floorDiv_f86c9_6 rfl ?_
  refine g_lxor (pc := 7) S dJ9_floorDiv_f86c9_7 ?_
  refine g_lconst (pc := 8) (v := (0 : Int64)) S dJ9_floorDiv_f86c9_8 (by decide) ?_
  refine g_lcmp_ge (pc := 9) (tgt := 27) S dJ9_floorDiv_f86c9_9 dJ9_floorDiv_f86c9_10 (by decide) hyp (fun hyp => ?_) (fun hyp => ?_)
  · refine g_lload (pc := 13) 0 S dJ9_floorDiv_f86c9_13 rfl ?_
    refine g_lload_n (pc := 15) 2 S dJ9_floorDiv_f86c9_15 rfl ?_
    refine g_lmul (pc := 16) S dJ9_floorDiv_f86c9_16 ?_
    refine g_lload_n (pc := 17) 1 S dJ9_floorDiv_f86c9_17 rfl ?_
    refine g_lcmp_eq (pc := 18) (tgt := 27) S dJ9_floorDiv_f86c9_18 dJ9_floorDiv_f86c9_19 (by decide) hyp (fun hyp => ?_) (fun hyp => ?_)
    · refine g_lload (pc := 27) 0 S dJ9_floorDiv_f86c9_27 rfl ?_
      have hyp := Option.some.inj hyp
      subst hyp
      exact g_lret (pc := 29) S F dJ9_floorDiv_f86c9_29
    · refine g_lload (pc := 22) 0 S dJ9_floorDiv_f86c9_22 rfl ?_
      refine g_lconst (pc := 24) (v := (1 : Int64)) S dJ9_floorDiv_f86c9_24 (by decide) ?_
      refine g_lsub (pc := 25) S dJ9_floorDiv_f86c9_25 ?_
      have hyp := Option.some.inj hyp
      subst hyp
      exact g_lret (pc := 26) S F dJ9_floorDiv_f86c9_26
  · refine g_lload (pc := 27) 0 S dJ9_floorDiv_f86c9_27 rfl ?_
    have hyp := Option.some.inj hyp
    subst hyp
    exact g_lret (pc := 29) S F dJ9_floorDiv_f86c9_29
theorem m_J9_floorDiv_f86c9 {l : Launch} {D : va_G} {cT : Nat → ClassId} {aD : Nat → Nat}  (a0 : Int64) (a2 : Int64) (h : Hp) {o : Int64} (hyp : s_J9_floorDiv_f86c9  a0 a2 h = some o) : Ok l D cT aD yJ9_floorDiv_f86c9 cJ9_floorDiv_f86c9 6 (some .long) 0 0 [.long a0, .long a2] h (some (.long o)) h :=
  Ok.of (by decide +kernel) rfl (Nat.le_of_ble_eq_true rfl) (fun K e1 e2 e3 e4 S F => by subst e1; exact o_J9_floorDiv_f86c9 S  a0 a2 h hyp F)
