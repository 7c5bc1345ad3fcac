-- BoundProofsModel twoDet (III)J
def s_X10_twoDet_b108 (c0 : Nat) (a4 : Int64) (a6 : Int64) (a8 : Int64) (t0 : Int64) (h : Hp) : Option (Int64) :=
  (s_X10_det  a4 a6 a8 t0 h).bind fun y5 =>
  some y5
def s_X10_twoDet_b80 (c0 : Nat) (a2 : Int32) (a3 : Int32) (a4 : Int64) (a6 : Int64) (t0 : Int64) (h : Hp) : Option (Int64) :=
  if a3 = (1 : Int32) then (ldI h (c0 + 2) 30 (((3 : Int32) * a2) + (2 : Int32)) fun x4 =>
  s_X10_twoDet_b108 c0 a4 a6 t0 (x4).toInt64 h)
  else ((s_X10_coefficientOf c0 a2 (1 : Int32) h).bind fun y6 =>
  s_X10_twoDet_b108 c0 a4 a6 t0 (y6).toInt64 h)
def s_X10_twoDet_b53 (c0 : Nat) (a2 : Int32) (a3 : Int32) (a4 : Int64) (t0 : Int64) (h : Hp) : Option (Int64) :=
  if a3 = 0 then (ldI h (c0 + 2) 30 (((3 : Int32) * a2) + (2 : Int32)) fun x3 =>
  s_X10_twoDet_b80 c0 a2 a3 a4 t0 (x3).toInt64 h)
  else ((s_X10_coefficientOf c0 a2 (0 : Int32) h).bind fun y7 =>
  s_X10_twoDet_b80 c0 a2 a3 a4 t0 (y7).toInt64 h)
def s_X10_twoDet_b25 (c0 : Nat) (a1 : Int32) (a2 : Int32) (a3 : Int32) (t0 : Int64) (h : Hp) : Option (Int64) :=
  if a3 = (1 : Int32) then (ldI h (c0 + 2) 30 (((3 : Int32) * a1) + (2 : Int32)) fun x2 =>
  s_X10_twoDet_b53 c0 a2 a3 t0 (x2).toInt64 h)
  else ((s_X10_coefficientOf c0 a1 (1 : Int32) h).bind fun y8 =>
  s_X10_twoDet_b53 c0 a2 a3 t0 (y8).toInt64 h)
def s_X10_twoDet (c0 : Nat) (a1 : Int32) (a2 : Int32) (a3 : Int32) (h : Hp) : Option (Int64) :=
  if a3 = 0 then (ldI h (c0 + 2) 30 (((3 : Int32) * a1) + (2 : Int32)) fun x1 =>
  s_X10_twoDet_b25 c0 a1 a2 a3 (x1).toInt64 h)
  else ((s_X10_coefficientOf c0 a1 (0 : Int32) h).bind fun y9 =>
  s_X10_twoDet_b25 c0 a1 a2 a3 (y9).toInt64 h)
set_option maxRecDepth 100000 in
set_option maxHeartbeats 4000000 in
theorem o_X10_twoDet_b108 {K : gK} (S : Cx K RX10 cX10_twoDet 12 1 31) {c0 : Nat} (k0 : kd c0 (10 + 10, 0)) (a4 : Int64) (a6 : Int64) (a8 : Int64) (t0 : Int64) (h : Hp) {o : Int64} (hyp : s_X10_twoDet_b108 c0 a4 a6 a8 t0 h = some o) (F : Rt K (some .long) (some (.long o)) h) : Go K 108 [(4, .long a4), (6, .long a6), (8, .long a8)] [.long t0] h := by
  unfold s_X10_twoDet_b108 at hyp
  refine g_lstore (pc := 108) (lv' := [(10, .long t0), (4, .long a4), (6, .long a6), (8, .long a8)]) S dX10_twoDet_108 (by decide) rfl ?_
  refine g_lload (pc := 110) 1 S dX10_twoDet_110 rfl ?_
  refine g_lload (pc := 112) 2 S dX10_twoDet_112 rfl ?_
  refine g_lload (pc := 114) 3 S dX10_twoDet_114 rfl ?_
  refine g_lload (pc := 116) 0 S dX10_twoDet_116 rfl ?_
  refine g_bind hyp (fun y5 hy5 hyp => ?_)
  refine g_callS (pc := 118) (As := [.long a4, .long a6, .long a8, .long t0]) (rest := []) S dX10_twoDet_118 tw_1200 tw_1201 mw_X10_det (m_X10_det  a4 a6 a8 t0 h hy5) rfl rfl (Nat.le_of_ble_eq_true rfl) (Nat.le_of_ble_eq_true rfl) (Nat.le_of_ble_eq_true rfl) ?_
  cases hyp
  exact g_lret (pc := 121) S F dX10_twoDet_121
set_option maxRecDepth 100000 in
set_option maxHeartbeats 4000000 in
theorem o_X10_twoDet_b80 {K : gK} (S : Cx K RX10 cX10_twoDet 12 1 31) {c0 : Nat} (k0 : kd c0 (10 + 10, 0)) (a2 : Int32) (a3 : Int32) (a4 : Int64) (a6 : Int64) (t0 : Int64) (h : Hp) {o : Int64} (hyp : s_X10_twoDet_b80 c0 a2 a3 a4 a6 t0 h = some o) (F : Rt K (some .long) (some (.long o)) h) : Go K 80 [(0, .ref (ad K c0)), (2, .int a2), (3, .int a3), (4, .long a4), (6, .long a6)] [.long t0] h := by
  unfold s_X10_twoDet_b80 at hyp
  refine g_lstore (pc := 80) (lv' := [(8, .long t0), (0, .ref (ad K c0)), (2, .int a2), (3, .int a3), (4, .long a4), (6, .long a6)]) S dX10_twoDet_80 (by decide) rfl ?_
  refine g_iload_n (pc := 82) 3 S dX10_twoDet_82 rfl ?_
  refine g_iconst (pc := 83) (v := (1 : Int32)) S dX10_twoDet_83 (by decide) ?_
  refine g_icmp_ne (pc := 84) (tgt := 101) S dX10_twoDet_84 (by decide) hyp (fun hyp => ?_) (fun hyp => ?_)
  · refine g_aload_n (pc := 87) 1 S dX10_twoDet_87 rfl ?_
    refine g_getR (pc := 88) S dX10_twoDet_88 fl_X10_17 k0 ?_
    refine g_iconst (pc := 91) (v := (3 : Int32)) S dX10_twoDet_91 (by decide) ?_
    refine g_iload_n (pc := 92) 2 S dX10_twoDet_92 rfl ?_
    refine g_imul (pc := 93) S dX10_twoDet_93 ?_
    refine g_iconst (pc := 94) (v := (2 : Int32)) S dX10_twoDet_94 (by decide) ?_
    refine g_iadd (pc := 95) S dX10_twoDet_95 ?_
    refine g_iald (pc := 96) S dX10_twoDet_96 (kf_10_2 k0) hyp (fun x4 hyp => ?_)
    refine g_i2l (pc := 97) S dX10_twoDet_97 ?_
    refine g_goto (pc := 98) (tgt := 108) S dX10_twoDet_98 (by decide) ?_
    exact g_sub [4, 5, 0] rfl (o_X10_twoDet_b108 S k0 a4 a6 t0 (x4).toInt64 h hyp F)
  · refine g_aload_n (pc := 101) 1 S dX10_twoDet_101 rfl ?_
    refine g_iload_n (pc := 102) 2 S dX10_twoDet_102 rfl ?_
    refine g_iconst (pc := 103) (v := (1 : Int32)) S dX10_twoDet_103 (by decide) ?_
    refine g_bind hyp (fun y6 hy6 hyp => ?_)
    refine g_callV (pc := 104) (As := [.int a2, .int (1 : Int32)]) (rest := []) S dX10_twoDet_104 k0 rfl tw_1058 tw_1059 tw_42 mw_X10_coefficientOf (m_X10_coefficientOf k0 a2 (1 : Int32) h hy6) rfl rfl (Nat.le_of_ble_eq_true rfl) (Nat.le_of_ble_eq_true rfl) (Nat.le_of_ble_eq_true rfl) ?_
    refine g_i2l (pc := 107) S dX10_twoDet_107 ?_
    exact g_sub [4, 5, 0] rfl (o_X10_twoDet_b108 S k0 a4 a6 t0 (y6).toInt64 h hyp F)
set_option maxRecDepth 100000 in
set_option maxHeartbeats 4000000 in
theorem o_X10_twoDet_b53 {K : gK} (S : Cx K RX10 cX10_twoDet 12 1 31) {c0 : Nat} (k0 : kd c0 (10 + 10, 0)) (a2 : Int32) (a3 : Int32) (a4 : Int64) (t0 : Int64) (h : Hp) {o : Int64} (hyp : s_X10_twoDet_b53 c0 a2 a3 a4 t0 h = some o) (F : Rt K (some .long) (some (.long o)) h) : Go K 53 [(0, .ref (ad K c0)), (2, .int a2), (3, .int a3), (4, .long a4)] [.long t0] h := by
  unfold s_X10_twoDet_b53 at hyp
  refine g_lstore (pc := 53) (lv' := [(6, .long t0), (0, .ref (ad K c0)), (2, .int a2), (3, .int a3), (4, .long a4)]) S dX10_twoDet_53 (by decide) rfl ?_
  refine g_iload_n (pc := 55) 3 S dX10_twoDet_55 rfl ?_
  refine g_if_ne (pc := 56) (tgt := 73) S dX10_twoDet_56 (by decide) hyp (fun hyp => ?_) (fun hyp => ?_)
  · refine g_aload_n (pc := 59) 1 S dX10_twoDet_59 rfl ?_
    refine g_getR (pc := 60) S dX10_twoDet_60 fl_X10_17 k0 ?_
    refine g_iconst (pc := 63) (v := (3 : Int32)) S dX10_twoDet_63 (by decide) ?_
    refine g_iload_n (pc := 64) 2 S dX10_twoDet_64 rfl ?_
    refine g_imul (pc := 65) S dX10_twoDet_65 ?_
    refine g_iconst (pc := 66) (v := (2 : Int32)) S dX10_twoDet_66 (by decide) ?_
    refine g_iadd (pc := 67) S dX10_twoDet_67 ?_
    refine g_iald (pc := 68) S dX10_twoDet_68 (kf_10_2 k0) hyp (fun x3 hyp => ?_)
    refine g_i2l (pc := 69) S dX10_twoDet_69 ?_
    refine g_goto (pc := 70) (tgt := 80) S dX10_twoDet_70 (by decide) ?_
    exact g_sub [1, 2, 3, 4, 0] rfl (o_X10_twoDet_b80 S k0 a2 a3 a4 t0 (x3).toInt64 h hyp F)
  · refine g_aload_n (pc := 73) 1 S dX10_twoDet_73 rfl ?_
    refine g_iload_n (pc := 74) 2 S dX10_twoDet_74 rfl ?_
    refine g_iconst (pc := 75) (v := (0 : Int32)) S dX10_twoDet_75 (by decide) ?_
    refine g_bind hyp (fun y7 hy7 hyp => ?_)
    refine g_callV (pc := 76) (As := [.int a2, .int (0 : Int32)]) (rest := []) S dX10_twoDet_76 k0 rfl tw_1058 tw_1059 tw_42 mw_X10_coefficientOf (m_X10_coefficientOf k0 a2 (0 : Int32) h hy7) rfl rfl (Nat.le_of_ble_eq_true rfl) (Nat.le_of_ble_eq_true rfl) (Nat.le_of_ble_eq_true rfl) ?_
    refine g_i2l (pc := 79) S dX10_twoDet_79 ?_
    exact g_sub [1, 2, 3, 4, 0] rfl (o_X10_twoDet_b80 S k0 a2 a3 a4 t0 (y7).toInt64 h hyp F)
set_option maxRecDepth 100000 in
set_option maxHeartbeats 4000000 in
theorem o_X10_twoDet_b25 {K : gK} (S : Cx K RX10 cX10_twoDet 12 1 31) {c0 : Nat} (k0 : kd c0 (10 + 10, 0)) (a1 : Int32) (a2 : Int32) (a3 : Int32) (t0 : Int64) (h : Hp) {o : Int64} (hyp : s_X10_twoDet_b25 c0 a1 a2 a3 t0 h = some o) (F : Rt K (some .long) (some (.long o)) h) : Go K 25 [(0, .ref (ad K c0)), (1, .int a1), (2, .int a2), (3, .int a3)] [.long t0] h := by
  unfold s_X10_twoDet_b25 at hyp
  refine g_lstore (pc := 25) (lv' := [(4, .long t0), (0, .ref (ad K c0)), (1, .int a1), (2, .int a2), (3, .int a3)]) S dX10_twoDet_25 (by decide) rfl ?_
  refine g_iload_n (pc := 27) 4 S dX10_twoDet_27 rfl ?_
  refine g_iconst (pc := 28) (v := (1 : Int32)) S dX10_twoDet_28 (by decide) ?_
  refine g_icmp_ne (pc := 29) (tgt := 46) S dX10_twoDet_29 (by decide) hyp (fun hyp => ?_) (fun hyp => ?_)
  · refine g_aload_n (pc := 32) 1 S dX10_twoDet_32 rfl ?_
    refine g_getR (pc := 33) S dX10_twoDet_33 fl_X10_17 k0 ?_
    refine g_iconst (pc := 36) (v := (3 : Int32)) S dX10_twoDet_36 (by decide) ?_
    refine g_iload_n (pc := 37) 2 S dX10_twoDet_37 rfl ?_
    refine g_imul (pc := 38) S dX10_twoDet_38 ?_
    refine g_iconst (pc := 39) (v := (2 : Int32)) S dX10_twoDet_39 (by decide) ?_
    refine g_iadd (pc := 40) S dX10_twoDet_40 ?_
    refine g_iald (pc := 41) S dX10_twoDet_41 (kf_10_2 k0) hyp (fun x2 hyp => ?_)
    refine g_i2l (pc := 42) S dX10_twoDet_42 ?_
    refine g_goto (pc := 43) (tgt := 53) S dX10_twoDet_43 (by decide) ?_
    exact g_sub [1, 3, 4, 0] rfl (o_X10_twoDet_b53 S k0 a2 a3 t0 (x2).toInt64 h hyp F)
  · refine g_aload_n (pc := 46) 1 S dX10_twoDet_46 rfl ?_
    refine g_iload_n (pc := 47) 2 S dX10_twoDet_47 rfl ?_
    refine g_iconst (pc := 48) (v := (1 : Int32)) S dX10_twoDet_48 (by decide) ?_
    refine g_bind hyp (fun y8 hy8 hyp => ?_)
    refine g_callV (pc := 49) (As := [.int a1, .int (1 : Int32)]) (rest := []) S dX10_twoDet_49 k0 rfl tw_1058 tw_1059 tw_42 mw_X10_coefficientOf (m_X10_coefficientOf k0 a1 (1 : Int32) h hy8) rfl rfl (Nat.le_of_ble_eq_true rfl) (Nat.le_of_ble_eq_true rfl) (Nat.le_of_ble_eq_true rfl) ?_
    refine g_i2l (pc := 52) S dX10_twoDet_52 ?_
    exact g_sub [1, 3, 4, 0] rfl (o_X10_twoDet_b53 S k0 a2 a3 t0 (y8).toInt64 h hyp F)
set_option maxRecDepth 100000 in
set_option maxHeartbeats 4000000 in
theorem o_X10_twoDet {K : gK} (S : Cx K RX10 cX10_twoDet 12 1 31) {c0 : Nat} (k0 : kd c0 (10 + 10, 0)) (a1 : Int32) (a2 : Int32) (a3 : Int32) (h : Hp) {o : Int64} (hyp : s_X10_twoDet c0 a1 a2 a3 h = some o) (F : Rt K (some .long) (some (.long o)) h) : Go K 0 [(0, .ref (ad K c0)), (1, .int a1), (2, .int a2), (3, .int a3)] [] h := by
  unfold s_X10_twoDet at hyp
  refine g_iload_n (pc := 0) 3 S dX10_twoDet_0 rfl ?_
  refine g_if_ne (pc := 1) (tgt := 18) S dX10_twoDet_1 (by decide) hyp (fun hyp => ?_) (fun hyp => ?_)
  · refine g_aload_n (pc := 4) 0 S dX10_twoDet_4 rfl ?_
    refine g_getR (pc := 5) S dX10_twoDet_5 fl_X10_17 k0 ?_
    refine g_iconst (pc := 8) (v := (3 : Int32)) S dX10_twoDet_8 (by decide) ?_
    refine g_iload_n (pc := 9) 1 S dX10_twoDet_9 rfl ?_
    refine g_imul (pc := 10) S dX10_twoDet_10 ?_
    refine g_iconst (pc := 11) (v := (2 : Int32)) S dX10_twoDet_11 (by decide) ?_
    refine g_iadd (pc := 12) S dX10_twoDet_12 ?_
    refine g_iald (pc := 13) S dX10_twoDet_13 (kf_10_2 k0) hyp (fun x1 hyp => ?_)
    refine g_i2l (pc := 14) S dX10_twoDet_14 ?_
    refine g_goto (pc := 15) (tgt := 25) S dX10_twoDet_15 (by decide) ?_
    exact g_sub [0, 1, 2, 3] rfl (o_X10_twoDet_b25 S k0 a1 a2 a3 (x1).toInt64 h hyp F)
  · refine g_aload_n (pc := 18) 0 S dX10_twoDet_18 rfl ?_
    refine g_iload_n (pc := 19) 1 S dX10_twoDet_19 rfl ?_
    refine g_iconst (pc := 20) (v := (0 : Int32)) S dX10_twoDet_20 (by decide) ?_
    refine g_bind hyp (fun y9 hy9 hyp => ?_)
    refine g_callV (pc := 21) (As := [.int a1, .int (0 : Int32)]) (rest := []) S dX10_twoDet_21 k0 rfl tw_1058 tw_1059 tw_42 mw_X10_coefficientOf (m_X10_coefficientOf k0 a1 (0 : Int32) h hy9) rfl rfl (Nat.le_of_ble_eq_true rfl) (Nat.le_of_ble_eq_true rfl) (Nat.le_of_ble_eq_true rfl) ?_
    refine g_i2l (pc := 24) S dX10_twoDet_24 ?_
    exact g_sub [0, 1, 2, 3] rfl (o_X10_twoDet_b25 S k0 a1 a2 a3 (y9).toInt64 h hyp F)
theorem m_X10_twoDet {l : Launch} {D : va_G} {cT : Nat → ClassId} {aD : Nat → Nat} {c0 : Nat} (k0 : kd c0 (10 + 10, 0)) (a1 : Int32) (a2 : Int32) (a3 : Int32) (h : Hp) {o : Int64} (hyp : s_X10_twoDet c0 a1 a2 a3 h = some o) : Ok l D cT aD yX10_twoDet cX10_twoDet 12 (some .long) 1 31 [.ref (aD c0), .int a1, .int a2, .int a3] h (some (.long o)) h :=
  Ok.of (by decide +kernel) rfl (Nat.le_of_ble_eq_true rfl) (fun K e1 e2 e3 e4 S F => by subst e1; exact o_X10_twoDet S k0 a1 a2 a3 h hyp F)
-- BoundProofsModel cell (III)J
def s_X10_cell (c0 : Nat) (a1 : Int32) (a2 : Int32) (a3 : Int32) (h : Hp) : Option (Int64) :=
  if a2 = a3 then (ldI h (c0 + 2) 30 (((3 : Int32) * a1) + (2 : Int32)) fun x1 =>
  some (x1).toInt64)
  else ((s_X10_coefficientOf c0 a1 a2 h).bind fun y2 =>
  some (y2).toInt64)
set_option maxRecDepth 100000 in
set_option maxHeartbeats 4000000 in
theorem o_X10_cell {K : gK} (S : Cx K RX10 cX10_cell 4 1 26) {c0 : Nat} (k0 : kd c0 (10 + 10, 0)) (a1 : Int32) (a2 : Int32) (a3 : Int32) (h : Hp) {o : Int64} (hyp : s_X10_cell c0 a1 a2 a3 h = some o) (F : Rt K (some .long) (some (.long o)) h) : Go K 0 [(0, .ref (ad K c0)), (1, .int a1), (2, .int a2), (3, .int a3)] [] h := by
  unfold s_X10_cell at hyp
  refine g_iload_n (pc := 0) 2 S dX10_cell_0 rfl ?_
  refine g_iload_n (pc := 1) 3 S dX10_cell_1 rfl ?_
  refine g_icmp_ne (pc := 2) (tgt := 19) S dX10_cell_2 (by decide) hyp (fun hyp => ?_) (fun hyp => ?_)
  · refine g_aload_n (pc := 5) 0 S dX10_cell_5 rfl ?_
    refine g_getR (pc := 6) S dX10_cell_6 fl_X10_17 k0 ?_
    refine g_iconst (pc := 9) (v := (3 : Int32)) S dX10_cell_9 (by decide) ?_
    refine g_iload_n (pc := 10) 1 S dX10_cell_10 rfl ?_
    refine g_imul (pc := 11) S dX10_cell_11 ?_
    refine g_iconst (pc := 12) (v := (2 : Int32)) S dX10_cell_12 (by decide) ?_
    refine g_iadd (pc := 13) S dX10_cell_13 ?_
    refine g_iald (pc := 14) S dX10_cell_14 (kf_10_2 k0) hyp (fun x1 hyp => ?_)
    refine g_i2l (pc := 15) S dX10_cell_15 ?_
    refine g_goto (pc := 16) (tgt := 26) S dX10_cell_16 (by decide) ?_
    cases hyp
    exact g_lret (pc := 26) S F dX10_cell_26
  · refine g_aload_n (pc := 19) 0 S dX10_cell_19 rfl ?_
    refine g_iload_n (pc := 20) 1 S dX10_cell_20 rfl ?_
    refine g_iload_n (pc := 21) 2 S dX10_cell_21 rfl ?_
    refine g_bind hyp (fun y2 hy2 hyp => ?_)
    refine g_callV (pc := 22) (As := [.int a1, .int a2]) (rest := []) S dX10_cell_22 k0 rfl tw_1058 tw_1059 tw_42 mw_X10_coefficientOf (m_X10_coefficientOf k0 a1 a2 h hy2) rfl rfl (Nat.le_of_ble_eq_true rfl) (Nat.le_of_ble_eq_true rfl) (Nat.le_of_ble_eq_true rfl) ?_
    refine g_i2l (pc := 25) S dX10_cell_25 ?_
    cases hyp
    exact g_lret (pc := 26) S F dX10_cell_26
theorem m_X10_cell {l : Launch} {D : va_G} {cT : Nat → ClassId} {aD : Nat → Nat} {c0 : Nat} (k0 : kd c0 (10 + 10, 0)) (a1 : Int32) (a2 : Int32) (a3 : Int32) (h : Hp) {o : Int64} (hyp : s_X10_cell c0 a1 a2 a3 h = some o) : Ok l D cT aD yX10_cell cX10_cell 4 (some .long) 1 26 [.ref (aD c0), .int a1, .int a2, .int a3] h (some (.long o)) h :=
  Ok.of (by decide +kernel) rfl (Nat.le_of_ble_eq_true rfl) (fun K e1 e2 e3 e4 S F => by subst e1; exact o_X10_cell S k0 a1 a2 a3 h hyp F)
-- BoundProofsModel threeDet (IIII)J
def s_X10_threeDet (c0 : Nat) (a1 : Int32) (a2 : Int32) (a3 : Int32) (a4 : Int32) (h : Hp) : Option (Int64) :=
  (s_X10_cell c0 a2 (1 : Int32) a4 h).bind fun y1 =>
  (s_X10_cell c0 a2 (2 : Int32) a4 h).bind fun y2 =>
  (s_X10_cell c0 a3 (1 : Int32) a4 h).bind fun y3 =>
  (s_X10_cell c0 a3 (2 : Int32) a4 h).bind fun y4 =>
  (s_X10_det  y1 y2 y3 y4 h).bind fun y5 =>
  (s_X10_cell c0 a2 (0 : Int32) a4 h).bind fun y6 =>
  (s_X10_cell c0 a2 (2 : Int32) a4 h).bind fun y7 =>
  (s_X10_cell c0 a3 (0 : Int32) a4 h).bind fun y8 =>
  (s_X10_cell c0 a3 (2 : Int32) a4 h).bind fun y9 =>
  (s_X10_det  y6 y7 y8 y9 h).bind fun y10 =>
  (s_X10_cell c0 a2 (0 : Int32) a4 h).bind fun y11 =>
  (s_X10_cell c0 a2 (1 : Int32) a4 h).bind fun y12 =>
  (s_X10_cell c0 a3 (0 : Int32) a4 h).bind fun y13 =>
  (s_X10_cell c0 a3 (1 : Int32) a4 h).bind fun y14 =>
  (s_X10_det  y11 y12 y13 y14 h).bind fun y15 =>
  (s_X10_cell c0 a1 (0 : Int32) a4 h).bind fun y16 =>
  (s_X10_cell c0 a1 (1 : Int32) a4 h).bind fun y17 =>
  (s_X10_cell c0 a1 (2 : Int32) a4 h).bind fun y18 =>
  some (((y16 * y5) - (y17 * y10)) + (y18 * y15))
set_option maxRecDepth 100000 in
set_option maxHeartbeats 4000000 in
theorem o_X10_threeDet {K : gK} (S : Cx K RX10 cX10_threeDet 11 2 53) {c0 : Nat} (k0 : kd c0 (10 + 10, 0)) (a1 : Int32) (a2 : Int32) (a3 : Int32) (a4 : Int32) (h : Hp) {o : Int64} (hyp : s_X10_threeDet c0 a1 a2 a3 a4 h = some o) (F : Rt K (some .long) (some (.long o)) h) : Go K 0 [(0, .ref (ad K c0)), (1, .int a1), (2, .int a2), (3, .int a3), (4, .int a4)] [] h := by
  unfold s_X10_threeDet at hyp
  refine g_aload_n (pc := 0) 0 S dX10_threeDet_0 rfl ?_
  refine g_iload_n (pc := 1) 2 S dX10_threeDet_1 rfl ?_
  refine g_iconst (pc := 2) (v := (1 : Int32)) S dX10_threeDet_2 (by decide) ?_
  refine g_iload (pc := 3) 4 S dX10_threeDet_3 rfl ?_
  refine g_bind hyp (fun y1 hy1 hyp => ?_)
  refine g_callV (pc := 5) (As := [.int a2, .int (1 : Int32), .int a4]) (rest := []) S dX10_threeDet_5 k0 rfl tw_1206 tw_1207 tw_72 mw_X10_cell (m_X10_cell k0 a2 (1 : Int32) a4 h hy1) rfl rfl (Nat.le_of_ble_eq_true rfl) (Nat.le_of_ble_eq_true rfl) (Nat.le_of_ble_eq_true rfl) ?_
  refine g_aload_n (pc := 8) 0 S dX10_threeDet_8 rfl ?_
  refine g_iload_n (pc := 9) 2 S dX10_threeDet_9 rfl ?_
  refine g_iconst (pc := 10) (v := (2 : Int32)) S dX10_threeDet_10 (by decide) ?_
  refine g_iload (pc := 11) 4 S dX10_threeDet_11 rfl ?_
  refine g_bind hyp (fun y2 hy2 hyp => ?_)
  refine g_callV (pc := 13) (As := [.int a2, .int (2 : Int32), .int a4]) (rest := [.long y1]) S dX10_threeDet_13 k0 rfl tw_1206 tw_1207 tw_72 mw_X10_cell (m_X10_cell k0 a2 (2 : Int32) a4 h hy2) rfl rfl (Nat.le_of_ble_eq_true rfl) (Nat.le_of_ble_eq_true rfl) (Nat.le_of_ble_eq_true rfl) ?_
  refine g_aload_n (pc := 16) 0 S dX10_threeDet_16 rfl ?_
  refine g_iload_n (pc := 17) 3 S dX10_threeDet_17 rfl ?_
  refine g_iconst (pc := 18) (v := (1 : Int32)) S dX10_threeDet_18 (by decide) ?_
  refine g_iload (pc := 19) 4 S dX10_threeDet_19 rfl ?_
  refine g_bind hyp (fun y3 hy3 hyp => ?_)
  refine g_callV (pc := 21) (As := [.int a3, .int (1 : Int32), .int a4]) (rest := [.long y2, .long y1]) S dX10_threeDet_21 k0 rfl tw_1206 tw_1207 tw_72 mw_X10_cell (m_X10_cell k0 a3 (1 : Int32) a4 h hy3) rfl rfl (Nat.le_of_ble_eq_true rfl) (Nat.le_of_ble_eq_true rfl) (Nat.le_of_ble_eq_true rfl) ?_
  refine g_aload_n (pc := 24) 0 S dX10_threeDet_24 rfl ?_
  refine g_iload_n (pc := 25) 3 S dX10_threeDet_25 rfl ?_
  refine g_iconst (pc := 26) (v := (2 : Int32)) S dX10_threeDet_26 (by decide) ?_
  refine g_iload (pc := 27) 4 S dX10_threeDet_27 rfl ?_
  refine g_bind hyp (fun y4 hy4 hyp => ?_)
  refine g_callV (pc := 29) (As := [.int a3, .int (2 : Int32), .int a4]) (rest := [.long y3, .long y2, .long y1]) S dX10_threeDet_29 k0 rfl tw_1206 tw_1207 tw_72 mw_X10_cell (m_X10_cell k0 a3 (2 : Int32) a4 h hy4) rfl rfl (Nat.le_of_ble_eq_true rfl) (Nat.le_of_ble_eq_true rfl) (Nat.le_of_ble_eq_true rfl) ?_
  refine g_bind hyp (fun y5 hy5 hyp => ?_)
  refine g_callS (pc := 32) (As := [.long y1, .long y2, .long y3, .long y4]) (rest := []) S dX10_threeDet_32 tw_1200 tw_1201 mw_X10_det (m_X10_det  y1 y2 y3 y4 h hy5) rfl rfl (Nat.le_of_ble_eq_true rfl) (Nat.le_of_ble_eq_true rfl) (Nat.le_of_ble_eq_true rfl) ?_
  refine g_lstore (pc := 35) (lv' := [(5, .long y5), (0, .ref (ad K c0)), (1, .int a1), (2, .int a2), (3, .int a3), (4, .int a4)]) S dX10_threeDet_35 (by decide) rfl ?_
  refine g_aload_n (pc := 37) 1 S dX10_threeDet_37 rfl ?_
  refine g_iload_n (pc := 38) 3 S dX10_threeDet_38 rfl ?_
  refine g_iconst (pc := 39) (v := (0 : Int32)) S dX10_threeDet_39 (by decide) ?_
  refine g_iload (pc := 40) 5 S dX10_threeDet_40 rfl ?_
  refine g_bind hyp (fun y6 hy6 hyp => ?_)
  refine g_callV (pc := 42) (As := [.int a2, .int (0 : Int32), .int a4]) (rest := []) S dX10_threeDet_42 k0 rfl tw_1206 tw_1207 tw_72 mw_X10_cell (m_X10_cell k0 a2 (0 : Int32) a4 h hy6) rfl rfl (Nat.le_of_ble_eq_true rfl) (Nat.le_of_ble_eq_true rfl) (Nat.le_of_ble_eq_true rfl) ?_
  refine g_aload_n (pc := 45) 1 S dX10_threeDet_45 rfl ?_
  refine g_iload_n (pc := 46) 3 S dX10_threeDet_46 rfl ?_
  refine g_iconst (pc := 47) (v := (2 : Int32)) S dX10_threeDet_47 (by decide) ?_
  refine g_iload (pc := 48) 5 S dX10_threeDet_48 rfl ?_
  refine g_bind hyp (fun y7 hy7 hyp => ?_)
  refine g_callV (pc := 50) (As := [.int a2, .int (2 : Int32), .int a4]) (rest := [.long y6]) S dX10_threeDet_50 k0 rfl tw_1206 tw_1207 tw_72 mw_X10_cell (m_X10_cell k0 a2 (2 : Int32) a4 h hy7) rfl rfl (Nat.le_of_ble_eq_true rfl) (Nat.le_of_ble_eq_true rfl) (Nat.le_of_ble_eq_true rfl) ?_
  refine g_aload_n (pc := 53) 1 S dX10_threeDet_53 rfl ?_
  refine g_iload_n (pc := 54) 4 S dX10_threeDet_54 rfl ?_
  refine g_iconst (pc := 55) (v := (0 : Int32)) S dX10_threeDet_55 (by decide) ?_
  refine g_iload (pc := 56) 5 S dX10_threeDet_56 rfl ?_
  refine g_bind hyp (fun y8 hy8 hyp => ?_)
  refine g_callV (pc := 58) (As := [.int a3, .int (0 : Int32), .int a4]) (rest := [.long y7, .long y6]) S dX10_threeDet_58 k0 rfl tw_1206 tw_1207 tw_72 mw_X10_cell (m_X10_cell k0 a3 (0 : Int32) a4 h hy8) rfl rfl (Nat.le_of_ble_eq_true rfl) (Nat.le_of_ble_eq_true rfl) (Nat.le_of_ble_eq_true rfl) ?_
  refine g_aload_n (pc := 61) 1 S dX10_threeDet_61 rfl ?_
  refine g_iload_n (pc := 62) 4 S dX10_threeDet_62 rfl ?_
  refine g_iconst (pc := 63) (v := (2 : Int32)) S dX10_threeDet_63 (by decide) ?_
  refine g_iload (pc := 64) 5 S dX10_threeDet_64 rfl ?_
  refine g_bind hyp (fun y9 hy9 hyp => ?_)
  refine g_callV (pc := 66) (As := [.int a3, .int (2 : Int32), .int a4]) (rest := [.long y8, .long y7, .long y6]) S dX10_threeDet_66 k0 rfl tw_1206 tw_1207 tw_72 mw_X10_cell (m_X10_cell k0 a3 (2 : Int32) a4 h hy9) rfl rfl (Nat.le_of_ble_eq_true rfl) (Nat.le_of_ble_eq_true rfl) (Nat.le_of_ble_eq_true rfl) ?_
  refine g_bind hyp (fun y10 hy10 hyp => ?_)
  refine g_callS (pc := 69) (As := [.long y6, .long y7, .long y8, .long y9]) (rest := []) S dX10_threeDet_69 tw_1200 tw_1201 mw_X10_det (m_X10_det  y6 y7 y8 y9 h hy10) rfl rfl (Nat.le_of_ble_eq_true rfl) (Nat.le_of_ble_eq_true rfl) (Nat.le_of_ble_eq_true rfl) ?_
  refine g_lstore (pc := 72) (lv' := [(7, .long y10), (5, .long y5), (0, .ref (ad K c0)), (1, .int a1), (2, .int a2), (3, .int a3), (4, .int a4)]) S dX10_threeDet_72 (by decide) rfl ?_
  refine g_aload_n (pc := 74) 2 S dX10_threeDet_74 rfl ?_
  refine g_iload_n (pc := 75) 4 S dX10_threeDet_75 rfl ?_
  refine g_iconst (pc := 76) (v := (0 : Int32)) S dX10_threeDet_76 (by decide) ?_
  refine g_iload (pc := 77) 6 S dX10_threeDet_77 rfl ?_
  refine g_bind hyp (fun y11 hy11 hyp => ?_)
  refine g_callV (pc := 79) (As := [.int a2, .int (0 : Int32), .int a4]) (rest := []) S dX10_threeDet_79 k0 rfl tw_1206 tw_1207 tw_72 mw_X10_cell (m_X10_cell k0 a2 (0 : Int32) a4 h hy11) rfl rfl (Nat.le_of_ble_eq_true rfl) (Nat.le_of_ble_eq_true rfl) (Nat.le_of_ble_eq_true rfl) ?_
  refine g_aload_n (pc := 82) 2 S dX10_threeDet_82 rfl ?_
  refine g_iload_n (pc := 83) 4 S dX10_threeDet_83 rfl ?_
  refine g_iconst (pc := 84) (v := (1 : Int32)) S dX10_threeDet_84 (by decide) ?_
  refine g_iload (pc := 85) 6 S dX10_threeDet_85 rfl ?_
  refine g_bind hyp (fun y12 hy12 hyp => ?_)
  refine g_callV (pc := 87) (As := [.int a2, .int (1 : Int32), .int a4]) (rest := [.long y11]) S dX10_threeDet_87 k0 rfl tw_1206 tw_1207 tw_72 mw_X10_cell (m_X10_cell k0 a2 (1 : Int32) a4 h hy12) rfl rfl (Nat.le_of_ble_eq_true rfl) (Nat.le_of_ble_eq_true rfl) (Nat.le_of_ble_eq_true rfl) ?_
  refine g_aload_n (pc := 90) 2 S dX10_threeDet_90 rfl ?_
  refine g_iload_n (pc := 91) 5 S dX10_threeDet_91 rfl ?_
  refine g_iconst (pc := 92) (v := (0 : Int32)) S dX10_threeDet_92 (by decide) ?_
  refine g_iload (pc := 93) 6 S dX10_threeDet_93 rfl ?_
  refine g_bind hyp (fun y13 hy13 hyp => ?_)
  refine g_callV (pc := 95) (As := [.int a3, .int (0 : Int32), .int a4]) (rest := [.long y12, .long y11]) S dX10_threeDet_95 k0 rfl tw_1206 tw_1207 tw_72 mw_X10_cell (m_X10_cell k0 a3 (0 : Int32) a4 h hy13) rfl rfl (Nat.le_of_ble_eq_true rfl) (Nat.le_of_ble_eq_true rfl) (Nat.le_of_ble_eq_true rfl) ?_
  refine g_aload_n (pc := 98) 2 S dX10_threeDet_98 rfl ?_
  refine g_iload_n (pc := 99) 5 S dX10_threeDet_99 rfl ?_
  refine g_iconst (pc := 100) (v := (1 : Int32)) S dX10_threeDet_100 (by decide) ?_
  refine g_iload (pc := 101) 6 S dX10_threeDet_101 rfl ?_
  refine g_bind hyp (fun y14 hy14 hyp => ?_)
  refine g_callV (pc := 103) (As := [.int a3, .int (1 : Int32), .int a4]) (rest := [.long y13, .long y12, .long y11]) S dX10_threeDet_103 k0 rfl tw_1206 tw_1207 tw_72 mw_X10_cell (m_X10_cell k0 a3 (1 : Int32) a4 h hy14) rfl rfl (Nat.le_of_ble_eq_true rfl) (Nat.le_of_ble_eq_true rfl) (Nat.le_of_ble_eq_true rfl) ?_
  refine g_bind hyp (fun y15 hy15 hyp => ?_)
  refine g_callS (pc := 106) (As := [.long y11, .long y12, .long y13, .long y14]) (rest := []) S dX10_threeDet_106 tw_1200 tw_1201 mw_X10_det (m_X10_det  y11 y12 y13 y14 h hy15) rfl rfl (Nat.le_of_ble_eq_true rfl) (Nat.le_of_ble_eq_true rfl) (Nat.le_of_ble_eq_true rfl) ?_
  refine g_lstore (pc := 109) (lv' := [(9, .long y15), (7, .long y10), (5, .long y5), (0, .ref (ad K c0)), (1, .int a1), (2, .int a2), (3, .int a3), (4, .int a4)]) S dX10_threeDet_109 (by decide) rfl ?_
  refine g_aload_n (pc := 111) 3 S dX10_threeDet_111 rfl ?_
  refine g_iload_n (pc := 112) 4 S dX10_threeDet_112 rfl ?_
  refine g_iconst (pc := 113) (v := (0 : Int32)) S dX10_threeDet_113 (by decide) ?_
  refine g_iload (pc := 114) 7 S dX10_threeDet_114 rfl ?_
  refine g_bind hyp (fun y16 hy16 hyp => ?_)
  refine g_callV (pc := 116) (As := [.int a1, .int (0 : Int32), .int a4]) (rest := []) S dX10_threeDet_116 k0 rfl tw_1206 tw_1207 tw_72 mw_X10_cell (m_X10_cell k0 a1 (0 : Int32) a4 h hy16) rfl rfl (Nat.le_of_ble_eq_true rfl) (Nat.le_of_ble_eq_true rfl) (Nat.le_of_ble_eq_true rfl) ?_
  refine g_lload (pc := 119) 2 S dX10_threeDet_119 rfl ?_
  refine g_lmul (pc := 121) S dX10_threeDet_121 ?_
  refine g_aload_n (pc := 122) 3 S dX10_threeDet_122 rfl ?_
  refine g_iload_n (pc := 123) 4 S dX10_threeDet_123 rfl ?_
  refine g_iconst (pc := 124) (v := (1 : Int32)) S dX10_threeDet_124 (by decide) ?_
  refine g_iload (pc := 125) 7 S dX10_threeDet_125 rfl ?_
  refine g_bind hyp (fun y17 hy17 hyp => ?_)
  refine g_callV (pc := 127) (As := [.int a1, .int (1 : Int32), .int a4]) (rest := [.long (y16 * y5)]) S dX10_threeDet_127 k0 rfl tw_1206 tw_1207 tw_72 mw_X10_cell (m_X10_cell k0 a1 (1 : Int32) a4 h hy17) rfl rfl (Nat.le_of_ble_eq_true rfl) (Nat.le_of_ble_eq_true rfl) (Nat.le_of_ble_eq_true rfl) ?_
  refine g_lload (pc := 130) 1 S dX10_threeDet_130 rfl ?_
  refine g_lmul (pc := 132) S dX10_threeDet_132 ?_
  refine g_lsub (pc := 133) S dX10_threeDet_133 ?_
  refine g_aload_n (pc := 134) 3 S dX10_threeDet_134 rfl ?_
  refine g_iload_n (pc := 135) 4 S dX10_threeDet_135 rfl ?_
  refine g_iconst (pc := 136) (v := (2 : Int32)) S dX10_threeDet_136 (by decide) ?_
  refine g_iload (pc := 137) 7 S dX10_threeDet_137 rfl ?_
  refine g_bind hyp (fun y18 hy18 hyp => ?_)
  refine g_callV (pc := 139) (As := [.int a1, .int (2 : Int32), .int a4]) (rest := [.long ((y16 * y5) - (y17 * y10))]) S dX10_threeDet_139 k0 rfl tw_1206 tw_1207 tw_72 mw_X10_cell (m_X10_cell k0 a1 (2 : Int32) a4 h hy18) rfl rfl (Nat.le_of_ble_eq_true rfl) (Nat.le_of_ble_eq_true rfl) (Nat.le_of_ble_eq_true rfl) ?_
  refine g_lload (pc := 142) 0 S dX10_threeDet_142 rfl ?_
  refine g_lmul (pc := 144) S dX10_threeDet_144 ?_
  refine g_ladd (pc := 145) S dX10_threeDet_145 ?_
  cases hyp
  exact g_lret (pc := 146) S F dX10_threeDet_146
theorem m_X10_threeDet {l : Launch} {D : va_G} {cT : Nat → ClassId} {aD : Nat → Nat} {c0 : Nat} (k0 : kd c0 (10 + 10, 0)) (a1 : Int32) (a2 : Int32) (a3 : Int32) (a4 : Int32) (h : Hp) {o : Int64} (hyp : s_X10_threeDet c0 a1 a2 a3 a4 h = some o) : Ok l D cT aD yX10_threeDet cX10_threeDet 11 (some .long) 2 53 [.ref (aD c0), .int a1, .int a2, .int a3, .int a4] h (some (.long o)) h :=
  Ok.of (by decide +kernel) rfl (Nat.le_of_ble_eq_true rfl) (fun K e1 e2 e3 e4 S F => by subst e1; exact o_X10_threeDet S k0 a1 a2 a3 a4 h hyp F)
-- BoundProofsModel setPoint (III)Z
def s_X10_setPoint_l224 (c0 : Nat) (a4 : Int64) (a6 : Int32) (h : Hp) : Option ((Int32 × Hp) ⊕ (Hp)) :=
  if a6 < (4 : Int32) then (ldJ h (c0 + 22) 4 a6 fun x16 =>
  nzJ a4 <|
  stJ h (c0 + 22) 4 a6 (x16 / a4) fun h17 =>
  lt (a6 + (1 : Int32)) fun v6_18 =>
  some (.inl (v6_18, h17)))
  else (some (.inr (h)))
def s_X10_setPoint_b219 (c0 : Nat) (t0 : Int64) (h : Hp) : Option (Int32 × Hp) :=
  (iter (fun s : Int32 × Hp => s_X10_setPoint_l224 c0 t0 s.1 s.2) FUEL ((0 : Int32), h)).bind fun e19 =>
  some ((1 : Int32), e19)
def s_X10_setPoint_b152 (c0 : Nat)  (h : Hp) : Option (Int32 × Hp) :=
  ldJ h (c0 + 22) 4 (3 : Int32) fun x7 =>
  if x7 = (0 : Int64) then (some ((0 : Int32), h))
  else (ldJ h (c0 + 22) 4 (0 : Int32) fun x8 =>
  ldJ h (c0 + 22) 4 (1 : Int32) fun x9 =>
  (s_X10_gcd  x8 x9 h).bind fun y10 =>
  ldJ h (c0 + 22) 4 (2 : Int32) fun x11 =>
  ldJ h (c0 + 22) 4 (3 : Int32) fun x12 =>
  (s_X10_gcd  x11 x12 h).bind fun y13 =>
  (s_X10_gcd  y10 y13 h).bind fun y14 =>
  ldJ h (c0 + 22) 4 (3 : Int32) fun x15 =>
  if x15 < (0 : Int64) then (s_X10_setPoint_b219 c0 (-y14) h)
  else (s_X10_setPoint_b219 c0 y14 h))
def s_X10_setPoint_l109 (c0 : Nat) (a1 : Int32) (a2 : Int32) (a3 : Int32) (a4 : Int32) (h : Hp) : Option ((Int32 × Hp) ⊕ (Hp)) :=
  if a4 < (3 : Int32) then ((s_X10_threeDet c0 a1 a2 a3 a4 h).bind fun y26 =>
  stJ h (c0 + 22) 4 a4 y26 fun h27 =>
  lt (a4 + (1 : Int32)) fun v4_28 =>
  some (.inl (v4_28, h27)))
  else (some (.inr (h)))
def s_X10_setPoint (c0 : Nat) (a1 : Int32) (a2 : Int32) (a3 : Int32) (h : Hp) : Option (Int32 × Hp) :=
  stJ h (c0 + 22) 4 (1 : Int32) (0 : Int64) fun h1 =>
  stJ h1 (c0 + 22) 4 (2 : Int32) (0 : Int64) fun h2 =>
  if (h2.1 c0 0) = (1 : Int32) then (ldI h2 (c0 + 2) 30 (((3 : Int32) * a1) + (2 : Int32)) fun x3 =>
  stJ h2 (c0 + 22) 4 (0 : Int32) (x3).toInt64 fun h4 =>
  (s_X10_coefficientOf c0 a1 (0 : Int32) h4).bind fun y5 =>
  stJ h4 (c0 + 22) 4 (3 : Int32) (y5).toInt64 fun h6 =>
  s_X10_setPoint_b152 c0  h6)
  else (if (h2.1 c0 0) = (2 : Int32) then ((s_X10_twoDet c0 a1 a2 (0 : Int32) h2).bind fun y20 =>
  stJ h2 (c0 + 22) 4 (0 : Int32) y20 fun h21 =>
  (s_X10_twoDet c0 a1 a2 (1 : Int32) h21).bind fun y22 =>
  stJ h21 (c0 + 22) 4 (1 : Int32) y22 fun h23 =>
  (s_X10_twoDet c0 a1 a2 (-9 : Int32) h23).bind fun y24 =>
  stJ h23 (c0 + 22) 4 (3 : Int32) y24 fun h25 =>
  s_X10_setPoint_b152 c0  h25)
  else ((iter (fun s : Int32 × Hp => s_X10_setPoint_l109 c0 a1 a2 a3 s.1 s.2) FUEL ((0 : Int32), h2)).bind fun e29 =>
  (s_X10_threeDet c0 a1 a2 a3 (-9 : Int32) e29).bind fun y30 =>
  stJ e29 (c0 + 22) 4 (3 : Int32) y30 fun h31 =>
  s_X10_setPoint_b152 c0  h31))
set_option maxRecDepth 100000 in
set_option maxHeartbeats 4000000 in
theorem o_X10_setPoint_l224 {K : gK} (S : Cx K RX10 cX10_setPoint 7 3 87) {c0 : Nat} (k0 : kd c0 (10 + 10, 0)) (a4 : Int64) (a6 : Int32) (h : Hp) {o : (Int32 × Hp) ⊕ (Hp)} (hyp : s_X10_setPoint_l224 c0 a4 a6 h = some o) (hin : ∀ s', o = .inl s' → Go K 224 [(0, .ref (ad K c0)), (4, .long a4), (6, .int s'.1)] [] s'.2) (hex0 : ∀ s', o = .inr (s') → Go K 248 [] [] s') : Go K 224 [(0, .ref (ad K c0)), (4, .long a4), (6, .int a6)] [] h := by
  unfold s_X10_setPoint_l224 at hyp
  refine g_iload (pc := 224) 2 S dX10_setPoint_224 rfl ?_
  refine g_iconst (pc := 226) (v := (4 : Int32)) S dX10_setPoint_226 (by decide) ?_
  refine g_icmp_ge (pc := 227) (tgt := 248) S dX10_setPoint_227 (by decide) hyp (fun hyp => ?_) (fun hyp => ?_)
  · refine g_aload_n (pc := 230) 0 S dX10_setPoint_230 rfl ?_
    refine g_getR (pc := 231) S dX10_setPoint_231 fl_X10_82 k0 ?_
    refine g_iload (pc := 234) 2 S dX10_setPoint_234 rfl ?_
    refine g_dup2 (pc := 236) S dX10_setPoint_236 rfl rfl ?_
    refine g_lald (pc := 237) S dX10_setPoint_237 (kf_10_22 k0) hyp (fun x16 hyp => ?_)
    refine g_lload (pc := 238) 1 S dX10_setPoint_238 rfl ?_
    refine g_nzJ hyp (fun hz hyp => ?_)
    refine g_ldiv (pc := 240) S dX10_setPoint_240 hz ?_
    refine g_last (pc := 241) S dX10_setPoint_241 (kf_10_22 k0) hyp (fun h17 hyp => ?_)
    refine g_iinc (pc := 242) (v := (a6 + (1 : Int32))) (lv' := [(6, .int (a6 + (1 : Int32))), (0, .ref (ad K c0)), (4, .long a4)]) 2 S dX10_setPoint_242 rfl (by rfl) (by decide) rfl ?_
    refine g_lti (C := fun v6_18 => Go K (242 + 3) [(6, .int v6_18), (0, .ref (ad K c0)), (4, .long a4)] [] h17) hyp (fun v6_18 hyp => ?_)
    refine g_goto (pc := 245) (tgt := 224) S dX10_setPoint_245 (by decide) ?_
    cases hyp
    exact g_sub [1, 2, 0] rfl (hin _ rfl)
  · cases hyp
    exact g_sub [] rfl (hex0 _ rfl)
set_option maxRecDepth 100000 in
set_option maxHeartbeats 4000000 in
theorem o_X10_setPoint_b219 {K : gK} (S : Cx K RX10 cX10_setPoint 7 3 87) {c0 : Nat} (k0 : kd c0 (10 + 10, 0)) (t0 : Int64) (h : Hp) {o : Int32 × Hp} (hyp : s_X10_setPoint_b219 c0 t0 h = some o) (F : Rt K (some .boolean) (some (.int o.1)) o.2) : Go K 219 [(0, .ref (ad K c0))] [.long t0] h := by
  unfold s_X10_setPoint_b219 at hyp
  refine g_lstore (pc := 219) (lv' := [(4, .long t0), (0, .ref (ad K c0))]) S dX10_setPoint_219 (by decide) rfl ?_
  refine g_iconst (pc := 221) (v := (0 : Int32)) S dX10_setPoint_221 (by decide) ?_
  refine g_istore (pc := 222) (lv' := [(6, .int (0 : Int32)), (4, .long t0), (0, .ref (ad K c0))]) S dX10_setPoint_222 (by decide) rfl ?_
  refine g_bind hyp (fun e19 he19 hyp => ?_)
  refine g_sub [2, 1, 0] rfl (g_loop (Hd := fun s : Int32 × Hp => Go K 224 [(0, .ref (ad K c0)), (4, .long t0), (6, .int s.1)] [] s.2) (Ex := fun e19 => Go K 248 [] [] e19) (fun s o h1 h2 h3 => o_X10_setPoint_l224 S k0 t0 s.1 s.2 h1 h2 h3) FUEL _ e19 he19 ?_)
  refine g_iconst (pc := 248) (v := (1 : Int32)) S dX10_setPoint_248 (by decide) ?_
  cases hyp
  exact g_zret (pc := 249) S F dX10_setPoint_249 (Or.inr rfl)
set_option maxRecDepth 100000 in
set_option maxHeartbeats 4000000 in
theorem o_X10_setPoint_b152 {K : gK} (S : Cx K RX10 cX10_setPoint 7 3 87) {c0 : Nat} (k0 : kd c0 (10 + 10, 0))  (h : Hp) {o : Int32 × Hp} (hyp : s_X10_setPoint_b152 c0  h = some o) (F : Rt K (some .boolean) (some (.int o.1)) o.2) : Go K 152 [(0, .ref (ad K c0))] [] h := by
  unfold s_X10_setPoint_b152 at hyp
  refine g_aload_n (pc := 152) 0 S dX10_setPoint_152 rfl ?_
  refine g_getR (pc := 153) S dX10_setPoint_153 fl_X10_82 k0 ?_
  refine g_iconst (pc := 156) (v := (3 : Int32)) S dX10_setPoint_156 (by decide) ?_
  refine g_lald (pc := 157) S dX10_setPoint_157 (kf_10_22 k0) hyp (fun x7 hyp => ?_)
  refine g_lconst (pc := 158) (v := (0 : Int64)) S dX10_setPoint_158 (by decide) ?_
  refine g_lcmp_ne (pc := 159) (tgt := 165) S dX10_setPoint_159 dX10_setPoint_160 (by decide) hyp (fun hyp => ?_) (fun hyp => ?_)
  · refine g_iconst (pc := 163) (v := (0 : Int32)) S dX10_setPoint_163 (by decide) ?_
    cases hyp
    exact g_zret (pc := 164) S F dX10_setPoint_164 (Or.inl rfl)
  · refine g_aload_n (pc := 165) 0 S dX10_setPoint_165 rfl ?_
    refine g_getR (pc := 166) S dX10_setPoint_166 fl_X10_82 k0 ?_
    refine g_iconst (pc := 169) (v := (0 : Int32)) S dX10_setPoint_169 (by decide) ?_
    refine g_lald (pc := 170) S dX10_setPoint_170 (kf_10_22 k0) hyp (fun x8 hyp => ?_)
    refine g_aload_n (pc := 171) 0 S dX10_setPoint_171 rfl ?_
    refine g_getR (pc := 172) S dX10_setPoint_172 fl_X10_82 k0 ?_
    refine g_iconst (pc := 175) (v := (1 : Int32)) S dX10_setPoint_175 (by decide) ?_
    refine g_lald (pc := 176) S dX10_setPoint_176 (kf_10_22 k0) hyp (fun x9 hyp => ?_)
    refine g_bind hyp (fun y10 hy10 hyp => ?_)
    refine g_callS (pc := 177) (As := [.long x8, .long x9]) (rest := []) S dX10_setPoint_177 tw_1106 tw_1107 mw_X10_gcd (m_X10_gcd  x8 x9 h hy10) rfl rfl (Nat.le_of_ble_eq_true rfl) (Nat.le_of_ble_eq_true rfl) (Nat.le_of_ble_eq_true rfl) ?_
    refine g_aload_n (pc := 180) 0 S dX10_setPoint_180 rfl ?_
    refine g_getR (pc := 181) S dX10_setPoint_181 fl_X10_82 k0 ?_
    refine g_iconst (pc := 184) (v := (2 : Int32)) S dX10_setPoint_184 (by decide) ?_
    refine g_lald (pc := 185) S dX10_setPoint_185 (kf_10_22 k0) hyp (fun x11 hyp => ?_)
    refine g_aload_n (pc := 186) 0 S dX10_setPoint_186 rfl ?_
    refine g_getR (pc := 187) S dX10_setPoint_187 fl_X10_82 k0 ?_
    refine g_iconst (pc := 190) (v := (3 : Int32)) S dX10_setPoint_190 (by decide) ?_
    refine g_lald (pc := 191) S dX10_setPoint_191 (kf_10_22 k0) hyp (fun x12 hyp => ?_)
    refine g_bind hyp (fun y13 hy13 hyp => ?_)
    refine g_callS (pc := 192) (As := [.long x11, .long x12]) (rest := [.long y10]) S dX10_setPoint_192 tw_1106 tw_1107 mw_X10_gcd (m_X10_gcd  x11 x12 h hy13) rfl rfl (Nat.le_of_ble_eq_true rfl) (Nat.le_of_ble_eq_true rfl) (Nat.le_of_ble_eq_true rfl) ?_
    refine g_bind hyp (fun y14 hy14 hyp => ?_)
    refine g_callS (pc := 195) (As := [.long y10, .long y13]) (rest := []) S dX10_setPoint_195 tw_1106 tw_1107 mw_X10_gcd (m_X10_gcd  y10 y13 h hy14) rfl rfl (Nat.le_of_ble_eq_true rfl) (Nat.le_of_ble_eq_true rfl) (Nat.le_of_ble_eq_true rfl) ?_
    refine g_lstore (pc := 198) (lv' := [(4, .long y14), (0, .ref (ad K c0))]) S dX10_setPoint_198 (by decide) rfl ?_
    refine g_aload_n (pc := 200) 1 S dX10_setPoint_200 rfl ?_
    refine g_getR (pc := 201) S dX10_setPoint_201 fl_X10_82 k0 ?_
    refine g_iconst (pc := 204) (v := (3 : Int32)) S dX10_setPoint_204 (by decide) ?_
    refine g_lald (pc := 205) S dX10_setPoint_205 (kf_10_22 k0) hyp (fun x15 hyp => ?_)
    refine g_lconst (pc := 206) (v := (0 : Int64)) S dX10_setPoint_206 (by decide) ?_
    refine g_lcmp_ge (pc := 207) (tgt := 217) S dX10_setPoint_207 dX10_setPoint_208 (by decide) hyp (fun hyp => ?_) (fun hyp => ?_)
    · refine g_lload (pc := 211) 0 S dX10_setPoint_211 rfl ?_
      refine g_lneg (pc := 213) S dX10_setPoint_213 ?_
      refine g_goto (pc := 214) (tgt := 219) S dX10_setPoint_214 (by decide) ?_
      exact g_sub [1] rfl (o_X10_setPoint_b219 S k0 (-y14) h hyp F)
    · refine g_lload (pc := 217) 0 S dX10_setPoint_217 rfl ?_
      exact g_sub [1] rfl (o_X10_setPoint_b219 S k0 y14 h hyp F)
set_option maxRecDepth 100000 in
set_option maxHeartbeats 4000000 in
theorem o_X10_setPoint_l109 {K : gK} (S : Cx K RX10 cX10_setPoint 7 3 87) {c0 : Nat} (k0 : kd c0 (10 + 10, 0)) (a1 : Int32) (a2 : Int32) (a3 : Int32) (a4 : Int32) (h : Hp) {o : (Int32 × Hp) ⊕ (Hp)} (hyp : s_X10_setPoint_l109 c0 a1 a2 a3 a4 h = some o) (hin : ∀ s', o = .inl s' → Go K 109 [(0, .ref (ad K c0)), (1, .int a1), (2, .int a2), (3, .int a3), (4, .int s'.1)] [] s'.2) (hex0 : ∀ s', o = .inr (s') → Go K 137 [(0, .ref (ad K c0)), (1, .int a1), (2, .int a2), (3, .int a3)] [] s') : Go K 109 [(0, .ref (ad K c0)), (1, .int a1), (2, .int a2), (3, .int a3), (4, .int a4)] [] h := by
  unfold s_X10_setPoint_l109 at hyp
  refine g_iload (pc := 109) 4 S dX10_setPoint_109 rfl ?_
  refine g_iconst (pc := 111) (v := (3 : Int32)) S dX10_setPoint_111 (by decide) ?_
  refine g_icmp_ge (pc := 112) (tgt := 137) S dX10_setPoint_112 (by decide) hyp (fun hyp => ?_) (fun hyp => ?_)
  · refine g_aload_n (pc := 115) 0 S dX10_setPoint_115 rfl ?_
    refine g_getR (pc := 116) S dX10_setPoint_116 fl_X10_82 k0 ?_
    refine g_iload (pc := 119) 4 S dX10_setPoint_119 rfl ?_
    refine g_aload_n (pc := 121) 0 S dX10_setPoint_121 rfl ?_
    refine g_iload_n (pc := 122) 1 S dX10_setPoint_122 rfl ?_
    refine g_iload_n (pc := 123) 2 S dX10_setPoint_123 rfl ?_
    refine g_iload_n (pc := 124) 3 S dX10_setPoint_124 rfl ?_
    refine g_iload (pc := 125) 4 S dX10_setPoint_125 rfl ?_
    refine g_bind hyp (fun y26 hy26 hyp => ?_)
    refine g_callV (pc := 127) (As := [.int a1, .int a2, .int a3, .int a4]) (rest := [.int a4, .ref (ad K (c0 + 22))]) S dX10_setPoint_127 k0 rfl tw_1203 tw_1204 tw_71 mw_X10_threeDet (m_X10_threeDet k0 a1 a2 a3 a4 h hy26) rfl rfl (Nat.le_of_ble_eq_true rfl) (Nat.le_of_ble_eq_true rfl) (Nat.le_of_ble_eq_true rfl) ?_
    refine g_last (pc := 130) S dX10_setPoint_130 (kf_10_22 k0) hyp (fun h27 hyp => ?_)
    refine g_iinc (pc := 131) (v := (a4 + (1 : Int32))) (lv' := [(4, .int (a4 + (1 : Int32))), (0, .ref (ad K c0)), (1, .int a1), (2, .int a2), (3, .int a3)]) 4 S dX10_setPoint_131 rfl (by rfl) (by decide) rfl ?_
    refine g_lti (C := fun v4_28 => Go K (131 + 3) [(4, .int v4_28), (0, .ref (ad K c0)), (1, .int a1), (2, .int a2), (3, .int a3)] [] h27) hyp (fun v4_28 hyp => ?_)
    refine g_goto (pc := 134) (tgt := 109) S dX10_setPoint_134 (by decide) ?_
    cases hyp
    exact g_sub [1, 2, 3, 4, 0] rfl (hin _ rfl)
  · cases hyp
    exact g_sub [0, 1, 2, 3] rfl (hex0 _ rfl)
set_option maxRecDepth 100000 in
set_option maxHeartbeats 4000000 in
theorem o_X10_setPoint {K : gK} (S : Cx K RX10 cX10_setPoint 7 3 87) {c0 : Nat} (k0 : kd c0 (10 + 10, 0)) (a1 : Int32) (a2 : Int32) (a3 : Int32) (h : Hp) {o : Int32 × Hp} (hyp : s_X10_setPoint c0 a1 a2 a3 h = some o) (F : Rt K (some .boolean) (some (.int o.1)) o.2) : Go K 0 [(0, .ref (ad K c0)), (1, .int a1), (2, .int a2), (3, .int a3)] [] h := by
  unfold s_X10_setPoint at hyp
  refine g_aload_n (pc := 0) 0 S dX10_setPoint_0 rfl ?_
  refine g_getR (pc := 1) S dX10_setPoint_1 fl_X10_82 k0 ?_
  refine g_iconst (pc := 4) (v := (1 : Int32)) S dX10_setPoint_4 (by decide) ?_
  refine g_lconst (pc := 5) (v := (0 : Int64)) S dX10_setPoint_5 (by decide) ?_
  refine g_last (pc := 6) S dX10_setPoint_6 (kf_10_22 k0) hyp (fun h1 hyp => ?_)
  refine g_aload_n (pc := 7) 0 S dX10_setPoint_7 rfl ?_
  refine g_getR (pc := 8) S dX10_setPoint_8 fl_X10_82 k0 ?_
  refine g_iconst (pc := 11) (v := (2 : Int32)) S dX10_setPoint_11 (by decide) ?_
  refine g_lconst (pc := 12) (v := (0 : Int64)) S dX10_setPoint_12 (by decide) ?_
  refine g_last (pc := 13) S dX10_setPoint_13 (kf_10_22 k0) hyp (fun h2 hyp => ?_)
  refine g_aload_n (pc := 14) 0 S dX10_setPoint_14 rfl ?_
  refine g_getI (pc := 15) S dX10_setPoint_15 fl_X10_7 k0 ?_
  refine g_iconst (pc := 18) (v := (1 : Int32)) S dX10_setPoint_18 (by decide) ?_
  refine g_icmp_ne (pc := 19) (tgt := 55) S dX10_setPoint_19 (by decide) hyp (fun hyp => ?_) (fun hyp => ?_)
  · refine g_aload_n (pc := 22) 0 S dX10_setPoint_22 rfl ?_
    refine g_getR (pc := 23) S dX10_setPoint_23 fl_X10_82 k0 ?_
    refine g_iconst (pc := 26) (v := (0 : Int32)) S dX10_setPoint_26 (by decide) ?_
    refine g_aload_n (pc := 27) 0 S dX10_setPoint_27 rfl ?_
    refine g_getR (pc := 28) S dX10_setPoint_28 fl_X10_17 k0 ?_
    refine g_iconst (pc := 31) (v := (3 : Int32)) S dX10_setPoint_31 (by decide) ?_
    refine g_iload_n (pc := 32) 1 S dX10_setPoint_32 rfl ?_
    refine g_imul (pc := 33) S dX10_setPoint_33 ?_
    refine g_iconst (pc := 34) (v := (2 : Int32)) S dX10_setPoint_34 (by decide) ?_
    refine g_iadd (pc := 35) S dX10_setPoint_35 ?_
    refine g_iald (pc := 36) S dX10_setPoint_36 (kf_10_2 k0) hyp (fun x3 hyp => ?_)
    refine g_i2l (pc := 37) S dX10_setPoint_37 ?_
    refine g_last (pc := 38) S dX10_setPoint_38 (kf_10_22 k0) hyp (fun h4 hyp => ?_)
    refine g_aload_n (pc := 39) 0 S dX10_setPoint_39 rfl ?_
    refine g_getR (pc := 40) S dX10_setPoint_40 fl_X10_82 k0 ?_
    refine g_iconst (pc := 43) (v := (3 : Int32)) S dX10_setPoint_43 (by decide) ?_
    refine g_aload_n (pc := 44) 0 S dX10_setPoint_44 rfl ?_
    refine g_iload_n (pc := 45) 1 S dX10_setPoint_45 rfl ?_
    refine g_iconst (pc := 46) (v := (0 : Int32)) S dX10_setPoint_46 (by decide) ?_
    refine g_bind hyp (fun y5 hy5 hyp => ?_)
    refine g_callV (pc := 47) (As := [.int a1, .int (0 : Int32)]) (rest := [.int (3 : Int32), .ref (ad K (c0 + 22))]) S dX10_setPoint_47 k0 rfl tw_1058 tw_1059 tw_42 mw_X10_coefficientOf (m_X10_coefficientOf k0 a1 (0 : Int32) h4 hy5) rfl rfl (Nat.le_of_ble_eq_true rfl) (Nat.le_of_ble_eq_true rfl) (Nat.le_of_ble_eq_true rfl) ?_
    refine g_i2l (pc := 50) S dX10_setPoint_50 ?_
    refine g_last (pc := 51) S dX10_setPoint_51 (kf_10_22 k0) hyp (fun h6 hyp => ?_)
    refine g_goto (pc := 52) (tgt := 152) S dX10_setPoint_52 (by decide) ?_
    exact g_sub [0] rfl (o_X10_setPoint_b152 S k0  h6 hyp F)
  · refine g_aload_n (pc := 55) 0 S dX10_setPoint_55 rfl ?_
    refine g_getI (pc := 56) S dX10_setPoint_56 fl_X10_7 k0 ?_
    refine g_iconst (pc := 59) (v := (2 : Int32)) S dX10_setPoint_59 (by decide) ?_
    refine g_icmp_ne (pc := 60) (tgt := 106) S dX10_setPoint_60 (by decide) hyp (fun hyp => ?_) (fun hyp => ?_)
    · refine g_aload_n (pc := 63) 0 S dX10_setPoint_63 rfl ?_
      refine g_getR (pc := 64) S dX10_setPoint_64 fl_X10_82 k0 ?_
      refine g_iconst (pc := 67) (v := (0 : Int32)) S dX10_setPoint_67 (by decide) ?_
      refine g_aload_n (pc := 68) 0 S dX10_setPoint_68 rfl ?_
      refine g_iload_n (pc := 69) 1 S dX10_setPoint_69 rfl ?_
      refine g_iload_n (pc := 70) 2 S dX10_setPoint_70 rfl ?_
      refine g_iconst (pc := 71) (v := (0 : Int32)) S dX10_setPoint_71 (by decide) ?_
      refine g_bind hyp (fun y20 hy20 hyp => ?_)
      refine g_callV (pc := 72) (As := [.int a1, .int a2, .int (0 : Int32)]) (rest := [.int (0 : Int32), .ref (ad K (c0 + 22))]) S dX10_setPoint_72 k0 rfl tw_1197 tw_1198 tw_70 mw_X10_twoDet (m_X10_twoDet k0 a1 a2 (0 : Int32) h2 hy20) rfl rfl (Nat.le_of_ble_eq_true rfl) (Nat.le_of_ble_eq_true rfl) (Nat.le_of_ble_eq_true rfl) ?_
      refine g_last (pc := 75) S dX10_setPoint_75 (kf_10_22 k0) hyp (fun h21 hyp => ?_)
      refine g_aload_n (pc := 76) 0 S dX10_setPoint_76 rfl ?_
      refine g_getR (pc := 77) S dX10_setPoint_77 fl_X10_82 k0 ?_
      refine g_iconst (pc := 80) (v := (1 : Int32)) S dX10_setPoint_80 (by decide) ?_
      refine g_aload_n (pc := 81) 0 S dX10_setPoint_81 rfl ?_
      refine g_iload_n (pc := 82) 1 S dX10_setPoint_82 rfl ?_
      refine g_iload_n (pc := 83) 2 S dX10_setPoint_83 rfl ?_
      refine g_iconst (pc := 84) (v := (1 : Int32)) S dX10_setPoint_84 (by decide) ?_
      refine g_bind hyp (fun y22 hy22 hyp => ?_)
      refine g_callV (pc := 85) (As := [.int a1, .int a2, .int (1 : Int32)]) (rest := [.int (1 : Int32), .ref (ad K (c0 + 22))]) S dX10_setPoint_85 k0 rfl tw_1197 tw_1198 tw_70 mw_X10_twoDet (m_X10_twoDet k0 a1 a2 (1 : Int32) h21 hy22) rfl rfl (Nat.le_of_ble_eq_true rfl) (Nat.le_of_ble_eq_true rfl) (Nat.le_of_ble_eq_true rfl) ?_
      refine g_last (pc := 88) S dX10_setPoint_88 (kf_10_22 k0) hyp (fun h23 hyp => ?_)
      refine g_aload_n (pc := 89) 0 S dX10_setPoint_89 rfl ?_
      refine g_getR (pc := 90) S dX10_setPoint_90 fl_X10_82 k0 ?_
      refine g_iconst (pc := 93) (v := (3 : Int32)) S dX10_setPoint_93 (by decide) ?_
      refine g_aload_n (pc := 94) 0 S dX10_setPoint_94 rfl ?_
      refine g_iload_n (pc := 95) 1 S dX10_setPoint_95 rfl ?_
      refine g_iload_n (pc := 96) 2 S dX10_setPoint_96 rfl ?_
      refine g_bipush (pc := 97) (v := (-9 : Int32)) S dX10_setPoint_97 (by decide) ?_
      refine g_bind hyp (fun y24 hy24 hyp => ?_)
      refine g_callV (pc := 99) (As := [.int a1, .int a2, .int (-9 : Int32)]) (rest := [.int (3 : Int32), .ref (ad K (c0 + 22))]) S dX10_setPoint_99 k0 rfl tw_1197 tw_1198 tw_70 mw_X10_twoDet (m_X10_twoDet k0 a1 a2 (-9 : Int32) h23 hy24) rfl rfl (Nat.le_of_ble_eq_true rfl) (Nat.le_of_ble_eq_true rfl) (Nat.le_of_ble_eq_true rfl) ?_
      refine g_last (pc := 102) S dX10_setPoint_102 (kf_10_22 k0) hyp (fun h25 hyp => ?_)
      refine g_goto (pc := 103) (tgt := 152) S dX10_setPoint_103 (by decide) ?_
      exact g_sub [0] rfl (o_X10_setPoint_b152 S k0  h25 hyp F)
    · refine g_iconst (pc := 106) (v := (0 : Int32)) S dX10_setPoint_106 (by decide) ?_
      refine g_istore (pc := 107) (lv' := [(4, .int (0 : Int32)), (0, .ref (ad K c0)), (1, .int a1), (2, .int a2), (3, .int a3)]) S dX10_setPoint_107 (by decide) rfl ?_
      refine g_bind hyp (fun e29 he29 hyp => ?_)
      refine g_sub [1, 2, 3, 4, 0] rfl (g_loop (Hd := fun s : Int32 × Hp => Go K 109 [(0, .ref (ad K c0)), (1, .int a1), (2, .int a2), (3, .int a3), (4, .int s.1)] [] s.2) (Ex := fun e29 => Go K 137 [(0, .ref (ad K c0)), (1, .int a1), (2, .int a2), (3, .int a3)] [] e29) (fun s o h1 h2 h3 => o_X10_setPoint_l109 S k0 a1 a2 a3 s.1 s.2 h1 h2 h3) FUEL _ e29 he29 ?_)
      refine g_aload_n (pc := 137) 0 S dX10_setPoint_137 rfl ?_
      refine g_getR (pc := 138) S dX10_setPoint_138 fl_X10_82 k0 ?_
      refine g_iconst (pc := 141) (v := (3 : Int32)) S dX10_setPoint_141 (by decide) ?_
      refine g_aload_n (pc := 142) 0 S dX10_setPoint_142 rfl ?_
      refine g_iload_n (pc := 143) 1 S dX10_setPoint_143 rfl ?_
      refine g_iload_n (pc := 144) 2 S dX10_setPoint_144 rfl ?_
      refine g_iload_n (pc := 145) 3 S dX10_setPoint_145 rfl ?_
      refine g_bipush (pc := 146) (v := (-9 : Int32)) S dX10_setPoint_146 (by decide) ?_
      refine g_bind hyp (fun y30 hy30 hyp => ?_)
      refine g_callV (pc := 148) (As := [.int a1, .int a2, .int a3, .int (-9 : Int32)]) (rest := [.int (3 : Int32), .ref (ad K (c0 + 22))]) S dX10_setPoint_148 k0 rfl tw_1203 tw_1204 tw_71 mw_X10_threeDet (m_X10_threeDet k0 a1 a2 a3 (-9 : Int32) e29 hy30) rfl rfl (Nat.le_of_ble_eq_true rfl) (Nat.le_of_ble_eq_true rfl) (Nat.le_of_ble_eq_true rfl) ?_
      refine g_last (pc := 151) S dX10_setPoint_151 (kf_10_22 k0) hyp (fun h31 hyp => ?_)
      exact g_sub [0] rfl (o_X10_setPoint_b152 S k0  h31 hyp F)
theorem m_X10_setPoint {l : Launch} {D : va_G} {cT : Nat → ClassId} {aD : Nat → Nat} {c0 : Nat} (k0 : kd c0 (10 + 10, 0)) (a1 : Int32) (a2 : Int32) (a3 : Int32) (h : Hp) {o : Int32 × Hp} (hyp : s_X10_setPoint c0 a1 a2 a3 h = some o) : Ok l D cT aD yX10_setPoint cX10_setPoint 7 (some .boolean) 3 87 [.ref (aD c0), .int a1, .int a2, .int a3] h (some (.int o.1)) o.2 :=
  Ok.of (by decide +kernel) rfl (Nat.le_of_ble_eq_true rfl) (fun K e1 e2 e3 e4 S F => by subst e1; exact o_X10_setPoint S k0 a1 a2 a3 h hyp F)
-- BoundProofsModel isWithin ()Z
def s_X10_isWithin_l33 (c0 : Nat) (a1 : Int32) (a2 : Int64) (a4 : Int32) (h : Hp) : Option ((Int64 × Int32) ⊕ (Int64)) :=
  if a4 < (3 : Int32) then ((s_X10_coefficientOf c0 a1 a4 h).bind fun y4 =>
  ldJ h (c0 + 22) 4 a4 fun x5 =>
  lt (a2 + ((y4).toInt64 * x5)) fun v2_6 =>
  lt (a4 + (1 : Int32)) fun v4_7 =>
  some (.inl (v2_6, v4_7)))
  else (some (.inr (a2)))
def s_X10_isWithin_b120 (c0 : Nat) (a1 : Int32) (h : Hp) : Option ((Int32) ⊕ ((Unit) ⊕ (Int32))) :=
  lt (a1 + (1 : Int32)) fun v1_10 =>
  some (.inl v1_10)
def s_X10_isWithin_b106 (c0 : Nat) (a1 : Int32) (a2 : Int64) (a4 : Int32) (h : Hp) : Option ((Int32) ⊕ ((Unit) ⊕ (Int32))) :=
  if a4 = (4 : Int32) then (if a2 = (0 : Int64) then (s_X10_isWithin_b120 c0 a1 h)
  else (some (.inr (.inr (0 : Int32)))))
  else (s_X10_isWithin_b120 c0 a1 h)
def s_X10_isWithin_b100 (c0 : Nat) (a1 : Int32) (a2 : Int64) (a4 : Int32) (h : Hp) : Option ((Int32) ⊕ ((Unit) ⊕ (Int32))) :=
  if a2 < (0 : Int64) then (some (.inr (.inr (0 : Int32))))
  else (s_X10_isWithin_b106 c0 a1 a2 a4 h)
def s_X10_isWithin_b88 (c0 : Nat) (a1 : Int32) (a2 : Int64) (a4 : Int32) (h : Hp) : Option ((Int32) ⊕ ((Unit) ⊕ (Int32))) :=
  if a4 = (2 : Int32) then (s_X10_isWithin_b100 c0 a1 a2 a4 h)
  else (if a4 = (3 : Int32) then (s_X10_isWithin_b100 c0 a1 a2 a4 h)
  else (s_X10_isWithin_b106 c0 a1 a2 a4 h))
def s_X10_isWithin_l2 (c0 : Nat) (a1 : Int32) (h : Hp) : Option ((Int32) ⊕ ((Unit) ⊕ (Int32))) :=
  if a1 < (h.1 c0 3) then (ldI h (c0 + 2) 30 (((3 : Int32) * a1) + (2 : Int32)) fun x1 =>
  ldJ h (c0 + 22) 4 (3 : Int32) fun x2 =>
  lt (((-x1)).toInt64 * x2) fun v2_3 =>
  (iter (fun s : Int64 × Int32 => s_X10_isWithin_l33 c0 a1 s.1 s.2 h) FUEL (v2_3, (0 : Int32))).bind fun e8 =>
  ldI h (c0 + 2) 30 (((3 : Int32) * a1) + (1 : Int32)) fun x9 =>
  if x9 < (2 : Int32) then (if (0 : Int64) < e8 then (some (.inr (.inr (0 : Int32))))
  else (s_X10_isWithin_b88 c0 a1 e8 x9 h))
  else (s_X10_isWithin_b88 c0 a1 e8 x9 h))
  else (some (.inr (.inl ())))
def s_X10_isWithin (c0 : Nat)  (h : Hp) : Option (Int32) :=
  (iter (fun s : Int32 => s_X10_isWithin_l2 c0 s h) FUEL (0 : Int32)).bind (Sum.elim (fun t12 => some (1 : Int32))
  (fun t13 => some t13))
set_option maxRecDepth 100000 in
set_option maxHeartbeats 4000000 in
theorem o_X10_isWithin_l33 {K : gK} (S : Cx K RX10 cX10_isWithin 5 1 26) {c0 : Nat} (k0 : kd c0 (10 + 10, 0)) (a1 : Int32) (a2 : Int64) (a4 : Int32) (h : Hp) {o : (Int64 × Int32) ⊕ (Int64)} (hyp : s_X10_isWithin_l33 c0 a1 a2 a4 h = some o) (hin : ∀ s', o = .inl s' → Go K 33 [(0, .ref (ad K c0)), (1, .int a1), (2, .long s'.1), (4, .int s'.2)] [] h) (hex0 : ∀ s', o = .inr (s') → Go K 64 [(0, .ref (ad K c0)), (1, .int a1), (2, .long s')] [] h) : Go K 33 [(0, .ref (ad K c0)), (1, .int a1), (2, .long a2), (4, .int a4)] [] h := by
  unfold s_X10_isWithin_l33 at hyp
  refine g_iload (pc := 33) 3 S dX10_isWithin_33 rfl ?_
  refine g_iconst (pc := 35) (v := (3 : Int32)) S dX10_isWithin_35 (by decide) ?_
  refine g_icmp_ge (pc := 36) (tgt := 64) S dX10_isWithin_36 (by decide) hyp (fun hyp => ?_) (fun hyp => ?_)
  · refine g_lload_n (pc := 39) 2 S dX10_isWithin_39 rfl ?_
    refine g_aload_n (pc := 40) 0 S dX10_isWithin_40 rfl ?_
    refine g_iload_n (pc := 41) 1 S dX10_isWithin_41 rfl ?_
    refine g_iload (pc := 42) 3 S dX10_isWithin_42 rfl ?_
    refine g_bind hyp (fun y4 hy4 hyp => ?_)
    refine g_callV (pc := 44) (As := [.int a1, .int a4]) (rest := [.long a2]) S dX10_isWithin_44 k0 rfl tw_1058 tw_1059 tw_42 mw_X10_coefficientOf (m_X10_coefficientOf k0 a1 a4 h hy4) rfl rfl (Nat.le_of_ble_eq_true rfl) (Nat.le_of_ble_eq_true rfl) (Nat.le_of_ble_eq_true rfl) ?_
    refine g_i2l (pc := 47) S dX10_isWithin_47 ?_
    refine g_aload_n (pc := 48) 0 S dX10_isWithin_48 rfl ?_
    refine g_getR (pc := 49) S dX10_isWithin_49 fl_X10_82 k0 ?_
    refine g_iload (pc := 52) 3 S dX10_isWithin_52 rfl ?_
    refine g_lald (pc := 54) S dX10_isWithin_54 (kf_10_22 k0) hyp (fun x5 hyp => ?_)
    refine g_lmul (pc := 55) S dX10_isWithin_55 ?_
    refine g_ladd (pc := 56) S dX10_isWithin_56 ?_
    refine g_lti (C := fun v2_6 => Go K 57 [(0, .ref (ad K c0)), (1, .int a1), (2, .long a2), (4, .int a4)] [.long v2_6] h) hyp (fun v2_6 hyp => ?_)
    refine g_lstore_n (pc := 57) (lv' := [(2, .long v2_6), (0, .ref (ad K c0)), (1, .int a1), (4, .int a4)]) S dX10_isWithin_57 rfl (by decide) rfl ?_
    refine g_iinc (pc := 58) (v := (a4 + (1 : Int32))) (lv' := [(4, .int (a4 + (1 : Int32))), (2, .long v2_6), (0, .ref (ad K c0)), (1, .int a1)]) 3 S dX10_isWithin_58 rfl (by rfl) (by decide) rfl ?_
    refine g_lti (C := fun v4_7 => Go K (58 + 3) [(4, .int v4_7), (2, .long v2_6), (0, .ref (ad K c0)), (1, .int a1)] [] h) hyp (fun v4_7 hyp => ?_)
    refine g_goto (pc := 61) (tgt := 33) S dX10_isWithin_61 (by decide) ?_
    cases hyp
    exact g_sub [2, 3, 1, 0] rfl (hin _ rfl)
  · cases hyp
    exact g_sub [0, 1, 2] rfl (hex0 _ rfl)
set_option maxRecDepth 100000 in
set_option maxHeartbeats 4000000 in
theorem o_X10_isWithin_b120 {K : gK} (S : Cx K RX10 cX10_isWithin 5 1 26) {c0 : Nat} (k0 : kd c0 (10 + 10, 0)) (a1 : Int32) (h : Hp) {o : (Int32) ⊕ ((Unit) ⊕ (Int32))} (hyp : s_X10_isWithin_b120 c0 a1 h = some o) (hin : ∀ s', o = .inl s' → Go K 2 [(0, .ref (ad K c0)), (1, .int s')] [] h) (hex0 : ∀ s', o = .inr (.inl s') → Go K 126 [] [] h) (hret : ∀ x', o = .inr (.inr x') → Rt K (some .boolean) (some (.int x')) h) : Go K 120 [(0, .ref (ad K c0)), (1, .int a1)] [] h := by
  unfold s_X10_isWithin_b120 at hyp
  refine g_iinc (pc := 120) (v := (a1 + (1 : Int32))) (lv' := [(1, .int (a1 + (1 : Int32))), (0, .ref (ad K c0))]) 1 S dX10_isWithin_120 rfl (by rfl) (by decide) rfl ?_
  refine g_lti (C := fun v1_10 => Go K (120 + 3) [(1, .int v1_10), (0, .ref (ad K c0))] [] h) hyp (fun v1_10 hyp => ?_)
  refine g_goto (pc := 123) (tgt := 2) S dX10_isWithin_123 (by decide) ?_
  cases hyp
  exact g_sub [1, 0] rfl (hin _ rfl)
set_option maxRecDepth 100000 in
set_option maxHeartbeats 4000000 in
theorem o_X10_isWithin_b106 {K : gK} (S : Cx K RX10 cX10_isWithin 5 1 26) {c0 : Nat} (k0 : kd c0 (10 + 10, 0)) (a1 : Int32) (a2 : Int64) (a4 : Int32) (h : Hp) {o : (Int32) ⊕ ((Unit) ⊕ (Int32))} (hyp : s_X10_isWithin_b106 c0 a1 a2 a4 h = some o) (hin : ∀ s', o = .inl s' → Go K 2 [(0, .ref (ad K c0)), (1, .int s')] [] h) (hex0 : ∀ s', o = .inr (.inl s') → Go K 126 [] [] h) (hret : ∀ x', o = .inr (.inr x') → Rt K (some .boolean) (some (.int x')) h) : Go K 106 [(0, .ref (ad K c0)), (1, .int a1), (2, .long a2), (4, .int a4)] [] h := by
  unfold s_X10_isWithin_b106 at hyp
  refine g_iload (pc := 106) 3 S dX10_isWithin_106 rfl ?_
  refine g_iconst (pc := 108) (v := (4 : Int32)) S dX10_isWithin_108 (by decide) ?_
  refine g_icmp_ne (pc := 109) (tgt := 120) S dX10_isWithin_109 (by decide) hyp (fun hyp => ?_) (fun hyp => ?_)
  · refine g_lload_n (pc := 112) 2 S dX10_isWithin_112 rfl ?_
    refine g_lconst (pc := 113) (v := (0 : Int64)) S dX10_isWithin_113 (by decide) ?_
    refine g_lcmp_eq (pc := 114) (tgt := 120) S dX10_isWithin_114 dX10_isWithin_115 (by decide) hyp (fun hyp => ?_) (fun hyp => ?_)
    · exact g_sub [0, 1] rfl (o_X10_isWithin_b120 S k0 a1 h hyp hin hex0 hret)
    · refine g_iconst (pc := 118) (v := (0 : Int32)) S dX10_isWithin_118 (by decide) ?_
      cases hyp
      exact g_zret (pc := 119) S (hret _ rfl) dX10_isWithin_119 (Or.inl rfl)
  · exact g_sub [0, 1] rfl (o_X10_isWithin_b120 S k0 a1 h hyp hin hex0 hret)
set_option maxRecDepth 100000 in
set_option maxHeartbeats 4000000 in
theorem o_X10_isWithin_b100 {K : gK} (S : Cx K RX10 cX10_isWithin 5 1 26) {c0 : Nat} (k0 : kd c0 (10 + 10, 0)) (a1 : Int32) (a2 : Int64) (a4 : Int32) (h : Hp) {o : (Int32) ⊕ ((Unit) ⊕ (Int32))} (hyp : s_X10_isWithin_b100 c0 a1 a2 a4 h = some o) (hin : ∀ s', o = .inl s' → Go K 2 [(0, .ref (ad K c0)), (1, .int s')] [] h) (hex0 : ∀ s', o = .inr (.inl s') → Go K 126 [] [] h) (hret : ∀ x', o = .inr (.inr x') → Rt K (some .boolean) (some (.int x')) h) : Go K 100 [(0, .ref (ad K c0)), (1, .int a1), (2, .long a2), (4, .int a4)] [] h := by
  unfold s_X10_isWithin_b100 at hyp
  refine g_lload_n (pc := 100) 2 S dX10_isWithin_100 rfl ?_
  refine g_lconst (pc := 101) (v := (0 : Int64)) S dX10_isWithin_101 (by decide) ?_
  refine g_lcmp_lt (pc := 102) (tgt := 118) S dX10_isWithin_102 dX10_isWithin_103 (by decide) hyp (fun hyp => ?_) (fun hyp => ?_)
  · refine g_iconst (pc := 118) (v := (0 : Int32)) S dX10_isWithin_118 (by decide) ?_
    cases hyp
    exact g_zret (pc := 119) S (hret _ rfl) dX10_isWithin_119 (Or.inl rfl)
  · exact g_sub [0, 1, 2, 3] rfl (o_X10_isWithin_b106 S k0 a1 a2 a4 h hyp hin hex0 hret)
set_option maxRecDepth 100000 in
set_option maxHeartbeats 4000000 in
theorem o_X10_isWithin_b88 {K : gK} (S : Cx K RX10 cX10_isWithin 5 1 26) {c0 : Nat} (k0 : kd c0 (10 + 10, 0)) (a1 : Int32) (a2 : Int64) (a4 : Int32) (h : Hp) {o : (Int32) ⊕ ((Unit) ⊕ (Int32))} (hyp : s_X10_isWithin_b88 c0 a1 a2 a4 h = some o) (hin : ∀ s', o = .inl s' → Go K 2 [(0, .ref (ad K c0)), (1, .int s')] [] h) (hex0 : ∀ s', o = .inr (.inl s') → Go K 126 [] [] h) (hret : ∀ x', o = .inr (.inr x') → Rt K (some .boolean) (some (.int x')) h) : Go K 88 [(0, .ref (ad K c0)), (1, .int a1), (2, .long a2), (4, .int a4)] [] h := by
  unfold s_X10_isWithin_b88 at hyp
  refine g_iload (pc := 88) 3 S dX10_isWithin_88 rfl ?_
  refine g_iconst (pc := 90) (v := (2 : Int32)) S dX10_isWithin_90 (by decide) ?_
  refine g_icmp_eq (pc := 91) (tgt := 100) S dX10_isWithin_91 (by decide) hyp (fun hyp => ?_) (fun hyp => ?_)
  · exact g_sub [0, 1, 2, 3] rfl (o_X10_isWithin_b100 S k0 a1 a2 a4 h hyp hin hex0 hret)
  · refine g_iload (pc := 94) 3 S dX10_isWithin_94 rfl ?_
    refine g_iconst (pc := 96) (v := (3 : Int32)) S dX10_isWithin_96 (by decide) ?_
    refine g_icmp_ne (pc := 97) (tgt := 106) S dX10_isWithin_97 (by decide) hyp (fun hyp => ?_) (fun hyp => ?_)
    · exact g_sub [0, 1, 2, 3] rfl (o_X10_isWithin_b100 S k0 a1 a2 a4 h hyp hin hex0 hret)
    · exact g_sub [0, 1, 2, 3] rfl (o_X10_isWithin_b106 S k0 a1 a2 a4 h hyp hin hex0 hret)
set_option maxRecDepth 100000 in
set_option maxHeartbeats 4000000 in
theorem o_X10_isWithin_l2 {K : gK} (S : Cx K RX10 cX10_isWithin 5 1 26) {c0 : Nat} (k0 : kd c0 (10 + 10, 0)) (a1 : Int32) (h : Hp) {o : (Int32) ⊕ ((Unit) ⊕ (Int32))} (hyp : s_X10_isWithin_l2 c0 a1 h = some o) (hin : ∀ s', o = .inl s' → Go K 2 [(0, .ref (ad K c0)), (1, .int s')] [] h) (hex0 : ∀ s', o = .inr (.inl s') → Go K 126 [] [] h) (hret : ∀ x', o = .inr (.inr x') → Rt K (some .boolean) (some (.int x')) h) : Go K 2 [(0, .ref (ad K c0)), (1, .int a1)] [] h := by
  unfold s_X10_isWithin_l2 at hyp
  refine g_iload_n (pc := 2) 1 S dX10_isWithin_2 rfl ?_
  refine g_aload_n (pc := 3) 0 S dX10_isWithin_3 rfl ?_
  refine g_getI (pc := 4) S dX10_isWithin_4 fl_X10_97 k0 ?_
  refine g_icmp_ge (pc := 7) (tgt := 126) S dX10_isWithin_7 (by decide) hyp (fun hyp => ?_) (fun hyp => ?_)
  · refine g_aload_n (pc := 10) 0 S dX10_isWithin_10 rfl ?_
    refine g_getR (pc := 11) S dX10_isWithin_11 fl_X10_17 k0 ?_
    refine g_iconst (pc := 14) (v := (3 : Int32)) S dX10_isWithin_14 (by decide) ?_
    refine g_iload_n (pc := 15) 1 S dX10_isWithin_15 rfl ?_
    refine g_imul (pc := 16) S dX10_isWithin_16 ?_
    refine g_iconst (pc := 17) (v := (2 : Int32)) S dX10_isWithin_17 (by decide) ?_
    refine g_iadd (pc := 18) S dX10_isWithin_18 ?_
    refine g_iald (pc := 19) S dX10_isWithin_19 (kf_10_2 k0) hyp (fun x1 hyp => ?_)
    refine g_ineg (pc := 20) S dX10_isWithin_20 ?_
    refine g_i2l (pc := 21) S dX10_isWithin_21 ?_
    refine g_aload_n (pc := 22) 0 S dX10_isWithin_22 rfl ?_
    refine g_getR (pc := 23) S dX10_isWithin_23 fl_X10_82 k0 ?_
    refine g_iconst (pc := 26) (v := (3 : Int32)) S dX10_isWithin_26 (by decide) ?_
    refine g_lald (pc := 27) S dX10_isWithin_27 (kf_10_22 k0) hyp (fun x2 hyp => ?_)
    refine g_lmul (pc := 28) S dX10_isWithin_28 ?_
    refine g_lti (C := fun v2_3 => Go K 29 [(0, .ref (ad K c0)), (1, .int a1)] [.long v2_3] h) hyp (fun v2_3 hyp => ?_)
    refine g_lstore_n (pc := 29) (lv' := [(2, .long v2_3), (0, .ref (ad K c0)), (1, .int a1)]) S dX10_isWithin_29 rfl (by decide) rfl ?_
    refine g_iconst (pc := 30) (v := (0 : Int32)) S dX10_isWithin_30 (by decide) ?_
    refine g_istore (pc := 31) (lv' := [(4, .int (0 : Int32)), (2, .long v2_3), (0, .ref (ad K c0)), (1, .int a1)]) S dX10_isWithin_31 (by decide) rfl ?_
    refine g_bind hyp (fun e8 he8 hyp => ?_)
    refine g_sub [2, 3, 1, 0] rfl (g_loop (Hd := fun s : Int64 × Int32 => Go K 33 [(0, .ref (ad K c0)), (1, .int a1), (2, .long s.1), (4, .int s.2)] [] h) (Ex := fun e8 => Go K 64 [(0, .ref (ad K c0)), (1, .int a1), (2, .long e8)] [] h) (fun s o h1 h2 h3 => o_X10_isWithin_l33 S k0 a1 s.1 s.2 h h1 h2 h3) FUEL _ e8 he8 ?_)
    refine g_aload_n (pc := 64) 0 S dX10_isWithin_64 rfl ?_
    refine g_getR (pc := 65) S dX10_isWithin_65 fl_X10_17 k0 ?_
    refine g_iconst (pc := 68) (v := (3 : Int32)) S dX10_isWithin_68 (by decide) ?_
    refine g_iload_n (pc := 69) 1 S dX10_isWithin_69 rfl ?_
    refine g_imul (pc := 70) S dX10_isWithin_70 ?_
    refine g_iconst (pc := 71) (v := (1 : Int32)) S dX10_isWithin_71 (by decide) ?_
    refine g_iadd (pc := 72) S dX10_isWithin_72 ?_
    refine g_iald (pc := 73) S dX10_isWithin_73 (kf_10_2 k0) hyp (fun x9 hyp => ?_)
    refine g_istore (pc := 74) (lv' := [(4, .int x9), (0, .ref (ad K c0)), (1, .int a1), (2, .long e8)]) S dX10_isWithin_74 (by decide) rfl ?_
    refine g_iload (pc := 76) 0 S dX10_isWithin_76 rfl ?_
    refine g_iconst (pc := 78) (v := (2 : Int32)) S dX10_isWithin_78 (by decide) ?_
    refine g_icmp_ge (pc := 79) (tgt := 88) S dX10_isWithin_79 (by decide) hyp (fun hyp => ?_) (fun hyp => ?_)
    · refine g_lload_n (pc := 82) 3 S dX10_isWithin_82 rfl ?_
      refine g_lconst (pc := 83) (v := (0 : Int64)) S dX10_isWithin_83 (by decide) ?_
      refine g_lcmp_gt (pc := 84) (tgt := 118) S dX10_isWithin_84 dX10_isWithin_85 (by decide) hyp (fun hyp => ?_) (fun hyp => ?_)
      · refine g_iconst (pc := 118) (v := (0 : Int32)) S dX10_isWithin_118 (by decide) ?_
        cases hyp
        exact g_zret (pc := 119) S (hret _ rfl) dX10_isWithin_119 (Or.inl rfl)
      · exact g_sub [1, 2, 3, 0] rfl (o_X10_isWithin_b88 S k0 a1 e8 x9 h hyp hin hex0 hret)
    · exact g_sub [1, 2, 3, 0] rfl (o_X10_isWithin_b88 S k0 a1 e8 x9 h hyp hin hex0 hret)
  · cases hyp
    exact g_sub [] rfl (hex0 _ rfl)
set_option maxRecDepth 100000 in
set_option maxHeartbeats 4000000 in
theorem o_X10_isWithin {K : gK} (S : Cx K RX10 cX10_isWithin 5 1 26) {c0 : Nat} (k0 : kd c0 (10 + 10, 0))  (h : Hp) {o : Int32} (hyp : s_X10_isWithin c0  h = some o) (F : Rt K (some .boolean) (some (.int o)) h) : Go K 0 [(0, .ref (ad K c0))] [] h := by
  unfold s_X10_isWithin at hyp
  refine g_iconst (pc := 0) (v := (0 : Int32)) S dX10_isWithin_0 (by decide) ?_
  refine g_istore_n (pc := 1) (lv' := [(1, .int (0 : Int32)), (0, .ref (ad K c0))]) S dX10_isWithin_1 rfl (by decide) rfl ?_
  refine g_bind hyp (fun e11 he11 hyp => ?_)
  refine g_sub [1, 0] rfl (g_loop (Hd := fun s : Int32 => Go K 2 [(0, .ref (ad K c0)), (1, .int s)] [] h) (Ex := fun e11 => (∀ t, e11 = .inl t → Go K 126 [] [] h) ∧ (∀ t, e11 = .inr t → Rt K (some .boolean) (some (.int t)) h)) (fun s o h1 h2 h3 => o_X10_isWithin_l2 S k0 s h h1 h2 (fun t q => (h3 _ q).1 t rfl) (fun t q => (h3 _ q).2 t rfl)) FUEL _ e11 he11 ?_)
  refine ⟨?_, ?_⟩
  · intro t12 q
    subst q
    refine g_iconst (pc := 126) (v := (1 : Int32)) S dX10_isWithin_126 (by decide) ?_
    cases hyp
    exact g_zret (pc := 127) S F dX10_isWithin_127 (Or.inr rfl)
  · intro t13 q
    subst q
    cases hyp
    exact F
theorem m_X10_isWithin {l : Launch} {D : va_G} {cT : Nat → ClassId} {aD : Nat → Nat} {c0 : Nat} (k0 : kd c0 (10 + 10, 0))  (h : Hp) {o : Int32} (hyp : s_X10_isWithin c0  h = some o) : Ok l D cT aD yX10_isWithin cX10_isWithin 5 (some .boolean) 1 26 [.ref (aD c0)] h (some (.int o)) h :=
  Ok.of (by decide +kernel) rfl (Nat.le_of_ble_eq_true rfl) (fun K e1 e2 e3 e4 S F => by subst e1; exact o_X10_isWithin S k0  h hyp F)
