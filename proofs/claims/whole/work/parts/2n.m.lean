-- BoundProofsModel gcd (JJ)J
def s_X10_gcd_l28  (a4 : Int64) (a6 : Int64) (h : Hp) : Option ((Int64 × Int64) ⊕ (Int64)) :=
  if a6 = (0 : Int64) then (some (.inr (a4)))
  else (nzJ a6 <|
  lt (a4 - a4 / a6 * a6) fun v8_1 =>
  some (.inl (a6, v8_1)))
def s_X10_gcd_b26  (a4 : Int64) (t0 : Int64) (h : Hp) : Option (Int64) :=
  (iter (fun s : Int64 × Int64 => s_X10_gcd_l28  s.1 s.2 h) FUEL (a4, t0)).bind fun e2 =>
  some e2
def s_X10_gcd_b12  (a2 : Int64) (t0 : Int64) (h : Hp) : Option (Int64) :=
  if a2 < (0 : Int64) then (s_X10_gcd_b26  t0 (-a2) h)
  else (s_X10_gcd_b26  t0 a2 h)
def s_X10_gcd  (a0 : Int64) (a2 : Int64) (h : Hp) : Option (Int64) :=
  if a0 < (0 : Int64) then (s_X10_gcd_b12  a2 (-a0) h)
  else (s_X10_gcd_b12  a2 a0 h)
set_option maxRecDepth 100000 in
set_option maxHeartbeats 4000000 in
theorem o_X10_gcd_l28 {K : gK} (S : Cx K RX10 cX10_gcd 10 0 0)  (a4 : Int64) (a6 : Int64) (h : Hp) {o : (Int64 × Int64) ⊕ (Int64)} (hyp : s_X10_gcd_l28  a4 a6 h = some o) (hin : ∀ s', o = .inl s' → Go K 28 [(4, .long s'.1), (6, .long s'.2)] [] h) (hex0 : ∀ s', o = .inr (s') → Go K 53 [(4, .long s')] [] h) : Go K 28 [(4, .long a4), (6, .long a6)] [] h := by
  unfold s_X10_gcd_l28 at hyp
  refine g_lload (pc := 28) 1 S dX10_gcd_28 rfl ?_
  refine g_lconst (pc := 30) (v := (0 : Int64)) S dX10_gcd_30 (by decide) ?_
  refine g_lcmp_eq (pc := 31) (tgt := 53) S dX10_gcd_31 dX10_gcd_32 (by decide) hyp (fun hyp => ?_) (fun hyp => ?_)
  · cases hyp
    exact g_sub [0] rfl (hex0 _ rfl)
  · refine g_lload (pc := 35) 0 S dX10_gcd_35 rfl ?_
    refine g_lload (pc := 37) 1 S dX10_gcd_37 rfl ?_
    refine g_nzJ hyp (fun hz hyp => ?_)
    refine g_lrem (pc := 39) S dX10_gcd_39 hz ?_
    refine g_lti (C := fun v8_1 => Go K 40 [(4, .long a4), (6, .long a6)] [.long v8_1] h) hyp (fun v8_1 hyp => ?_)
    refine g_lstore (pc := 40) (lv' := [(8, .long v8_1), (4, .long a4), (6, .long a6)]) S dX10_gcd_40 (by decide) rfl ?_
    refine g_lload (pc := 42) 2 S dX10_gcd_42 rfl ?_
    refine g_lstore (pc := 44) (lv' := [(4, .long a6), (8, .long v8_1), (6, .long a6)]) S dX10_gcd_44 (by decide) rfl ?_
    refine g_lload (pc := 46) 1 S dX10_gcd_46 rfl ?_
    refine g_lstore (pc := 48) (lv' := [(6, .long v8_1), (4, .long a6), (8, .long v8_1)]) S dX10_gcd_48 (by decide) rfl ?_
    refine g_goto (pc := 50) (tgt := 28) S dX10_gcd_50 (by decide) ?_
    cases hyp
    exact g_sub [1, 0] rfl (hin _ rfl)
set_option maxRecDepth 100000 in
set_option maxHeartbeats 4000000 in
theorem o_X10_gcd_b26 {K : gK} (S : Cx K RX10 cX10_gcd 10 0 0)  (a4 : Int64) (t0 : Int64) (h : Hp) {o : Int64} (hyp : s_X10_gcd_b26  a4 t0 h = some o) (F : Rt K (some .long) (some (.long o)) h) : Go K 26 [(4, .long a4)] [.long t0] h := by
  unfold s_X10_gcd_b26 at hyp
  refine g_lstore (pc := 26) (lv' := [(6, .long t0), (4, .long a4)]) S dX10_gcd_26 (by decide) rfl ?_
  refine g_bind hyp (fun e2 he2 hyp => ?_)
  refine g_sub [1, 0] rfl (g_loop (Hd := fun s : Int64 × Int64 => Go K 28 [(4, .long s.1), (6, .long s.2)] [] h) (Ex := fun e2 => Go K 53 [(4, .long e2)] [] h) (fun s o h1 h2 h3 => o_X10_gcd_l28 S  s.1 s.2 h h1 h2 h3) FUEL _ e2 he2 ?_)
  refine g_lload (pc := 53) 0 S dX10_gcd_53 rfl ?_
  cases hyp
  exact g_lret (pc := 55) S F dX10_gcd_55
set_option maxRecDepth 100000 in
set_option maxHeartbeats 4000000 in
theorem o_X10_gcd_b12 {K : gK} (S : Cx K RX10 cX10_gcd 10 0 0)  (a2 : Int64) (t0 : Int64) (h : Hp) {o : Int64} (hyp : s_X10_gcd_b12  a2 t0 h = some o) (F : Rt K (some .long) (some (.long o)) h) : Go K 12 [(2, .long a2)] [.long t0] h := by
  unfold s_X10_gcd_b12 at hyp
  refine g_lstore (pc := 12) (lv' := [(4, .long t0), (2, .long a2)]) S dX10_gcd_12 (by decide) rfl ?_
  refine g_lload_n (pc := 14) 1 S dX10_gcd_14 rfl ?_
  refine g_lconst (pc := 15) (v := (0 : Int64)) S dX10_gcd_15 (by decide) ?_
  refine g_lcmp_ge (pc := 16) (tgt := 25) S dX10_gcd_16 dX10_gcd_17 (by decide) hyp (fun hyp => ?_) (fun hyp => ?_)
  · refine g_lload_n (pc := 20) 1 S dX10_gcd_20 rfl ?_
    refine g_lneg (pc := 21) S dX10_gcd_21 ?_
    refine g_goto (pc := 22) (tgt := 26) S dX10_gcd_22 (by decide) ?_
    exact g_sub [0] rfl (o_X10_gcd_b26 S  t0 (-a2) h hyp F)
  · refine g_lload_n (pc := 25) 1 S dX10_gcd_25 rfl ?_
    exact g_sub [0] rfl (o_X10_gcd_b26 S  t0 a2 h hyp F)
set_option maxRecDepth 100000 in
set_option maxHeartbeats 4000000 in
theorem o_X10_gcd {K : gK} (S : Cx K RX10 cX10_gcd 10 0 0)  (a0 : Int64) (a2 : Int64) (h : Hp) {o : Int64} (hyp : s_X10_gcd  a0 a2 h = some o) (F : Rt K (some .long) (some (.long o)) h) : Go K 0 [(0, .long a0), (2, .long a2)] [] h := by
  unfold s_X10_gcd at hyp
  refine g_lload_n (pc := 0) 0 S dX10_gcd_0 rfl ?_
  refine g_lconst (pc := 1) (v := (0 : Int64)) S dX10_gcd_1 (by decide) ?_
  refine g_lcmp_ge (pc := 2) (tgt := 11) S dX10_gcd_2 dX10_gcd_3 (by decide) hyp (fun hyp => ?_) (fun hyp => ?_)
  · refine g_lload_n (pc := 6) 0 S dX10_gcd_6 rfl ?_
    refine g_lneg (pc := 7) S dX10_gcd_7 ?_
    refine g_goto (pc := 8) (tgt := 12) S dX10_gcd_8 (by decide) ?_
    exact g_sub [1] rfl (o_X10_gcd_b12 S  a2 (-a0) h hyp F)
  · refine g_lload_n (pc := 11) 0 S dX10_gcd_11 rfl ?_
    exact g_sub [1] rfl (o_X10_gcd_b12 S  a2 a0 h hyp F)
theorem m_X10_gcd {l : Launch} {D : va_G} {cT : Nat → ClassId} {aD : Nat → Nat}  (a0 : Int64) (a2 : Int64) (h : Hp) {o : Int64} (hyp : s_X10_gcd  a0 a2 h = some o) : Ok l D cT aD yX10_gcd cX10_gcd 10 (some .long) 0 0 [.long a0, .long a2] h (some (.long o)) h :=
  Ok.of (by decide +kernel) rfl (Nat.le_of_ble_eq_true rfl) (fun K e1 e2 e3 e4 S F => by subst e1; exact o_X10_gcd S  a0 a2 h hyp F)
-- BoundProofsModel turn (I)I
def s_X10_turn (c0 : Nat) (a1 : Int32) (h : Hp) : Option (Int32) :=
  ldI h (c0 + 2) 30 (((3 : Int32) * a1) + (1 : Int32)) fun x1 =>
  if x1 = (2 : Int32) then (some (-1 : Int32))
  else (if x1 = (3 : Int32) then (some (-1 : Int32))
  else (some (1 : Int32)))
set_option maxRecDepth 100000 in
set_option maxHeartbeats 4000000 in
theorem o_X10_turn {K : gK} (S : Cx K RX10 cX10_turn 3 0 0) {c0 : Nat} (k0 : kd c0 (10 + 10, 0)) (a1 : Int32) (h : Hp) {o : Int32} (hyp : s_X10_turn c0 a1 h = some o) (F : Rt K (some .int) (some (.int o)) h) : Go K 0 [(0, .ref (ad K c0)), (1, .int a1)] [] h := by
  unfold s_X10_turn at hyp
  refine g_aload_n (pc := 0) 0 S dX10_turn_0 rfl ?_
  refine g_getR (pc := 1) S dX10_turn_1 fl_X10_17 k0 ?_
  refine g_iconst (pc := 4) (v := (3 : Int32)) S dX10_turn_4 (by decide) ?_
  refine g_iload_n (pc := 5) 1 S dX10_turn_5 rfl ?_
  refine g_imul (pc := 6) S dX10_turn_6 ?_
  refine g_iconst (pc := 7) (v := (1 : Int32)) S dX10_turn_7 (by decide) ?_
  refine g_iadd (pc := 8) S dX10_turn_8 ?_
  refine g_iald (pc := 9) S dX10_turn_9 (kf_10_2 k0) hyp (fun x1 hyp => ?_)
  refine g_istore_n (pc := 10) (lv' := [(2, .int x1), (0, .ref (ad K c0)), (1, .int a1)]) S dX10_turn_10 rfl (by decide) rfl ?_
  refine g_iload_n (pc := 11) 0 S dX10_turn_11 rfl ?_
  refine g_iconst (pc := 12) (v := (2 : Int32)) S dX10_turn_12 (by decide) ?_
  refine g_icmp_eq (pc := 13) (tgt := 21) S dX10_turn_13 (by decide) hyp (fun hyp => ?_) (fun hyp => ?_)
  · refine g_iconst (pc := 21) (v := (-1 : Int32)) S dX10_turn_21 (by decide) ?_
    refine g_goto (pc := 22) (tgt := 26) S dX10_turn_22 (by decide) ?_
    cases hyp
    exact g_iret (pc := 26) S F dX10_turn_26
  · refine g_iload_n (pc := 16) 0 S dX10_turn_16 rfl ?_
    refine g_iconst (pc := 17) (v := (3 : Int32)) S dX10_turn_17 (by decide) ?_
    refine g_icmp_ne (pc := 18) (tgt := 25) S dX10_turn_18 (by decide) hyp (fun hyp => ?_) (fun hyp => ?_)
    · refine g_iconst (pc := 21) (v := (-1 : Int32)) S dX10_turn_21 (by decide) ?_
      refine g_goto (pc := 22) (tgt := 26) S dX10_turn_22 (by decide) ?_
      cases hyp
      exact g_iret (pc := 26) S F dX10_turn_26
    · refine g_iconst (pc := 25) (v := (1 : Int32)) S dX10_turn_25 (by decide) ?_
      cases hyp
      exact g_iret (pc := 26) S F dX10_turn_26
theorem m_X10_turn {l : Launch} {D : va_G} {cT : Nat → ClassId} {aD : Nat → Nat} {c0 : Nat} (k0 : kd c0 (10 + 10, 0)) (a1 : Int32) (h : Hp) {o : Int32} (hyp : s_X10_turn c0 a1 h = some o) : Ok l D cT aD yX10_turn cX10_turn 3 (some .int) 0 0 [.ref (aD c0), .int a1] h (some (.int o)) h :=
  Ok.of (by decide +kernel) rfl (Nat.le_of_ble_eq_true rfl) (fun K e1 e2 e3 e4 S F => by subst e1; exact o_X10_turn S k0 a1 h hyp F)
-- BoundProofsModel setTable (I)V
def s_X10_setTable_l36 (c0 : Nat) (a1 : Int32) (a2 : Int32) (a3 : Int32) (h : Hp) : Option ((Int32 × Hp) ⊕ (Hp)) :=
  if a3 < (3 : Int32) then ((s_X10_turn c0 a2 h).bind fun y3 =>
  (s_X10_coefficientOf c0 a2 a3 h).bind fun y4 =>
  stJ h (c0 + 16) 30 (((10 : Int32) * a3) + (h.1 c0 29)) ((y3 * y4)).toInt64 fun h5 =>
  lt (a3 + (1 : Int32)) fun v3_6 =>
  some (.inl (v3_6, h5)))
  else (some (.inr (h)))
def s_X10_setTable_b84 (c0 : Nat) (a1 : Int32) (a2 : Int32) (h : Hp) : Option ((Int32 × Hp) ⊕ (Hp)) :=
  lt (a2 + (1 : Int32)) fun v2_9 =>
  some (.inl (v2_9, h))
def s_X10_setTable_l7 (c0 : Nat) (a1 : Int32) (a2 : Int32) (h : Hp) : Option ((Int32 × Hp) ⊕ (Hp)) :=
  if a2 < (h.1 c0 3) then (if ((a1 >>> (a2 &&& 31)) &&& (1 : Int32)) = (1 : Int32) then (stI h (c0 + 15) 10 (h.1 c0 29) a2 fun h2 =>
  (iter (fun s : Int32 × Hp => s_X10_setTable_l36 c0 a1 a2 s.1 s.2) FUEL ((0 : Int32), h2)).bind fun e7 =>
  lt (sI e7 c0 29 ((e7.1 c0 29) + (1 : Int32))) fun h8 =>
  s_X10_setTable_b84 c0 a1 a2 h8)
  else (s_X10_setTable_b84 c0 a1 a2 h))
  else (some (.inr (h)))
def s_X10_setTable (c0 : Nat) (a1 : Int32) (h : Hp) : Option (Hp) :=
  lt (sI h c0 29 (0 : Int32)) fun h1 =>
  (iter (fun s : Int32 × Hp => s_X10_setTable_l7 c0 a1 s.1 s.2) FUEL ((0 : Int32), h1)).bind fun e10 =>
  some e10
set_option maxRecDepth 100000 in
set_option maxHeartbeats 4000000 in
theorem o_X10_setTable_l36 {K : gK} (S : Cx K RX10 cX10_setTable 4 1 26) {c0 : Nat} (k0 : kd c0 (10 + 10, 0)) (a1 : Int32) (a2 : Int32) (a3 : Int32) (h : Hp) {o : (Int32 × Hp) ⊕ (Hp)} (hyp : s_X10_setTable_l36 c0 a1 a2 a3 h = some o) (hin : ∀ s', o = .inl s' → Go K 36 [(0, .ref (ad K c0)), (1, .int a1), (2, .int a2), (3, .int s'.1)] [] s'.2) (hex0 : ∀ s', o = .inr (s') → Go K 74 [(0, .ref (ad K c0)), (1, .int a1), (2, .int a2)] [] s') : Go K 36 [(0, .ref (ad K c0)), (1, .int a1), (2, .int a2), (3, .int a3)] [] h := by
  unfold s_X10_setTable_l36 at hyp
  refine g_iload_n (pc := 36) 3 S dX10_setTable_36 rfl ?_
  refine g_iconst (pc := 37) (v := (3 : Int32)) S dX10_setTable_37 (by decide) ?_
  refine g_icmp_ge (pc := 38) (tgt := 74) S dX10_setTable_38 (by decide) hyp (fun hyp => ?_) (fun hyp => ?_)
  · refine g_aload_n (pc := 41) 0 S dX10_setTable_41 rfl ?_
    refine g_getR (pc := 42) S dX10_setTable_42 fl_X10_60 k0 ?_
    refine g_bipush (pc := 45) (v := (10 : Int32)) S dX10_setTable_45 (by decide) ?_
    refine g_iload_n (pc := 47) 3 S dX10_setTable_47 rfl ?_
    refine g_imul (pc := 48) S dX10_setTable_48 ?_
    refine g_aload_n (pc := 49) 0 S dX10_setTable_49 rfl ?_
    refine g_getI (pc := 50) S dX10_setTable_50 fl_X10_210 k0 ?_
    refine g_iadd (pc := 53) S dX10_setTable_53 ?_
    refine g_aload_n (pc := 54) 0 S dX10_setTable_54 rfl ?_
    refine g_iload_n (pc := 55) 2 S dX10_setTable_55 rfl ?_
    refine g_bind hyp (fun y3 hy3 hyp => ?_)
    refine g_callV (pc := 56) (As := [.int a2]) (rest := [.int (((10 : Int32) * a3) + (h.1 c0 29)), .ref (ad K (c0 + 16))]) S dX10_setTable_56 k0 rfl tw_1097 tw_1098 tw_52 mw_X10_turn (m_X10_turn k0 a2 h hy3) rfl rfl (Nat.le_of_ble_eq_true rfl) (Nat.le_of_ble_eq_true rfl) (Nat.le_of_ble_eq_true rfl) ?_
    refine g_aload_n (pc := 59) 0 S dX10_setTable_59 rfl ?_
    refine g_iload_n (pc := 60) 2 S dX10_setTable_60 rfl ?_
    refine g_iload_n (pc := 61) 3 S dX10_setTable_61 rfl ?_
    refine g_bind hyp (fun y4 hy4 hyp => ?_)
    refine g_callV (pc := 62) (As := [.int a2, .int a3]) (rest := [.int y3, .int (((10 : Int32) * a3) + (h.1 c0 29)), .ref (ad K (c0 + 16))]) S dX10_setTable_62 k0 rfl tw_1058 tw_1059 tw_42 mw_X10_coefficientOf (m_X10_coefficientOf k0 a2 a3 h hy4) rfl rfl (Nat.le_of_ble_eq_true rfl) (Nat.le_of_ble_eq_true rfl) (Nat.le_of_ble_eq_true rfl) ?_
    refine g_imul (pc := 65) S dX10_setTable_65 ?_
    refine g_i2l (pc := 66) S dX10_setTable_66 ?_
    refine g_last (pc := 67) S dX10_setTable_67 (kf_10_16 k0) hyp (fun h5 hyp => ?_)
    refine g_iinc (pc := 68) (v := (a3 + (1 : Int32))) (lv' := [(3, .int (a3 + (1 : Int32))), (0, .ref (ad K c0)), (1, .int a1), (2, .int a2)]) 3 S dX10_setTable_68 rfl (by rfl) (by decide) rfl ?_
    refine g_lti (C := fun v3_6 => Go K (68 + 3) [(3, .int v3_6), (0, .ref (ad K c0)), (1, .int a1), (2, .int a2)] [] h5) hyp (fun v3_6 hyp => ?_)
    refine g_goto (pc := 71) (tgt := 36) S dX10_setTable_71 (by decide) ?_
    cases hyp
    exact g_sub [1, 2, 3, 0] rfl (hin _ rfl)
  · cases hyp
    exact g_sub [0, 1, 2] rfl (hex0 _ rfl)
set_option maxRecDepth 100000 in
set_option maxHeartbeats 4000000 in
theorem o_X10_setTable_b84 {K : gK} (S : Cx K RX10 cX10_setTable 4 1 26) {c0 : Nat} (k0 : kd c0 (10 + 10, 0)) (a1 : Int32) (a2 : Int32) (h : Hp) {o : (Int32 × Hp) ⊕ (Hp)} (hyp : s_X10_setTable_b84 c0 a1 a2 h = some o) (hin : ∀ s', o = .inl s' → Go K 7 [(0, .ref (ad K c0)), (1, .int a1), (2, .int s'.1)] [] s'.2) (hex0 : ∀ s', o = .inr (s') → Go K 90 [] [] s') : Go K 84 [(0, .ref (ad K c0)), (1, .int a1), (2, .int a2)] [] h := by
  unfold s_X10_setTable_b84 at hyp
  refine g_iinc (pc := 84) (v := (a2 + (1 : Int32))) (lv' := [(2, .int (a2 + (1 : Int32))), (0, .ref (ad K c0)), (1, .int a1)]) 2 S dX10_setTable_84 rfl (by rfl) (by decide) rfl ?_
  refine g_lti (C := fun v2_9 => Go K (84 + 3) [(2, .int v2_9), (0, .ref (ad K c0)), (1, .int a1)] [] h) hyp (fun v2_9 hyp => ?_)
  refine g_goto (pc := 87) (tgt := 7) S dX10_setTable_87 (by decide) ?_
  cases hyp
  exact g_sub [1, 2, 0] rfl (hin _ rfl)
set_option maxRecDepth 100000 in
set_option maxHeartbeats 4000000 in
theorem o_X10_setTable_l7 {K : gK} (S : Cx K RX10 cX10_setTable 4 1 26) {c0 : Nat} (k0 : kd c0 (10 + 10, 0)) (a1 : Int32) (a2 : Int32) (h : Hp) {o : (Int32 × Hp) ⊕ (Hp)} (hyp : s_X10_setTable_l7 c0 a1 a2 h = some o) (hin : ∀ s', o = .inl s' → Go K 7 [(0, .ref (ad K c0)), (1, .int a1), (2, .int s'.1)] [] s'.2) (hex0 : ∀ s', o = .inr (s') → Go K 90 [] [] s') : Go K 7 [(0, .ref (ad K c0)), (1, .int a1), (2, .int a2)] [] h := by
  unfold s_X10_setTable_l7 at hyp
  refine g_iload_n (pc := 7) 2 S dX10_setTable_7 rfl ?_
  refine g_aload_n (pc := 8) 0 S dX10_setTable_8 rfl ?_
  refine g_getI (pc := 9) S dX10_setTable_9 fl_X10_97 k0 ?_
  refine g_icmp_ge (pc := 12) (tgt := 90) S dX10_setTable_12 (by decide) hyp (fun hyp => ?_) (fun hyp => ?_)
  · refine g_iload_n (pc := 15) 1 S dX10_setTable_15 rfl ?_
    refine g_iload_n (pc := 16) 2 S dX10_setTable_16 rfl ?_
    refine g_ishr (pc := 17) S dX10_setTable_17 ?_
    refine g_iconst (pc := 18) (v := (1 : Int32)) S dX10_setTable_18 (by decide) ?_
    refine g_iand (pc := 19) S dX10_setTable_19 ?_
    refine g_iconst (pc := 20) (v := (1 : Int32)) S dX10_setTable_20 (by decide) ?_
    refine g_icmp_ne (pc := 21) (tgt := 84) S dX10_setTable_21 (by decide) hyp (fun hyp => ?_) (fun hyp => ?_)
    · refine g_aload_n (pc := 24) 0 S dX10_setTable_24 rfl ?_
      refine g_getR (pc := 25) S dX10_setTable_25 fl_X10_57 k0 ?_
      refine g_aload_n (pc := 28) 0 S dX10_setTable_28 rfl ?_
      refine g_getI (pc := 29) S dX10_setTable_29 fl_X10_210 k0 ?_
      refine g_iload_n (pc := 32) 2 S dX10_setTable_32 rfl ?_
      refine g_iast (pc := 33) S dX10_setTable_33 (kf_10_15 k0) hyp (fun h2 hyp => ?_)
      refine g_iconst (pc := 34) (v := (0 : Int32)) S dX10_setTable_34 (by decide) ?_
      refine g_istore_n (pc := 35) (lv' := [(3, .int (0 : Int32)), (0, .ref (ad K c0)), (1, .int a1), (2, .int a2)]) S dX10_setTable_35 rfl (by decide) rfl ?_
      refine g_bind hyp (fun e7 he7 hyp => ?_)
      refine g_sub [1, 2, 3, 0] rfl (g_loop (Hd := fun s : Int32 × Hp => Go K 36 [(0, .ref (ad K c0)), (1, .int a1), (2, .int a2), (3, .int s.1)] [] s.2) (Ex := fun e7 => Go K 74 [(0, .ref (ad K c0)), (1, .int a1), (2, .int a2)] [] e7) (fun s o h1 h2 h3 => o_X10_setTable_l36 S k0 a1 a2 s.1 s.2 h1 h2 h3) FUEL _ e7 he7 ?_)
      refine g_aload_n (pc := 74) 0 S dX10_setTable_74 rfl ?_
      refine g_dup (pc := 75) S dX10_setTable_75 rfl ?_
      refine g_getI (pc := 76) S dX10_setTable_76 fl_X10_210 k0 ?_
      refine g_iconst (pc := 79) (v := (1 : Int32)) S dX10_setTable_79 (by decide) ?_
      refine g_iadd (pc := 80) S dX10_setTable_80 ?_
      refine g_putI (pc := 81) S dX10_setTable_81 fl_X10_210 k0 hyp (fun h8 hyp => ?_)
      exact g_sub [0, 1, 2] rfl (o_X10_setTable_b84 S k0 a1 a2 h8 hyp hin hex0)
    · exact g_sub [0, 1, 2] rfl (o_X10_setTable_b84 S k0 a1 a2 h hyp hin hex0)
  · cases hyp
    exact g_sub [] rfl (hex0 _ rfl)
set_option maxRecDepth 100000 in
set_option maxHeartbeats 4000000 in
theorem o_X10_setTable {K : gK} (S : Cx K RX10 cX10_setTable 4 1 26) {c0 : Nat} (k0 : kd c0 (10 + 10, 0)) (a1 : Int32) (h : Hp) {o : Hp} (hyp : s_X10_setTable c0 a1 h = some o) (F : Rt K none none o) : Go K 0 [(0, .ref (ad K c0)), (1, .int a1)] [] h := by
  unfold s_X10_setTable at hyp
  refine g_aload_n (pc := 0) 0 S dX10_setTable_0 rfl ?_
  refine g_iconst (pc := 1) (v := (0 : Int32)) S dX10_setTable_1 (by decide) ?_
  refine g_putI (pc := 2) S dX10_setTable_2 fl_X10_210 k0 hyp (fun h1 hyp => ?_)
  refine g_iconst (pc := 5) (v := (0 : Int32)) S dX10_setTable_5 (by decide) ?_
  refine g_istore_n (pc := 6) (lv' := [(2, .int (0 : Int32)), (0, .ref (ad K c0)), (1, .int a1)]) S dX10_setTable_6 rfl (by decide) rfl ?_
  refine g_bind hyp (fun e10 he10 hyp => ?_)
  refine g_sub [1, 2, 0] rfl (g_loop (Hd := fun s : Int32 × Hp => Go K 7 [(0, .ref (ad K c0)), (1, .int a1), (2, .int s.1)] [] s.2) (Ex := fun e10 => Go K 90 [] [] e10) (fun s o h1 h2 h3 => o_X10_setTable_l7 S k0 a1 s.1 s.2 h1 h2 h3) FUEL _ e10 he10 ?_)
  cases hyp
  exact g_vret (pc := 90) S F dX10_setTable_90
theorem m_X10_setTable {l : Launch} {D : va_G} {cT : Nat → ClassId} {aD : Nat → Nat} {c0 : Nat} (k0 : kd c0 (10 + 10, 0)) (a1 : Int32) (h : Hp) {o : Hp} (hyp : s_X10_setTable c0 a1 h = some o) : Ok l D cT aD yX10_setTable cX10_setTable 4 none 1 26 [.ref (aD c0), .int a1] h none o :=
  Ok.of (by decide +kernel) rfl (Nat.le_of_ble_eq_true rfl) (fun K e1 e2 e3 e4 S F => by subst e1; exact o_X10_setTable S k0 a1 h hyp F)
-- BoundProofsModel swapsRows (II)V
def s_X10_swapsRows_l2 (c0 : Nat) (a1 : Int32) (a2 : Int32) (a3 : Int32) (h : Hp) : Option ((Int32 × Hp) ⊕ (Hp)) :=
  if a3 < (h.1 c0 29) then (ldJ h (c0 + 16) 30 (((10 : Int32) * a1) + a3) fun x1 =>
  ldJ h (c0 + 16) 30 (((10 : Int32) * a2) + a3) fun x2 =>
  stJ h (c0 + 16) 30 (((10 : Int32) * a1) + a3) x2 fun h3 =>
  stJ h3 (c0 + 16) 30 (((10 : Int32) * a2) + a3) x1 fun h4 =>
  lt (a3 + (1 : Int32)) fun v3_5 =>
  some (.inl (v3_5, h4)))
  else (some (.inr (h)))
def s_X10_swapsRows (c0 : Nat) (a1 : Int32) (a2 : Int32) (h : Hp) : Option (Hp) :=
  (iter (fun s : Int32 × Hp => s_X10_swapsRows_l2 c0 a1 a2 s.1 s.2) FUEL ((0 : Int32), h)).bind fun e6 =>
  some e6
set_option maxRecDepth 100000 in
set_option maxHeartbeats 4000000 in
theorem o_X10_swapsRows_l2 {K : gK} (S : Cx K RX10 cX10_swapsRows 6 0 0) {c0 : Nat} (k0 : kd c0 (10 + 10, 0)) (a1 : Int32) (a2 : Int32) (a3 : Int32) (h : Hp) {o : (Int32 × Hp) ⊕ (Hp)} (hyp : s_X10_swapsRows_l2 c0 a1 a2 a3 h = some o) (hin : ∀ s', o = .inl s' → Go K 2 [(0, .ref (ad K c0)), (1, .int a1), (2, .int a2), (3, .int s'.1)] [] s'.2) (hex0 : ∀ s', o = .inr (s') → Go K 64 [] [] s') : Go K 2 [(0, .ref (ad K c0)), (1, .int a1), (2, .int a2), (3, .int a3)] [] h := by
  unfold s_X10_swapsRows_l2 at hyp
  refine g_iload_n (pc := 2) 3 S dX10_swapsRows_2 rfl ?_
  refine g_aload_n (pc := 3) 0 S dX10_swapsRows_3 rfl ?_
  refine g_getI (pc := 4) S dX10_swapsRows_4 fl_X10_210 k0 ?_
  refine g_icmp_ge (pc := 7) (tgt := 64) S dX10_swapsRows_7 (by decide) hyp (fun hyp => ?_) (fun hyp => ?_)
  · refine g_aload_n (pc := 10) 0 S dX10_swapsRows_10 rfl ?_
    refine g_getR (pc := 11) S dX10_swapsRows_11 fl_X10_60 k0 ?_
    refine g_bipush (pc := 14) (v := (10 : Int32)) S dX10_swapsRows_14 (by decide) ?_
    refine g_iload_n (pc := 16) 1 S dX10_swapsRows_16 rfl ?_
    refine g_imul (pc := 17) S dX10_swapsRows_17 ?_
    refine g_iload_n (pc := 18) 3 S dX10_swapsRows_18 rfl ?_
    refine g_iadd (pc := 19) S dX10_swapsRows_19 ?_
    refine g_lald (pc := 20) S dX10_swapsRows_20 (kf_10_16 k0) hyp (fun x1 hyp => ?_)
    refine g_lstore (pc := 21) (lv' := [(4, .long x1), (0, .ref (ad K c0)), (1, .int a1), (2, .int a2), (3, .int a3)]) S dX10_swapsRows_21 (by decide) rfl ?_
    refine g_aload_n (pc := 23) 1 S dX10_swapsRows_23 rfl ?_
    refine g_getR (pc := 24) S dX10_swapsRows_24 fl_X10_60 k0 ?_
    refine g_bipush (pc := 27) (v := (10 : Int32)) S dX10_swapsRows_27 (by decide) ?_
    refine g_iload_n (pc := 29) 2 S dX10_swapsRows_29 rfl ?_
    refine g_imul (pc := 30) S dX10_swapsRows_30 ?_
    refine g_iload_n (pc := 31) 4 S dX10_swapsRows_31 rfl ?_
    refine g_iadd (pc := 32) S dX10_swapsRows_32 ?_
    refine g_aload_n (pc := 33) 1 S dX10_swapsRows_33 rfl ?_
    refine g_getR (pc := 34) S dX10_swapsRows_34 fl_X10_60 k0 ?_
    refine g_bipush (pc := 37) (v := (10 : Int32)) S dX10_swapsRows_37 (by decide) ?_
    refine g_iload_n (pc := 39) 3 S dX10_swapsRows_39 rfl ?_
    refine g_imul (pc := 40) S dX10_swapsRows_40 ?_
    refine g_iload_n (pc := 41) 4 S dX10_swapsRows_41 rfl ?_
    refine g_iadd (pc := 42) S dX10_swapsRows_42 ?_
    refine g_lald (pc := 43) S dX10_swapsRows_43 (kf_10_16 k0) hyp (fun x2 hyp => ?_)
    refine g_last (pc := 44) S dX10_swapsRows_44 (kf_10_16 k0) hyp (fun h3 hyp => ?_)
    refine g_aload_n (pc := 45) 1 S dX10_swapsRows_45 rfl ?_
    refine g_getR (pc := 46) S dX10_swapsRows_46 fl_X10_60 k0 ?_
    refine g_bipush (pc := 49) (v := (10 : Int32)) S dX10_swapsRows_49 (by decide) ?_
    refine g_iload_n (pc := 51) 3 S dX10_swapsRows_51 rfl ?_
    refine g_imul (pc := 52) S dX10_swapsRows_52 ?_
    refine g_iload_n (pc := 53) 4 S dX10_swapsRows_53 rfl ?_
    refine g_iadd (pc := 54) S dX10_swapsRows_54 ?_
    refine g_lload (pc := 55) 0 S dX10_swapsRows_55 rfl ?_
    refine g_last (pc := 57) S dX10_swapsRows_57 (kf_10_16 k0) hyp (fun h4 hyp => ?_)
    refine g_iinc (pc := 58) (v := (a3 + (1 : Int32))) (lv' := [(3, .int (a3 + (1 : Int32))), (4, .long x1), (0, .ref (ad K c0)), (1, .int a1), (2, .int a2)]) 4 S dX10_swapsRows_58 rfl (by rfl) (by decide) rfl ?_
    refine g_lti (C := fun v3_5 => Go K (58 + 3) [(3, .int v3_5), (4, .long x1), (0, .ref (ad K c0)), (1, .int a1), (2, .int a2)] [] h4) hyp (fun v3_5 hyp => ?_)
    refine g_goto (pc := 61) (tgt := 2) S dX10_swapsRows_61 (by decide) ?_
    cases hyp
    exact g_sub [2, 3, 4, 0] rfl (hin _ rfl)
  · cases hyp
    exact g_sub [] rfl (hex0 _ rfl)
set_option maxRecDepth 100000 in
set_option maxHeartbeats 4000000 in
theorem o_X10_swapsRows {K : gK} (S : Cx K RX10 cX10_swapsRows 6 0 0) {c0 : Nat} (k0 : kd c0 (10 + 10, 0)) (a1 : Int32) (a2 : Int32) (h : Hp) {o : Hp} (hyp : s_X10_swapsRows c0 a1 a2 h = some o) (F : Rt K none none o) : Go K 0 [(0, .ref (ad K c0)), (1, .int a1), (2, .int a2)] [] h := by
  unfold s_X10_swapsRows at hyp
  refine g_iconst (pc := 0) (v := (0 : Int32)) S dX10_swapsRows_0 (by decide) ?_
  refine g_istore_n (pc := 1) (lv' := [(3, .int (0 : Int32)), (0, .ref (ad K c0)), (1, .int a1), (2, .int a2)]) S dX10_swapsRows_1 rfl (by decide) rfl ?_
  refine g_bind hyp (fun e6 he6 hyp => ?_)
  refine g_sub [1, 2, 3, 0] rfl (g_loop (Hd := fun s : Int32 × Hp => Go K 2 [(0, .ref (ad K c0)), (1, .int a1), (2, .int a2), (3, .int s.1)] [] s.2) (Ex := fun e6 => Go K 64 [] [] e6) (fun s o h1 h2 h3 => o_X10_swapsRows_l2 S k0 a1 a2 s.1 s.2 h1 h2 h3) FUEL _ e6 he6 ?_)
  cases hyp
  exact g_vret (pc := 64) S F dX10_swapsRows_64
theorem m_X10_swapsRows {l : Launch} {D : va_G} {cT : Nat → ClassId} {aD : Nat → Nat} {c0 : Nat} (k0 : kd c0 (10 + 10, 0)) (a1 : Int32) (a2 : Int32) (h : Hp) {o : Hp} (hyp : s_X10_swapsRows c0 a1 a2 h = some o) : Ok l D cT aD yX10_swapsRows cX10_swapsRows 6 none 0 0 [.ref (aD c0), .int a1, .int a2] h none o :=
  Ok.of (by decide +kernel) rfl (Nat.le_of_ble_eq_true rfl) (fun K e1 e2 e3 e4 S F => by subst e1; exact o_X10_swapsRows S k0 a1 a2 h hyp F)
-- BoundProofsModel clears (II)V
def s_X10_clears_b106 (c0 : Nat) (a1 : Int32) (a2 : Int32) (a3 : Int32) (h : Hp) : Option ((Int32 × Hp) ⊕ (Hp)) :=
  lt (a3 + (1 : Int32)) fun v3_2 =>
  some (.inl (v3_2, h))
def s_X10_clears_l48 (c0 : Nat) (a1 : Int32) (a2 : Int32) (a3 : Int32) (a4 : Int64) (a6 : Int64) (a8 : Int32) (h : Hp) : Option ((Int32 × Hp) ⊕ (Hp)) :=
  if a8 < (h.1 c0 29) then (ldJ h (c0 + 16) 30 (((10 : Int32) * a3) + a8) fun x4 =>
  ldJ h (c0 + 16) 30 (((10 : Int32) * a1) + a8) fun x5 =>
  stJ h (c0 + 16) 30 (((10 : Int32) * a3) + a8) ((x4 * a6) - (x5 * a4)) fun h6 =>
  lt (a8 + (1 : Int32)) fun v8_7 =>
  some (.inl (v8_7, h6)))
  else (some (.inr (h)))
def s_X10_clears_l2 (c0 : Nat) (a1 : Int32) (a2 : Int32) (a3 : Int32) (h : Hp) : Option ((Int32 × Hp) ⊕ (Hp)) :=
  if a3 < (3 : Int32) then (ldJ h (c0 + 16) 30 (((10 : Int32) * a3) + a2) fun x1 =>
  if a3 = a1 then (s_X10_clears_b106 c0 a1 a2 a3 h)
  else (if x1 = (0 : Int64) then (s_X10_clears_b106 c0 a1 a2 a3 h)
  else (ldJ h (c0 + 16) 30 (((10 : Int32) * a1) + a2) fun x3 =>
  (iter (fun s : Int32 × Hp => s_X10_clears_l48 c0 a1 a2 a3 x1 x3 s.1 s.2) FUEL ((0 : Int32), h)).bind fun e8 =>
  s_X10_clears_b106 c0 a1 a2 a3 e8)))
  else (some (.inr (h)))
def s_X10_clears (c0 : Nat) (a1 : Int32) (a2 : Int32) (h : Hp) : Option (Hp) :=
  (iter (fun s : Int32 × Hp => s_X10_clears_l2 c0 a1 a2 s.1 s.2) FUEL ((0 : Int32), h)).bind fun e9 =>
  some e9
set_option maxRecDepth 100000 in
set_option maxHeartbeats 4000000 in
theorem o_X10_clears_b106 {K : gK} (S : Cx K RX10 cX10_clears 9 0 0) {c0 : Nat} (k0 : kd c0 (10 + 10, 0)) (a1 : Int32) (a2 : Int32) (a3 : Int32) (h : Hp) {o : (Int32 × Hp) ⊕ (Hp)} (hyp : s_X10_clears_b106 c0 a1 a2 a3 h = some o) (hin : ∀ s', o = .inl s' → Go K 2 [(0, .ref (ad K c0)), (1, .int a1), (2, .int a2), (3, .int s'.1)] [] s'.2) (hex0 : ∀ s', o = .inr (s') → Go K 112 [] [] s') : Go K 106 [(0, .ref (ad K c0)), (1, .int a1), (2, .int a2), (3, .int a3)] [] h := by
  unfold s_X10_clears_b106 at hyp
  refine g_iinc (pc := 106) (v := (a3 + (1 : Int32))) (lv' := [(3, .int (a3 + (1 : Int32))), (0, .ref (ad K c0)), (1, .int a1), (2, .int a2)]) 3 S dX10_clears_106 rfl (by rfl) (by decide) rfl ?_
  refine g_lti (C := fun v3_2 => Go K (106 + 3) [(3, .int v3_2), (0, .ref (ad K c0)), (1, .int a1), (2, .int a2)] [] h) hyp (fun v3_2 hyp => ?_)
  refine g_goto (pc := 109) (tgt := 2) S dX10_clears_109 (by decide) ?_
  cases hyp
  exact g_sub [1, 2, 3, 0] rfl (hin _ rfl)
set_option maxRecDepth 100000 in
set_option maxHeartbeats 4000000 in
theorem o_X10_clears_l48 {K : gK} (S : Cx K RX10 cX10_clears 9 0 0) {c0 : Nat} (k0 : kd c0 (10 + 10, 0)) (a1 : Int32) (a2 : Int32) (a3 : Int32) (a4 : Int64) (a6 : Int64) (a8 : Int32) (h : Hp) {o : (Int32 × Hp) ⊕ (Hp)} (hyp : s_X10_clears_l48 c0 a1 a2 a3 a4 a6 a8 h = some o) (hin : ∀ s', o = .inl s' → Go K 48 [(0, .ref (ad K c0)), (1, .int a1), (2, .int a2), (3, .int a3), (4, .long a4), (6, .long a6), (8, .int s'.1)] [] s'.2) (hex0 : ∀ s', o = .inr (s') → Go K 106 [(0, .ref (ad K c0)), (1, .int a1), (2, .int a2), (3, .int a3)] [] s') : Go K 48 [(0, .ref (ad K c0)), (1, .int a1), (2, .int a2), (3, .int a3), (4, .long a4), (6, .long a6), (8, .int a8)] [] h := by
  unfold s_X10_clears_l48 at hyp
  refine g_iload (pc := 48) 6 S dX10_clears_48 rfl ?_
  refine g_aload_n (pc := 50) 0 S dX10_clears_50 rfl ?_
  refine g_getI (pc := 51) S dX10_clears_51 fl_X10_210 k0 ?_
  refine g_icmp_ge (pc := 54) (tgt := 106) S dX10_clears_54 (by decide) hyp (fun hyp => ?_) (fun hyp => ?_)
  · refine g_aload_n (pc := 57) 0 S dX10_clears_57 rfl ?_
    refine g_getR (pc := 58) S dX10_clears_58 fl_X10_60 k0 ?_
    refine g_bipush (pc := 61) (v := (10 : Int32)) S dX10_clears_61 (by decide) ?_
    refine g_iload_n (pc := 63) 3 S dX10_clears_63 rfl ?_
    refine g_imul (pc := 64) S dX10_clears_64 ?_
    refine g_iload (pc := 65) 6 S dX10_clears_65 rfl ?_
    refine g_iadd (pc := 67) S dX10_clears_67 ?_
    refine g_aload_n (pc := 68) 0 S dX10_clears_68 rfl ?_
    refine g_getR (pc := 69) S dX10_clears_69 fl_X10_60 k0 ?_
    refine g_bipush (pc := 72) (v := (10 : Int32)) S dX10_clears_72 (by decide) ?_
    refine g_iload_n (pc := 74) 3 S dX10_clears_74 rfl ?_
    refine g_imul (pc := 75) S dX10_clears_75 ?_
    refine g_iload (pc := 76) 6 S dX10_clears_76 rfl ?_
    refine g_iadd (pc := 78) S dX10_clears_78 ?_
    refine g_lald (pc := 79) S dX10_clears_79 (kf_10_16 k0) hyp (fun x4 hyp => ?_)
    refine g_lload (pc := 80) 5 S dX10_clears_80 rfl ?_
    refine g_lmul (pc := 82) S dX10_clears_82 ?_
    refine g_aload_n (pc := 83) 0 S dX10_clears_83 rfl ?_
    refine g_getR (pc := 84) S dX10_clears_84 fl_X10_60 k0 ?_
    refine g_bipush (pc := 87) (v := (10 : Int32)) S dX10_clears_87 (by decide) ?_
    refine g_iload_n (pc := 89) 1 S dX10_clears_89 rfl ?_
    refine g_imul (pc := 90) S dX10_clears_90 ?_
    refine g_iload (pc := 91) 6 S dX10_clears_91 rfl ?_
    refine g_iadd (pc := 93) S dX10_clears_93 ?_
    refine g_lald (pc := 94) S dX10_clears_94 (kf_10_16 k0) hyp (fun x5 hyp => ?_)
    refine g_lload (pc := 95) 4 S dX10_clears_95 rfl ?_
    refine g_lmul (pc := 97) S dX10_clears_97 ?_
    refine g_lsub (pc := 98) S dX10_clears_98 ?_
    refine g_last (pc := 99) S dX10_clears_99 (kf_10_16 k0) hyp (fun h6 hyp => ?_)
    refine g_iinc (pc := 100) (v := (a8 + (1 : Int32))) (lv' := [(8, .int (a8 + (1 : Int32))), (0, .ref (ad K c0)), (1, .int a1), (2, .int a2), (3, .int a3), (4, .long a4), (6, .long a6)]) 6 S dX10_clears_100 rfl (by rfl) (by decide) rfl ?_
    refine g_lti (C := fun v8_7 => Go K (100 + 3) [(8, .int v8_7), (0, .ref (ad K c0)), (1, .int a1), (2, .int a2), (3, .int a3), (4, .long a4), (6, .long a6)] [] h6) hyp (fun v8_7 hyp => ?_)
    refine g_goto (pc := 103) (tgt := 48) S dX10_clears_103 (by decide) ?_
    cases hyp
    exact g_sub [1, 2, 3, 4, 5, 6, 0] rfl (hin _ rfl)
  · cases hyp
    exact g_sub [0, 1, 2, 3] rfl (hex0 _ rfl)
set_option maxRecDepth 100000 in
set_option maxHeartbeats 4000000 in
theorem o_X10_clears_l2 {K : gK} (S : Cx K RX10 cX10_clears 9 0 0) {c0 : Nat} (k0 : kd c0 (10 + 10, 0)) (a1 : Int32) (a2 : Int32) (a3 : Int32) (h : Hp) {o : (Int32 × Hp) ⊕ (Hp)} (hyp : s_X10_clears_l2 c0 a1 a2 a3 h = some o) (hin : ∀ s', o = .inl s' → Go K 2 [(0, .ref (ad K c0)), (1, .int a1), (2, .int a2), (3, .int s'.1)] [] s'.2) (hex0 : ∀ s', o = .inr (s') → Go K 112 [] [] s') : Go K 2 [(0, .ref (ad K c0)), (1, .int a1), (2, .int a2), (3, .int a3)] [] h := by
  unfold s_X10_clears_l2 at hyp
  refine g_iload_n (pc := 2) 3 S dX10_clears_2 rfl ?_
  refine g_iconst (pc := 3) (v := (3 : Int32)) S dX10_clears_3 (by decide) ?_
  refine g_icmp_ge (pc := 4) (tgt := 112) S dX10_clears_4 (by decide) hyp (fun hyp => ?_) (fun hyp => ?_)
  · refine g_aload_n (pc := 7) 0 S dX10_clears_7 rfl ?_
    refine g_getR (pc := 8) S dX10_clears_8 fl_X10_60 k0 ?_
    refine g_bipush (pc := 11) (v := (10 : Int32)) S dX10_clears_11 (by decide) ?_
    refine g_iload_n (pc := 13) 3 S dX10_clears_13 rfl ?_
    refine g_imul (pc := 14) S dX10_clears_14 ?_
    refine g_iload_n (pc := 15) 2 S dX10_clears_15 rfl ?_
    refine g_iadd (pc := 16) S dX10_clears_16 ?_
    refine g_lald (pc := 17) S dX10_clears_17 (kf_10_16 k0) hyp (fun x1 hyp => ?_)
    refine g_lstore (pc := 18) (lv' := [(4, .long x1), (0, .ref (ad K c0)), (1, .int a1), (2, .int a2), (3, .int a3)]) S dX10_clears_18 (by decide) rfl ?_
    refine g_iload_n (pc := 20) 4 S dX10_clears_20 rfl ?_
    refine g_iload_n (pc := 21) 2 S dX10_clears_21 rfl ?_
    refine g_icmp_eq (pc := 22) (tgt := 106) S dX10_clears_22 (by decide) hyp (fun hyp => ?_) (fun hyp => ?_)
    · exact g_sub [1, 2, 3, 4] rfl (o_X10_clears_b106 S k0 a1 a2 a3 h hyp hin hex0)
    · refine g_lload (pc := 25) 0 S dX10_clears_25 rfl ?_
      refine g_lconst (pc := 27) (v := (0 : Int64)) S dX10_clears_27 (by decide) ?_
      refine g_lcmp_eq (pc := 28) (tgt := 106) S dX10_clears_28 dX10_clears_29 (by decide) hyp (fun hyp => ?_) (fun hyp => ?_)
      · exact g_sub [1, 2, 3, 4] rfl (o_X10_clears_b106 S k0 a1 a2 a3 h hyp hin hex0)
      · refine g_aload_n (pc := 32) 1 S dX10_clears_32 rfl ?_
        refine g_getR (pc := 33) S dX10_clears_33 fl_X10_60 k0 ?_
        refine g_bipush (pc := 36) (v := (10 : Int32)) S dX10_clears_36 (by decide) ?_
        refine g_iload_n (pc := 38) 2 S dX10_clears_38 rfl ?_
        refine g_imul (pc := 39) S dX10_clears_39 ?_
        refine g_iload_n (pc := 40) 3 S dX10_clears_40 rfl ?_
        refine g_iadd (pc := 41) S dX10_clears_41 ?_
        refine g_lald (pc := 42) S dX10_clears_42 (kf_10_16 k0) hyp (fun x3 hyp => ?_)
        refine g_lstore (pc := 43) (lv' := [(6, .long x3), (4, .long x1), (0, .ref (ad K c0)), (1, .int a1), (2, .int a2), (3, .int a3)]) S dX10_clears_43 (by decide) rfl ?_
        refine g_iconst (pc := 45) (v := (0 : Int32)) S dX10_clears_45 (by decide) ?_
        refine g_istore (pc := 46) (lv' := [(8, .int (0 : Int32)), (6, .long x3), (4, .long x1), (0, .ref (ad K c0)), (1, .int a1), (2, .int a2), (3, .int a3)]) S dX10_clears_46 (by decide) rfl ?_
        refine g_bind hyp (fun e8 he8 hyp => ?_)
        refine g_sub [3, 4, 5, 6, 2, 1, 0] rfl (g_loop (Hd := fun s : Int32 × Hp => Go K 48 [(0, .ref (ad K c0)), (1, .int a1), (2, .int a2), (3, .int a3), (4, .long x1), (6, .long x3), (8, .int s.1)] [] s.2) (Ex := fun e8 => Go K 106 [(0, .ref (ad K c0)), (1, .int a1), (2, .int a2), (3, .int a3)] [] e8) (fun s o h1 h2 h3 => o_X10_clears_l48 S k0 a1 a2 a3 x1 x3 s.1 s.2 h1 h2 h3) FUEL _ e8 he8 ?_)
        exact g_sub [0, 1, 2, 3] rfl (o_X10_clears_b106 S k0 a1 a2 a3 e8 hyp hin hex0)
  · cases hyp
    exact g_sub [] rfl (hex0 _ rfl)
set_option maxRecDepth 100000 in
set_option maxHeartbeats 4000000 in
theorem o_X10_clears {K : gK} (S : Cx K RX10 cX10_clears 9 0 0) {c0 : Nat} (k0 : kd c0 (10 + 10, 0)) (a1 : Int32) (a2 : Int32) (h : Hp) {o : Hp} (hyp : s_X10_clears c0 a1 a2 h = some o) (F : Rt K none none o) : Go K 0 [(0, .ref (ad K c0)), (1, .int a1), (2, .int a2)] [] h := by
  unfold s_X10_clears at hyp
  refine g_iconst (pc := 0) (v := (0 : Int32)) S dX10_clears_0 (by decide) ?_
  refine g_istore_n (pc := 1) (lv' := [(3, .int (0 : Int32)), (0, .ref (ad K c0)), (1, .int a1), (2, .int a2)]) S dX10_clears_1 rfl (by decide) rfl ?_
  refine g_bind hyp (fun e9 he9 hyp => ?_)
  refine g_sub [1, 2, 3, 0] rfl (g_loop (Hd := fun s : Int32 × Hp => Go K 2 [(0, .ref (ad K c0)), (1, .int a1), (2, .int a2), (3, .int s.1)] [] s.2) (Ex := fun e9 => Go K 112 [] [] e9) (fun s o h1 h2 h3 => o_X10_clears_l2 S k0 a1 a2 s.1 s.2 h1 h2 h3) FUEL _ e9 he9 ?_)
  cases hyp
  exact g_vret (pc := 112) S F dX10_clears_112
theorem m_X10_clears {l : Launch} {D : va_G} {cT : Nat → ClassId} {aD : Nat → Nat} {c0 : Nat} (k0 : kd c0 (10 + 10, 0)) (a1 : Int32) (a2 : Int32) (h : Hp) {o : Hp} (hyp : s_X10_clears c0 a1 a2 h = some o) : Ok l D cT aD yX10_clears cX10_clears 9 none 0 0 [.ref (aD c0), .int a1, .int a2] h none o :=
  Ok.of (by decide +kernel) rfl (Nat.le_of_ble_eq_true rfl) (fun K e1 e2 e3 e4 S F => by subst e1; exact o_X10_clears S k0 a1 a2 h hyp F)
-- BoundProofsModel turnsRight ()Z
def s_X10_turnsRight_l4 (c0 : Nat) (a1 : Int64) (a3 : Int32) (h : Hp) : Option ((Int64 × Int32) ⊕ ((Int64) ⊕ (Int32))) :=
  if a3 < (h.1 c0 29) then (ldI h (c0 + 15) 10 a3 fun x1 =>
  ldI h (c0 + 2) 30 (((3 : Int32) * x1) + (1 : Int32)) fun x2 =>
  if x2 = (4 : Int32) then (ldJ h (c0 + 17) 10 a3 fun x3 =>
  ldI h (c0 + 2) 30 (((3 : Int32) * x1) + (2 : Int32)) fun x4 =>
  lt (a1 + (x3 * (x4).toInt64)) fun v1_5 =>
  lt (a3 + (1 : Int32)) fun v3_6 =>
  some (.inl (v1_5, v3_6)))
  else (ldJ h (c0 + 17) 10 a3 fun x7 =>
  if (0 : Int64) < x7 then (some (.inr (.inr (1 : Int32))))
  else (some (.inr (.inr (0 : Int32))))))
  else (some (.inr (.inl a1)))
def s_X10_turnsRight (c0 : Nat)  (h : Hp) : Option (Int32) :=
  (iter (fun s : Int64 × Int32 => s_X10_turnsRight_l4 c0 s.1 s.2 h) FUEL ((0 : Int64), (0 : Int32))).bind (Sum.elim (fun t9 => if t9 < (0 : Int64) then (some (1 : Int32))
  else (some (0 : Int32)))
  (fun t10 => some t10))
set_option maxRecDepth 100000 in
set_option maxHeartbeats 4000000 in
theorem o_X10_turnsRight_l4 {K : gK} (S : Cx K RX10 cX10_turnsRight 5 0 0) {c0 : Nat} (k0 : kd c0 (10 + 10, 0)) (a1 : Int64) (a3 : Int32) (h : Hp) {o : (Int64 × Int32) ⊕ ((Int64) ⊕ (Int32))} (hyp : s_X10_turnsRight_l4 c0 a1 a3 h = some o) (hin : ∀ s', o = .inl s' → Go K 4 [(0, .ref (ad K c0)), (1, .long s'.1), (3, .int s'.2)] [] h) (hex0 : ∀ s', o = .inr (.inl s') → Go K 80 [(1, .long s')] [] h) (hret : ∀ x', o = .inr (.inr x') → Rt K (some .boolean) (some (.int x')) h) : Go K 4 [(0, .ref (ad K c0)), (1, .long a1), (3, .int a3)] [] h := by
  unfold s_X10_turnsRight_l4 at hyp
  refine g_iload_n (pc := 4) 2 S dX10_turnsRight_4 rfl ?_
  refine g_aload_n (pc := 5) 0 S dX10_turnsRight_5 rfl ?_
  refine g_getI (pc := 6) S dX10_turnsRight_6 fl_X10_210 k0 ?_
  refine g_icmp_ge (pc := 9) (tgt := 80) S dX10_turnsRight_9 (by decide) hyp (fun hyp => ?_) (fun hyp => ?_)
  · refine g_aload_n (pc := 12) 0 S dX10_turnsRight_12 rfl ?_
    refine g_getR (pc := 13) S dX10_turnsRight_13 fl_X10_57 k0 ?_
    refine g_iload_n (pc := 16) 2 S dX10_turnsRight_16 rfl ?_
    refine g_iald (pc := 17) S dX10_turnsRight_17 (kf_10_15 k0) hyp (fun x1 hyp => ?_)
    refine g_istore (pc := 18) (lv' := [(4, .int x1), (0, .ref (ad K c0)), (1, .long a1), (3, .int a3)]) S dX10_turnsRight_18 (by decide) rfl ?_
    refine g_aload_n (pc := 20) 1 S dX10_turnsRight_20 rfl ?_
    refine g_getR (pc := 21) S dX10_turnsRight_21 fl_X10_17 k0 ?_
    refine g_iconst (pc := 24) (v := (3 : Int32)) S dX10_turnsRight_24 (by decide) ?_
    refine g_iload (pc := 25) 0 S dX10_turnsRight_25 rfl ?_
    refine g_imul (pc := 27) S dX10_turnsRight_27 ?_
    refine g_iconst (pc := 28) (v := (1 : Int32)) S dX10_turnsRight_28 (by decide) ?_
    refine g_iadd (pc := 29) S dX10_turnsRight_29 ?_
    refine g_iald (pc := 30) S dX10_turnsRight_30 (kf_10_2 k0) hyp (fun x2 hyp => ?_)
    refine g_iconst (pc := 31) (v := (4 : Int32)) S dX10_turnsRight_31 (by decide) ?_
    refine g_icmp_eq (pc := 32) (tgt := 52) S dX10_turnsRight_32 (by decide) hyp (fun hyp => ?_) (fun hyp => ?_)
    · refine g_lload_n (pc := 52) 2 S dX10_turnsRight_52 rfl ?_
      refine g_aload_n (pc := 53) 1 S dX10_turnsRight_53 rfl ?_
      refine g_getR (pc := 54) S dX10_turnsRight_54 fl_X10_63 k0 ?_
      refine g_iload_n (pc := 57) 3 S dX10_turnsRight_57 rfl ?_
      refine g_lald (pc := 58) S dX10_turnsRight_58 (kf_10_17 k0) hyp (fun x3 hyp => ?_)
      refine g_aload_n (pc := 59) 1 S dX10_turnsRight_59 rfl ?_
      refine g_getR (pc := 60) S dX10_turnsRight_60 fl_X10_17 k0 ?_
      refine g_iconst (pc := 63) (v := (3 : Int32)) S dX10_turnsRight_63 (by decide) ?_
      refine g_iload (pc := 64) 0 S dX10_turnsRight_64 rfl ?_
      refine g_imul (pc := 66) S dX10_turnsRight_66 ?_
      refine g_iconst (pc := 67) (v := (2 : Int32)) S dX10_turnsRight_67 (by decide) ?_
      refine g_iadd (pc := 68) S dX10_turnsRight_68 ?_
      refine g_iald (pc := 69) S dX10_turnsRight_69 (kf_10_2 k0) hyp (fun x4 hyp => ?_)
      refine g_i2l (pc := 70) S dX10_turnsRight_70 ?_
      refine g_lmul (pc := 71) S dX10_turnsRight_71 ?_
      refine g_ladd (pc := 72) S dX10_turnsRight_72 ?_
      refine g_lti (C := fun v1_5 => Go K 73 [(4, .int x1), (0, .ref (ad K c0)), (1, .long a1), (3, .int a3)] [.long v1_5] h) hyp (fun v1_5 hyp => ?_)
      refine g_lstore_n (pc := 73) (lv' := [(1, .long v1_5), (4, .int x1), (0, .ref (ad K c0)), (3, .int a3)]) S dX10_turnsRight_73 rfl (by decide) rfl ?_
      refine g_iinc (pc := 74) (v := (a3 + (1 : Int32))) (lv' := [(3, .int (a3 + (1 : Int32))), (1, .long v1_5), (4, .int x1), (0, .ref (ad K c0))]) 3 S dX10_turnsRight_74 rfl (by rfl) (by decide) rfl ?_
      refine g_lti (C := fun v3_6 => Go K (74 + 3) [(3, .int v3_6), (1, .long v1_5), (4, .int x1), (0, .ref (ad K c0))] [] h) hyp (fun v3_6 hyp => ?_)
      refine g_goto (pc := 77) (tgt := 4) S dX10_turnsRight_77 (by decide) ?_
      cases hyp
      exact g_sub [3, 1, 0] rfl (hin _ rfl)
    · refine g_aload_n (pc := 35) 1 S dX10_turnsRight_35 rfl ?_
      refine g_getR (pc := 36) S dX10_turnsRight_36 fl_X10_63 k0 ?_
      refine g_iload_n (pc := 39) 3 S dX10_turnsRight_39 rfl ?_
      refine g_lald (pc := 40) S dX10_turnsRight_40 (kf_10_17 k0) hyp (fun x7 hyp => ?_)
      refine g_lconst (pc := 41) (v := (0 : Int64)) S dX10_turnsRight_41 (by decide) ?_
      refine g_lcmp_le (pc := 42) (tgt := 50) S dX10_turnsRight_42 dX10_turnsRight_43 (by decide) hyp (fun hyp => ?_) (fun hyp => ?_)
      · refine g_iconst (pc := 46) (v := (1 : Int32)) S dX10_turnsRight_46 (by decide) ?_
        refine g_goto (pc := 47) (tgt := 51) S dX10_turnsRight_47 (by decide) ?_
        cases hyp
        exact g_zret (pc := 51) S (hret _ rfl) dX10_turnsRight_51 (Or.inr rfl)
      · refine g_iconst (pc := 50) (v := (0 : Int32)) S dX10_turnsRight_50 (by decide) ?_
        cases hyp
        exact g_zret (pc := 51) S (hret _ rfl) dX10_turnsRight_51 (Or.inl rfl)
  · cases hyp
    exact g_sub [1] rfl (hex0 _ rfl)
set_option maxRecDepth 100000 in
set_option maxHeartbeats 4000000 in
theorem o_X10_turnsRight {K : gK} (S : Cx K RX10 cX10_turnsRight 5 0 0) {c0 : Nat} (k0 : kd c0 (10 + 10, 0))  (h : Hp) {o : Int32} (hyp : s_X10_turnsRight c0  h = some o) (F : Rt K (some .boolean) (some (.int o)) h) : Go K 0 [(0, .ref (ad K c0))] [] h := by
  unfold s_X10_turnsRight at hyp
  refine g_lconst (pc := 0) (v := (0 : Int64)) S dX10_turnsRight_0 (by decide) ?_
  refine g_lstore_n (pc := 1) (lv' := [(1, .long (0 : Int64)), (0, .ref (ad K c0))]) S dX10_turnsRight_1 rfl (by decide) rfl ?_
  refine g_iconst (pc := 2) (v := (0 : Int32)) S dX10_turnsRight_2 (by decide) ?_
  refine g_istore_n (pc := 3) (lv' := [(3, .int (0 : Int32)), (1, .long (0 : Int64)), (0, .ref (ad K c0))]) S dX10_turnsRight_3 rfl (by decide) rfl ?_
  refine g_bind hyp (fun e8 he8 hyp => ?_)
  refine g_sub [2, 1, 0] rfl (g_loop (Hd := fun s : Int64 × Int32 => Go K 4 [(0, .ref (ad K c0)), (1, .long s.1), (3, .int s.2)] [] h) (Ex := fun e8 => (∀ t, e8 = .inl t → Go K 80 [(1, .long t)] [] h) ∧ (∀ t, e8 = .inr t → Rt K (some .boolean) (some (.int t)) h)) (fun s o h1 h2 h3 => o_X10_turnsRight_l4 S k0 s.1 s.2 h h1 h2 (fun t q => (h3 _ q).1 t rfl) (fun t q => (h3 _ q).2 t rfl)) FUEL _ e8 he8 ?_)
  refine ⟨?_, ?_⟩
  · intro t9 q
    subst q
    refine g_lload_n (pc := 80) 0 S dX10_turnsRight_80 rfl ?_
    refine g_lconst (pc := 81) (v := (0 : Int64)) S dX10_turnsRight_81 (by decide) ?_
    refine g_lcmp_ge (pc := 82) (tgt := 90) S dX10_turnsRight_82 dX10_turnsRight_83 (by decide) hyp (fun hyp => ?_) (fun hyp => ?_)
    · refine g_iconst (pc := 86) (v := (1 : Int32)) S dX10_turnsRight_86 (by decide) ?_
      refine g_goto (pc := 87) (tgt := 91) S dX10_turnsRight_87 (by decide) ?_
      cases hyp
      exact g_zret (pc := 91) S F dX10_turnsRight_91 (Or.inr rfl)
    · refine g_iconst (pc := 90) (v := (0 : Int32)) S dX10_turnsRight_90 (by decide) ?_
      cases hyp
      exact g_zret (pc := 91) S F dX10_turnsRight_91 (Or.inl rfl)
  · intro t10 q
    subst q
    cases hyp
    exact F
theorem m_X10_turnsRight {l : Launch} {D : va_G} {cT : Nat → ClassId} {aD : Nat → Nat} {c0 : Nat} (k0 : kd c0 (10 + 10, 0))  (h : Hp) {o : Int32} (hyp : s_X10_turnsRight c0  h = some o) : Ok l D cT aD yX10_turnsRight cX10_turnsRight 5 (some .boolean) 0 0 [.ref (aD c0)] h (some (.int o)) h :=
  Ok.of (by decide +kernel) rfl (Nat.le_of_ble_eq_true rfl) (fun K e1 e2 e3 e4 S F => by subst e1; exact o_X10_turnsRight S k0  h hyp F)
