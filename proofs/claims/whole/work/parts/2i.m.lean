-- BoundProofs addToFound (JJ)V
noncomputable def s_X9_addToFound (c0 : Nat) (a1 : Int64) (a3 : Int64) (h : Hp) : Option (Hp) :=
  (s_X9_commonDivisor  (h.2 c0 13) a3 h).bind fun y1 =>
  if (0 : Int64) < y1 then (nzJ y1 <|
  lt (a3 / y1) fun v7_2 =>
  nzJ y1 <|
  (s_X9_find c0 (((h.2 c0 12) * v7_2) + (a1 * ((h.2 c0 13) / y1))) ((h.2 c0 13) * v7_2) h).bind fun y3 =>
  some y3)
  else (some h)
set_option maxRecDepth 100000 in
set_option maxHeartbeats 4000000 in
theorem o_X9_addToFound {K : gK} (S : Cx K RX9 cX9_addToFound 9 3 89) {c0 : Nat} (k0 : kd c0 (10 + 9, 0)) (a1 : Int64) (a3 : Int64) (h : Hp) {o : Hp} (hyp : s_X9_addToFound c0 a1 a3 h = some o) (F : Rt K none none o) : Go K 0 [(0, .ref (ad K c0)), (1, .long a1), (3, .long a3)] [] h := by
  unfold s_X9_addToFound at hyp
  refine g_aload_n (pc := 0) 0 S dX9_addToFound_0 rfl ?_
  refine g_getJ (pc := 1) S dX9_addToFound_1 fl_X9_85 k0 ?_
  refine g_lload_n (pc := 4) 2 S dX9_addToFound_4 rfl ?_
  refine g_bind hyp (fun y1 hy1 hyp => ?_)
  refine g_callS (pc := 5) (As := [.long (h.2 c0 13), .long a3]) (rest := []) S dX9_addToFound_5 tw_679 tw_650 mw_X9_commonDivisor (m_X9_commonDivisor  (h.2 c0 13) a3 h hy1) rfl rfl (Nat.le_of_ble_eq_true rfl) (Nat.le_of_ble_eq_true rfl) (Nat.le_of_ble_eq_true rfl) ?_
  refine g_lstore (pc := 8) (lv' := [(5, .long y1), (0, .ref (ad K c0)), (1, .long a1), (3, .long a3)]) S dX9_addToFound_8 (by decide) rfl ?_
  refine g_lload (pc := 10) 0 S dX9_addToFound_10 rfl ?_
  refine g_lconst (pc := 12) (v := (0 : Int64)) S dX9_addToFound_12 (by decide) ?_
  refine g_lcmp_le (pc := 13) (tgt := 51) S dX9_addToFound_13 dX9_addToFound_14 (by decide) hyp (fun hyp => ?_) (fun hyp => ?_)
  · refine g_lload_n (pc := 17) 3 S dX9_addToFound_17 rfl ?_
    refine g_lload (pc := 18) 0 S dX9_addToFound_18 rfl ?_
    refine g_nzJ hyp (fun hz hyp => ?_)
    refine g_ldiv (pc := 20) S dX9_addToFound_20 hz ?_
    refine g_lti (C := fun v7_2 => Go K 21 [(5, .long y1), (0, .ref (ad K c0)), (1, .long a1), (3, .long a3)] [.long v7_2] h) hyp (fun v7_2 hyp => ?_)
    refine g_lstore (pc := 21) (lv' := [(7, .long v7_2), (5, .long y1), (0, .ref (ad K c0)), (1, .long a1), (3, .long a3)]) S dX9_addToFound_21 (by decide) rfl ?_
    refine g_aload_n (pc := 23) 2 S dX9_addToFound_23 rfl ?_
    refine g_aload_n (pc := 24) 2 S dX9_addToFound_24 rfl ?_
    refine g_getJ (pc := 25) S dX9_addToFound_25 fl_X9_81 k0 ?_
    refine g_lload (pc := 28) 0 S dX9_addToFound_28 rfl ?_
    refine g_lmul (pc := 30) S dX9_addToFound_30 ?_
    refine g_lload_n (pc := 31) 3 S dX9_addToFound_31 rfl ?_
    refine g_aload_n (pc := 32) 2 S dX9_addToFound_32 rfl ?_
    refine g_getJ (pc := 33) S dX9_addToFound_33 fl_X9_85 k0 ?_
    refine g_lload (pc := 36) 1 S dX9_addToFound_36 rfl ?_
    refine g_nzJ hyp (fun hz hyp => ?_)
    refine g_ldiv (pc := 38) S dX9_addToFound_38 hz ?_
    refine g_lmul (pc := 39) S dX9_addToFound_39 ?_
    refine g_ladd (pc := 40) S dX9_addToFound_40 ?_
    refine g_aload_n (pc := 41) 2 S dX9_addToFound_41 rfl ?_
    refine g_getJ (pc := 42) S dX9_addToFound_42 fl_X9_85 k0 ?_
    refine g_lload (pc := 45) 0 S dX9_addToFound_45 rfl ?_
    refine g_lmul (pc := 47) S dX9_addToFound_47 ?_
    refine g_bind hyp (fun y3 hy3 hyp => ?_)
    refine g_callV (pc := 48) (As := [.long (((h.2 c0 12) * v7_2) + (a1 * ((h.2 c0 13) / y1))), .long ((h.2 c0 13) * v7_2)]) (rest := []) S dX9_addToFound_48 k0 rfl tw_676 tw_677 tw_19 mw_X9_find (m_X9_find k0 (((h.2 c0 12) * v7_2) + (a1 * ((h.2 c0 13) / y1))) ((h.2 c0 13) * v7_2) h hy3) rfl rfl (Nat.le_of_ble_eq_true rfl) (Nat.le_of_ble_eq_true rfl) (Nat.le_of_ble_eq_true rfl) ?_
    have hyp := Option.some.inj hyp
    subst hyp
    exact g_vret (pc := 51) S F dX9_addToFound_51
  · have hyp := Option.some.inj hyp
    subst hyp
    exact g_vret (pc := 51) S F dX9_addToFound_51
theorem m_X9_addToFound {l : Launch} {D : va_G} {cT : Nat → ClassId} {aD : Nat → Nat} {c0 : Nat} (k0 : kd c0 (10 + 9, 0)) (a1 : Int64) (a3 : Int64) (h : Hp) {o : Hp} (hyp : s_X9_addToFound c0 a1 a3 h = some o) : Ok l D cT aD yX9_addToFound cX9_addToFound 9 none 3 89 [.ref (aD c0), .long a1, .long a3] h none o :=
  Ok.of (by decide +kernel) rfl (Nat.le_of_ble_eq_true rfl) (fun K e1 e2 e3 e4 S F => by subst e1; exact o_X9_addToFound S k0 a1 a3 h hyp F)
-- BoundProofs value (I)I
noncomputable def s_X9_value_l49 (c0 : Nat) (a1 : Int32) (a2 : Int32) (h : Hp) : Option ((Int32 × Hp) ⊕ (Hp)) :=
  if a2 < (3 : Int32) then ((s_X5_entry (c0 + 1) a1 a2 h).bind fun y5 =>
  ldJ h ((c0 + 42) + 11) 3 a2 fun x6 =>
  ldJ h ((c0 + 42) + 12) 3 a2 fun x7 =>
  (s_X9_addToFound c0 ((y5).toInt64 * x6) x7 h).bind fun y8 =>
  lt (a2 + (1 : Int32)) fun v2_9 =>
  some (.inl (v2_9, y8)))
  else (some (.inr (h)))
noncomputable def s_X9_value (c0 : Nat) (a1 : Int32) (h : Hp) : Option (Int32 × Hp) :=
  (s_X5_hasForm (c0 + 1) a1 h).bind fun y1 =>
  if y1 = 0 then (some ((-1 : Int32), h))
  else ((s_X9_satisfiable c0  h).bind fun y2 =>
  if y2 = 0 then (some ((-2 : Int32), h))
  else ((s_X8_choose (c0 + 42) (c0 + 32) (h.1 (c0 + 1) 0) h).bind fun y3 =>
  (s_X9_find c0 (0 : Int64) (1 : Int64) y3).bind fun y4 =>
  (iter (fun s : Int32 × Hp => s_X9_value_l49 c0 a1 s.1 s.2) FUEL ((0 : Int32), y4)).bind fun e10 =>
  some ((1 : Int32), e10)))
set_option maxRecDepth 100000 in
set_option maxHeartbeats 4000000 in
theorem o_X9_value_l49 {K : gK} (S : Cx K RX9 cX9_value 3 6 171) {c0 : Nat} (k0 : kd c0 (10 + 9, 0)) (a1 : Int32) (a2 : Int32) (h : Hp) {o : (Int32 × Hp) ⊕ (Hp)} (hyp : s_X9_value_l49 c0 a1 a2 h = some o) (hin : ∀ s', o = .inl s' → Go K 49 [(0, .ref (ad K c0)), (1, .int a1), (2, .int s'.1)] [] s'.2) (hex0 : ∀ s', o = .inr (s') → Go K 93 [] [] s') : Go K 49 [(0, .ref (ad K c0)), (1, .int a1), (2, .int a2)] [] h := by
  unfold s_X9_value_l49 at hyp
  refine g_iload_n (pc := 49) 2 S dX9_value_49 rfl ?_
  refine g_iconst (pc := 50) (v := (3 : Int32)) S dX9_value_50 (by decide) ?_
  refine g_icmp_ge (pc := 51) (tgt := 93) S dX9_value_51 (by decide) hyp (fun hyp => ?_) (fun hyp => ?_)
  · refine g_aload_n (pc := 54) 0 S dX9_value_54 rfl ?_
    refine g_aload_n (pc := 55) 0 S dX9_value_55 rfl ?_
    refine g_getR (pc := 56) S dX9_value_56 fl_X9_12 k0 ?_
    refine g_iload_n (pc := 59) 1 S dX9_value_59 rfl ?_
    refine g_iload_n (pc := 60) 2 S dX9_value_60 rfl ?_
    refine g_bind hyp (fun y5 hy5 hyp => ?_)
    refine g_callV (pc := 61) (As := [.int a1, .int a2]) (rest := [.ref (ad K c0)]) S dX9_value_61 (kf_9_1 k0) rfl tw_516 tw_517 tw_518 mw_X5_entry (m_X5_entry (kf_9_1 k0) a1 a2 h hy5) rfl rfl (Nat.le_of_ble_eq_true rfl) (Nat.le_of_ble_eq_true rfl) (Nat.le_of_ble_eq_true rfl) ?_
    refine g_i2l (pc := 64) S dX9_value_64 ?_
    refine g_aload_n (pc := 65) 0 S dX9_value_65 rfl ?_
    refine g_getR (pc := 66) S dX9_value_66 fl_X9_63 k0 ?_
    refine g_getR (pc := 69) S dX9_value_69 fl_X9_256 (kf_9_42 k0) ?_
    refine g_iload_n (pc := 72) 2 S dX9_value_72 rfl ?_
    refine g_lald (pc := 73) S dX9_value_73 (kf_8_11 (kf_9_42 k0)) hyp (fun x6 hyp => ?_)
    refine g_lmul (pc := 74) S dX9_value_74 ?_
    refine g_aload_n (pc := 75) 0 S dX9_value_75 rfl ?_
    refine g_getR (pc := 76) S dX9_value_76 fl_X9_63 k0 ?_
    refine g_getR (pc := 79) S dX9_value_79 fl_X9_259 (kf_9_42 k0) ?_
    refine g_iload_n (pc := 82) 2 S dX9_value_82 rfl ?_
    refine g_lald (pc := 83) S dX9_value_83 (kf_8_12 (kf_9_42 k0)) hyp (fun x7 hyp => ?_)
    refine g_bind hyp (fun y8 hy8 hyp => ?_)
    refine g_callV (pc := 84) (As := [.long ((y5).toInt64 * x6), .long x7]) (rest := []) S dX9_value_84 k0 rfl tw_755 tw_756 tw_26 mw_X9_addToFound (m_X9_addToFound k0 ((y5).toInt64 * x6) x7 h hy8) rfl rfl (Nat.le_of_ble_eq_true rfl) (Nat.le_of_ble_eq_true rfl) (Nat.le_of_ble_eq_true rfl) ?_
    refine g_iinc (pc := 87) (v := (a2 + (1 : Int32))) (lv' := [(2, .int (a2 + (1 : Int32))), (0, .ref (ad K c0)), (1, .int a1)]) 2 S dX9_value_87 rfl (by rfl) (by decide) rfl ?_
    refine g_lti (C := fun v2_9 => Go K (87 + 3) [(2, .int v2_9), (0, .ref (ad K c0)), (1, .int a1)] [] y8) hyp (fun v2_9 hyp => ?_)
    refine g_goto (pc := 90) (tgt := 49) S dX9_value_90 (by decide) ?_
    have hyp := Option.some.inj hyp
    subst hyp
    exact g_sub [1, 2, 0] rfl (hin (v2_9, y8) rfl)
  · have hyp := Option.some.inj hyp
    subst hyp
    exact g_sub [] rfl (hex0 h rfl)
set_option maxRecDepth 100000 in
set_option maxHeartbeats 4000000 in
theorem o_X9_value {K : gK} (S : Cx K RX9 cX9_value 3 6 171) {c0 : Nat} (k0 : kd c0 (10 + 9, 0)) (a1 : Int32) (h : Hp) {o : Int32 × Hp} (hyp : s_X9_value c0 a1 h = some o) (F : Rt K (some .int) (some (.int o.1)) o.2) : Go K 0 [(0, .ref (ad K c0)), (1, .int a1)] [] h := by
  unfold s_X9_value at hyp
  refine g_aload_n (pc := 0) 0 S dX9_value_0 rfl ?_
  refine g_getR (pc := 1) S dX9_value_1 fl_X9_12 k0 ?_
  refine g_iload_n (pc := 4) 1 S dX9_value_4 rfl ?_
  refine g_bind hyp (fun y1 hy1 hyp => ?_)
  refine g_callV (pc := 5) (As := [.int a1]) (rest := []) S dX9_value_5 (kf_9_1 k0) rfl tw_585 tw_521 tw_522 mw_X5_hasForm (m_X5_hasForm (kf_9_1 k0) a1 h hy1) rfl rfl (Nat.le_of_ble_eq_true rfl) (Nat.le_of_ble_eq_true rfl) (Nat.le_of_ble_eq_true rfl) ?_
  refine g_if_ne (pc := 8) (tgt := 13) S dX9_value_8 (by decide) hyp (fun hyp => ?_) (fun hyp => ?_)
  · refine g_iconst (pc := 11) (v := (-1 : Int32)) S dX9_value_11 (by decide) ?_
    have hyp := Option.some.inj hyp
    subst hyp
    exact g_iret (pc := 12) S F dX9_value_12
  · refine g_aload_n (pc := 13) 0 S dX9_value_13 rfl ?_
    refine g_bind hyp (fun y2 hy2 hyp => ?_)
    refine g_callV (pc := 14) (As := []) (rest := []) S dX9_value_14 k0 rfl tw_620 tw_621 tw_16 mw_X9_satisfiable (m_X9_satisfiable k0  h hy2) rfl rfl (Nat.le_of_ble_eq_true rfl) (Nat.le_of_ble_eq_true rfl) (Nat.le_of_ble_eq_true rfl) ?_
    refine g_if_ne (pc := 17) (tgt := 23) S dX9_value_17 (by decide) hyp (fun hyp => ?_) (fun hyp => ?_)
    · refine g_bipush (pc := 20) (v := (-2 : Int32)) S dX9_value_20 (by decide) ?_
      have hyp := Option.some.inj hyp
      subst hyp
      exact g_iret (pc := 22) S F dX9_value_22
    · refine g_aload_n (pc := 23) 0 S dX9_value_23 rfl ?_
      refine g_getR (pc := 24) S dX9_value_24 fl_X9_63 k0 ?_
      refine g_aload_n (pc := 27) 0 S dX9_value_27 rfl ?_
      refine g_getR (pc := 28) S dX9_value_28 fl_X9_52 k0 ?_
      refine g_aload_n (pc := 31) 0 S dX9_value_31 rfl ?_
      refine g_getR (pc := 32) S dX9_value_32 fl_X9_12 k0 ?_
      refine g_getI (pc := 35) S dX9_value_35 fl_X9_249 (kf_9_1 k0) ?_
      refine g_bind hyp (fun y3 hy3 hyp => ?_)
      refine g_callV (pc := 38) (As := [.ref (ad K (c0 + 32)), .int (h.1 (c0 + 1) 0)]) (rest := []) S dX9_value_38 (kf_9_42 k0) rfl tw_722 tw_723 tw_724 mw_X8_choose (m_X8_choose (kf_9_42 k0) (kf_9_32 k0) (h.1 (c0 + 1) 0) h hy3) rfl rfl (Nat.le_of_ble_eq_true rfl) (Nat.le_of_ble_eq_true rfl) (Nat.le_of_ble_eq_true rfl) ?_
      refine g_aload_n (pc := 41) 0 S dX9_value_41 rfl ?_
      refine g_lconst (pc := 42) (v := (0 : Int64)) S dX9_value_42 (by decide) ?_
      refine g_lconst (pc := 43) (v := (1 : Int64)) S dX9_value_43 (by decide) ?_
      refine g_bind hyp (fun y4 hy4 hyp => ?_)
      refine g_callV (pc := 44) (As := [.long (0 : Int64), .long (1 : Int64)]) (rest := []) S dX9_value_44 k0 rfl tw_676 tw_677 tw_19 mw_X9_find (m_X9_find k0 (0 : Int64) (1 : Int64) y3 hy4) rfl rfl (Nat.le_of_ble_eq_true rfl) (Nat.le_of_ble_eq_true rfl) (Nat.le_of_ble_eq_true rfl) ?_
      refine g_iconst (pc := 47) (v := (0 : Int32)) S dX9_value_47 (by decide) ?_
      refine g_istore_n (pc := 48) (lv' := [(2, .int (0 : Int32)), (0, .ref (ad K c0)), (1, .int a1)]) S dX9_value_48 rfl (by decide) rfl ?_
      refine g_bind hyp (fun e10 he10 hyp => ?_)
      refine g_sub [1, 2, 0] rfl (g_loop (f := fun s : Int32 × Hp => s_X9_value_l49 c0 a1 s.1 s.2) (ρ := Hp) (Hd := fun s : Int32 × Hp => Go K 49 [(0, .ref (ad K c0)), (1, .int a1), (2, .int s.1)] [] s.2) (Ex := fun e10 => Go K 93 [] [] e10) (fun s o h1 h2 h3 => o_X9_value_l49 S k0 a1 s.1 s.2 h1 h2 h3) FUEL _ e10 he10 ?_)
      refine g_iconst (pc := 93) (v := (1 : Int32)) S dX9_value_93 (by decide) ?_
      have hyp := Option.some.inj hyp
      subst hyp
      exact g_iret (pc := 94) S F dX9_value_94
theorem m_X9_value {l : Launch} {D : va_G} {cT : Nat → ClassId} {aD : Nat → Nat} {c0 : Nat} (k0 : kd c0 (10 + 9, 0)) (a1 : Int32) (h : Hp) {o : Int32 × Hp} (hyp : s_X9_value c0 a1 h = some o) : Ok l D cT aD yX9_value cX9_value 3 (some .int) 6 171 [.ref (aD c0), .int a1] h (some (.int o.1)) o.2 :=
  Ok.of (by decide +kernel) rfl (Nat.le_of_ble_eq_true rfl) (fun K e1 e2 e3 e4 S F => by subst e1; exact o_X9_value S k0 a1 h hyp F)
-- BoundProofs$Corners equate (LBoundProofs$Rows;II)V
noncomputable def s_X2_equate_b65 (c0 : Nat) (c1 : Nat) (a2 : Int32) (a3 : Int32) (a4 : Int32) (h : Hp) : Option ((Int32 × Hp) ⊕ (Hp)) :=
  lt (a4 + (1 : Int32)) fun v4_2 =>
  some (.inl (v4_2, h))
noncomputable def s_X2_equate_l11 (c0 : Nat) (c1 : Nat) (a2 : Int32) (a3 : Int32) (a4 : Int32) (h : Hp) : Option ((Int32 × Hp) ⊕ (Hp)) :=
  if a4 < (h.1 c1 4) then (if ((a2 >>> (a4 &&& 31)) &&& (1 : Int32)) = 0 then (s_X2_equate_b65 c0 c1 a2 a3 a4 h)
  else ((s_X7_entry c1 a4 (0 : Int32) h).bind fun y3 =>
  (s_X7_entry c1 a4 (1 : Int32) h).bind fun y4 =>
  (s_X7_entry c1 a4 (2 : Int32) h).bind fun y5 =>
  ldJ h (c1 + 2) 12 a4 fun x6 =>
  (s_X7_push (c0 + 3) y3 y4 y5 x6 (4 : Int32) h).bind fun y7 =>
  s_X2_equate_b65 c0 c1 a2 a3 a4 y7))
  else (some (.inr (h)))
noncomputable def s_X2_equate_b116 (c0 : Nat) (c1 : Nat) (a4 : Int32) (t0 : Int32) (t1 : Int32) (t2 : Int32) (h : Hp) : Option ((Int32 × Hp) ⊕ (Hp)) :=
  (s_X7_push (c0 + 3) t2 t1 t0 (0 : Int64) (4 : Int32) h).bind fun y9 =>
  lt (a4 + (1 : Int32)) fun v4_10 =>
  some (.inl (v4_10, y9))
noncomputable def s_X2_equate_b105 (c0 : Nat) (c1 : Nat) (a4 : Int32) (t0 : Int32) (t1 : Int32) (h : Hp) : Option ((Int32 × Hp) ⊕ (Hp)) :=
  if a4 = (2 : Int32) then (s_X2_equate_b116 c0 c1 a4 (1 : Int32) t0 t1 h)
  else (s_X2_equate_b116 c0 c1 a4 (0 : Int32) t0 t1 h)
noncomputable def s_X2_equate_b94 (c0 : Nat) (c1 : Nat) (a4 : Int32) (t0 : Int32) (h : Hp) : Option ((Int32 × Hp) ⊕ (Hp)) :=
  if a4 = (1 : Int32) then (s_X2_equate_b105 c0 c1 a4 (1 : Int32) t0 h)
  else (s_X2_equate_b105 c0 c1 a4 (0 : Int32) t0 h)
noncomputable def s_X2_equate_l74 (c0 : Nat) (c1 : Nat) (a4 : Int32) (h : Hp) : Option ((Int32 × Hp) ⊕ (Hp)) :=
  if a4 < (3 : Int32) then (if a4 = 0 then (s_X2_equate_b94 c0 c1 a4 (1 : Int32) h)
  else (s_X2_equate_b94 c0 c1 a4 (0 : Int32) h))
  else (some (.inr (h)))
noncomputable def s_X2_equate (c0 : Nat) (c1 : Nat) (a2 : Int32) (a3 : Int32) (h : Hp) : Option (Hp) :=
  (s_X7_restart (c0 + 3) (3 : Int32) h).bind fun y1 =>
  (iter (fun s : Int32 × Hp => s_X2_equate_l11 c0 c1 a2 a3 s.1 s.2) FUEL ((0 : Int32), y1)).bind fun e8 =>
  (iter (fun s : Int32 × Hp => s_X2_equate_l74 c0 c1 s.1 s.2) FUEL (a3, e8)).bind fun e11 =>
  some e11
set_option maxRecDepth 100000 in
set_option maxHeartbeats 4000000 in
theorem o_X2_equate_b65 {K : gK} (S : Cx K RX2 cX2_equate 5 1 31) {c0 : Nat} (k0 : kd c0 (10 + 2, 0)) {c1 : Nat} (k1 : kd c1 (10 + 7, 0)) (a2 : Int32) (a3 : Int32) (a4 : Int32) (h : Hp) {o : (Int32 × Hp) ⊕ (Hp)} (hyp : s_X2_equate_b65 c0 c1 a2 a3 a4 h = some o) (hin : ∀ s', o = .inl s' → Go K 11 [(0, .ref (ad K c0)), (1, .ref (ad K c1)), (2, .int a2), (3, .int a3), (4, .int s'.1)] [] s'.2) (hex0 : ∀ s', o = .inr (s') → Go K 71 [(0, .ref (ad K c0)), (3, .int a3)] [] s') : Go K 65 [(0, .ref (ad K c0)), (1, .ref (ad K c1)), (2, .int a2), (3, .int a3), (4, .int a4)] [] h := by
  unfold s_X2_equate_b65 at hyp
  refine g_iinc (pc := 65) (v := (a4 + (1 : Int32))) (lv' := [(4, .int (a4 + (1 : Int32))), (0, .ref (ad K c0)), (1, .ref (ad K c1)), (2, .int a2), (3, .int a3)]) 4 S dX2_equate_65 rfl (by rfl) (by decide) rfl ?_
  refine g_lti (C := fun v4_2 => Go K (65 + 3) [(4, .int v4_2), (0, .ref (ad K c0)), (1, .ref (ad K c1)), (2, .int a2), (3, .int a3)] [] h) hyp (fun v4_2 hyp => ?_)
  refine g_goto (pc := 68) (tgt := 11) S dX2_equate_68 (by decide) ?_
  have hyp := Option.some.inj hyp
  subst hyp
  exact g_sub [1, 2, 3, 4, 0] rfl (hin (v4_2, h) rfl)
set_option maxRecDepth 100000 in
set_option maxHeartbeats 4000000 in
theorem o_X2_equate_l11 {K : gK} (S : Cx K RX2 cX2_equate 5 1 31) {c0 : Nat} (k0 : kd c0 (10 + 2, 0)) {c1 : Nat} (k1 : kd c1 (10 + 7, 0)) (a2 : Int32) (a3 : Int32) (a4 : Int32) (h : Hp) {o : (Int32 × Hp) ⊕ (Hp)} (hyp : s_X2_equate_l11 c0 c1 a2 a3 a4 h = some o) (hin : ∀ s', o = .inl s' → Go K 11 [(0, .ref (ad K c0)), (1, .ref (ad K c1)), (2, .int a2), (3, .int a3), (4, .int s'.1)] [] s'.2) (hex0 : ∀ s', o = .inr (s') → Go K 71 [(0, .ref (ad K c0)), (3, .int a3)] [] s') : Go K 11 [(0, .ref (ad K c0)), (1, .ref (ad K c1)), (2, .int a2), (3, .int a3), (4, .int a4)] [] h := by
  unfold s_X2_equate_l11 at hyp
  refine g_iload (pc := 11) 4 S dX2_equate_11 rfl ?_
  refine g_aload_n (pc := 13) 1 S dX2_equate_13 rfl ?_
  refine g_getI (pc := 14) S dX2_equate_14 fl_X2_36 k1 ?_
  refine g_icmp_ge (pc := 17) (tgt := 71) S dX2_equate_17 (by decide) hyp (fun hyp => ?_) (fun hyp => ?_)
  · refine g_iload_n (pc := 20) 2 S dX2_equate_20 rfl ?_
    refine g_iload (pc := 21) 4 S dX2_equate_21 rfl ?_
    refine g_ishr (pc := 23) S dX2_equate_23 ?_
    refine g_iconst (pc := 24) (v := (1 : Int32)) S dX2_equate_24 (by decide) ?_
    refine g_iand (pc := 25) S dX2_equate_25 ?_
    refine g_if_eq (pc := 26) (tgt := 65) S dX2_equate_26 (by decide) hyp (fun hyp => ?_) (fun hyp => ?_)
    · exact g_sub [0, 1, 2, 3, 4] rfl (o_X2_equate_b65 S k0 k1 a2 a3 a4 h hyp hin hex0)
    · refine g_aload_n (pc := 29) 0 S dX2_equate_29 rfl ?_
      refine g_getR (pc := 30) S dX2_equate_30 fl_X2_25 k0 ?_
      refine g_aload_n (pc := 33) 1 S dX2_equate_33 rfl ?_
      refine g_iload (pc := 34) 4 S dX2_equate_34 rfl ?_
      refine g_iconst (pc := 36) (v := (0 : Int32)) S dX2_equate_36 (by decide) ?_
      refine g_bind hyp (fun y3 hy3 hyp => ?_)
      refine g_callV (pc := 37) (As := [.int a4, .int (0 : Int32)]) (rest := [.ref (ad K (c0 + 3))]) S dX2_equate_37 k1 rfl tw_771 tw_552 tw_553 mw_X7_entry (m_X7_entry k1 a4 (0 : Int32) h hy3) rfl rfl (Nat.le_of_ble_eq_true rfl) (Nat.le_of_ble_eq_true rfl) (Nat.le_of_ble_eq_true rfl) ?_
      refine g_aload_n (pc := 40) 1 S dX2_equate_40 rfl ?_
      refine g_iload (pc := 41) 4 S dX2_equate_41 rfl ?_
      refine g_iconst (pc := 43) (v := (1 : Int32)) S dX2_equate_43 (by decide) ?_
      refine g_bind hyp (fun y4 hy4 hyp => ?_)
      refine g_callV (pc := 44) (As := [.int a4, .int (1 : Int32)]) (rest := [.int y3, .ref (ad K (c0 + 3))]) S dX2_equate_44 k1 rfl tw_771 tw_552 tw_553 mw_X7_entry (m_X7_entry k1 a4 (1 : Int32) h hy4) rfl rfl (Nat.le_of_ble_eq_true rfl) (Nat.le_of_ble_eq_true rfl) (Nat.le_of_ble_eq_true rfl) ?_
      refine g_aload_n (pc := 47) 1 S dX2_equate_47 rfl ?_
      refine g_iload (pc := 48) 4 S dX2_equate_48 rfl ?_
      refine g_iconst (pc := 50) (v := (2 : Int32)) S dX2_equate_50 (by decide) ?_
      refine g_bind hyp (fun y5 hy5 hyp => ?_)
      refine g_callV (pc := 51) (As := [.int a4, .int (2 : Int32)]) (rest := [.int y4, .int y3, .ref (ad K (c0 + 3))]) S dX2_equate_51 k1 rfl tw_771 tw_552 tw_553 mw_X7_entry (m_X7_entry k1 a4 (2 : Int32) h hy5) rfl rfl (Nat.le_of_ble_eq_true rfl) (Nat.le_of_ble_eq_true rfl) (Nat.le_of_ble_eq_true rfl) ?_
      refine g_aload_n (pc := 54) 1 S dX2_equate_54 rfl ?_
      refine g_getR (pc := 55) S dX2_equate_55 fl_X2_66 k1 ?_
      refine g_iload (pc := 58) 4 S dX2_equate_58 rfl ?_
      refine g_lald (pc := 60) S dX2_equate_60 (kf_7_2 k1) hyp (fun x6 hyp => ?_)
      refine g_iconst (pc := 61) (v := (4 : Int32)) S dX2_equate_61 (by decide) ?_
      refine g_bind hyp (fun y7 hy7 hyp => ?_)
      refine g_callV (pc := 62) (As := [.int y3, .int y4, .int y5, .long x6, .int (4 : Int32)]) (rest := []) S dX2_equate_62 (kf_2_3 k0) rfl tw_772 tw_526 tw_527 mw_X7_push (m_X7_push (kf_2_3 k0) y3 y4 y5 x6 (4 : Int32) h hy7) rfl rfl (Nat.le_of_ble_eq_true rfl) (Nat.le_of_ble_eq_true rfl) (Nat.le_of_ble_eq_true rfl) ?_
      exact g_sub [0, 1, 2, 3, 4] rfl (o_X2_equate_b65 S k0 k1 a2 a3 a4 y7 hyp hin hex0)
  · have hyp := Option.some.inj hyp
    subst hyp
    exact g_sub [0, 3] rfl (hex0 h rfl)
set_option maxRecDepth 100000 in
set_option maxHeartbeats 4000000 in
theorem o_X2_equate_b116 {K : gK} (S : Cx K RX2 cX2_equate 5 1 31) {c0 : Nat} (k0 : kd c0 (10 + 2, 0)) {c1 : Nat} (k1 : kd c1 (10 + 7, 0)) (a4 : Int32) (t0 : Int32) (t1 : Int32) (t2 : Int32) (h : Hp) {o : (Int32 × Hp) ⊕ (Hp)} (hyp : s_X2_equate_b116 c0 c1 a4 t0 t1 t2 h = some o) (hin : ∀ s', o = .inl s' → Go K 74 [(0, .ref (ad K c0)), (4, .int s'.1)] [] s'.2) (hex0 : ∀ s', o = .inr (s') → Go K 127 [] [] s') : Go K 116 [(0, .ref (ad K c0)), (4, .int a4)] [.int t0, .int t1, .int t2, .ref (ad K (c0 + 3))] h := by
  unfold s_X2_equate_b116 at hyp
  refine g_lconst (pc := 116) (v := (0 : Int64)) S dX2_equate_116 (by decide) ?_
  refine g_iconst (pc := 117) (v := (4 : Int32)) S dX2_equate_117 (by decide) ?_
  refine g_bind hyp (fun y9 hy9 hyp => ?_)
  refine g_callV (pc := 118) (As := [.int t2, .int t1, .int t0, .long (0 : Int64), .int (4 : Int32)]) (rest := []) S dX2_equate_118 (kf_2_3 k0) rfl tw_772 tw_526 tw_527 mw_X7_push (m_X7_push (kf_2_3 k0) t2 t1 t0 (0 : Int64) (4 : Int32) h hy9) rfl rfl (Nat.le_of_ble_eq_true rfl) (Nat.le_of_ble_eq_true rfl) (Nat.le_of_ble_eq_true rfl) ?_
  refine g_iinc (pc := 121) (v := (a4 + (1 : Int32))) (lv' := [(4, .int (a4 + (1 : Int32))), (0, .ref (ad K c0))]) 1 S dX2_equate_121 rfl (by rfl) (by decide) rfl ?_
  refine g_lti (C := fun v4_10 => Go K (121 + 3) [(4, .int v4_10), (0, .ref (ad K c0))] [] y9) hyp (fun v4_10 hyp => ?_)
  refine g_goto (pc := 124) (tgt := 74) S dX2_equate_124 (by decide) ?_
  have hyp := Option.some.inj hyp
  subst hyp
  exact g_sub [1, 0] rfl (hin (v4_10, y9) rfl)
set_option maxRecDepth 100000 in
set_option maxHeartbeats 4000000 in
theorem o_X2_equate_b105 {K : gK} (S : Cx K RX2 cX2_equate 5 1 31) {c0 : Nat} (k0 : kd c0 (10 + 2, 0)) {c1 : Nat} (k1 : kd c1 (10 + 7, 0)) (a4 : Int32) (t0 : Int32) (t1 : Int32) (h : Hp) {o : (Int32 × Hp) ⊕ (Hp)} (hyp : s_X2_equate_b105 c0 c1 a4 t0 t1 h = some o) (hin : ∀ s', o = .inl s' → Go K 74 [(0, .ref (ad K c0)), (4, .int s'.1)] [] s'.2) (hex0 : ∀ s', o = .inr (s') → Go K 127 [] [] s') : Go K 105 [(0, .ref (ad K c0)), (4, .int a4)] [.int t0, .int t1, .ref (ad K (c0 + 3))] h := by
  unfold s_X2_equate_b105 at hyp
  refine g_iload (pc := 105) 1 S dX2_equate_105 rfl ?_
  refine g_iconst (pc := 107) (v := (2 : Int32)) S dX2_equate_107 (by decide) ?_
  refine g_icmp_ne (pc := 108) (tgt := 115) S dX2_equate_108 (by decide) hyp (fun hyp => ?_) (fun hyp => ?_)
  · refine g_iconst (pc := 111) (v := (1 : Int32)) S dX2_equate_111 (by decide) ?_
    refine g_goto (pc := 112) (tgt := 116) S dX2_equate_112 (by decide) ?_
    exact g_sub [0, 1] rfl (o_X2_equate_b116 S k0 k1 a4 (1 : Int32) t0 t1 h hyp hin hex0)
  · refine g_iconst (pc := 115) (v := (0 : Int32)) S dX2_equate_115 (by decide) ?_
    exact g_sub [0, 1] rfl (o_X2_equate_b116 S k0 k1 a4 (0 : Int32) t0 t1 h hyp hin hex0)
set_option maxRecDepth 100000 in
set_option maxHeartbeats 4000000 in
theorem o_X2_equate_b94 {K : gK} (S : Cx K RX2 cX2_equate 5 1 31) {c0 : Nat} (k0 : kd c0 (10 + 2, 0)) {c1 : Nat} (k1 : kd c1 (10 + 7, 0)) (a4 : Int32) (t0 : Int32) (h : Hp) {o : (Int32 × Hp) ⊕ (Hp)} (hyp : s_X2_equate_b94 c0 c1 a4 t0 h = some o) (hin : ∀ s', o = .inl s' → Go K 74 [(0, .ref (ad K c0)), (4, .int s'.1)] [] s'.2) (hex0 : ∀ s', o = .inr (s') → Go K 127 [] [] s') : Go K 94 [(0, .ref (ad K c0)), (4, .int a4)] [.int t0, .ref (ad K (c0 + 3))] h := by
  unfold s_X2_equate_b94 at hyp
  refine g_iload (pc := 94) 1 S dX2_equate_94 rfl ?_
  refine g_iconst (pc := 96) (v := (1 : Int32)) S dX2_equate_96 (by decide) ?_
  refine g_icmp_ne (pc := 97) (tgt := 104) S dX2_equate_97 (by decide) hyp (fun hyp => ?_) (fun hyp => ?_)
  · refine g_iconst (pc := 100) (v := (1 : Int32)) S dX2_equate_100 (by decide) ?_
    refine g_goto (pc := 101) (tgt := 105) S dX2_equate_101 (by decide) ?_
    exact g_sub [0, 1] rfl (o_X2_equate_b105 S k0 k1 a4 (1 : Int32) t0 h hyp hin hex0)
  · refine g_iconst (pc := 104) (v := (0 : Int32)) S dX2_equate_104 (by decide) ?_
    exact g_sub [0, 1] rfl (o_X2_equate_b105 S k0 k1 a4 (0 : Int32) t0 h hyp hin hex0)
set_option maxRecDepth 100000 in
set_option maxHeartbeats 4000000 in
theorem o_X2_equate_l74 {K : gK} (S : Cx K RX2 cX2_equate 5 1 31) {c0 : Nat} (k0 : kd c0 (10 + 2, 0)) {c1 : Nat} (k1 : kd c1 (10 + 7, 0)) (a4 : Int32) (h : Hp) {o : (Int32 × Hp) ⊕ (Hp)} (hyp : s_X2_equate_l74 c0 c1 a4 h = some o) (hin : ∀ s', o = .inl s' → Go K 74 [(0, .ref (ad K c0)), (4, .int s'.1)] [] s'.2) (hex0 : ∀ s', o = .inr (s') → Go K 127 [] [] s') : Go K 74 [(0, .ref (ad K c0)), (4, .int a4)] [] h := by
  unfold s_X2_equate_l74 at hyp
  refine g_iload (pc := 74) 1 S dX2_equate_74 rfl ?_
  refine g_iconst (pc := 76) (v := (3 : Int32)) S dX2_equate_76 (by decide) ?_
  refine g_icmp_ge (pc := 77) (tgt := 127) S dX2_equate_77 (by decide) hyp (fun hyp => ?_) (fun hyp => ?_)
  · refine g_aload_n (pc := 80) 0 S dX2_equate_80 rfl ?_
    refine g_getR (pc := 81) S dX2_equate_81 fl_X2_25 k0 ?_
    refine g_iload (pc := 84) 1 S dX2_equate_84 rfl ?_
    refine g_if_ne (pc := 86) (tgt := 93) S dX2_equate_86 (by decide) hyp (fun hyp => ?_) (fun hyp => ?_)
    · refine g_iconst (pc := 89) (v := (1 : Int32)) S dX2_equate_89 (by decide) ?_
      refine g_goto (pc := 90) (tgt := 94) S dX2_equate_90 (by decide) ?_
      exact g_sub [0, 1] rfl (o_X2_equate_b94 S k0 k1 a4 (1 : Int32) h hyp hin hex0)
    · refine g_iconst (pc := 93) (v := (0 : Int32)) S dX2_equate_93 (by decide) ?_
      exact g_sub [0, 1] rfl (o_X2_equate_b94 S k0 k1 a4 (0 : Int32) h hyp hin hex0)
  · have hyp := Option.some.inj hyp
    subst hyp
    exact g_sub [] rfl (hex0 h rfl)
set_option maxRecDepth 100000 in
set_option maxHeartbeats 4000000 in
theorem o_X2_equate {K : gK} (S : Cx K RX2 cX2_equate 5 1 31) {c0 : Nat} (k0 : kd c0 (10 + 2, 0)) {c1 : Nat} (k1 : kd c1 (10 + 7, 0)) (a2 : Int32) (a3 : Int32) (h : Hp) {o : Hp} (hyp : s_X2_equate c0 c1 a2 a3 h = some o) (F : Rt K none none o) : Go K 0 [(0, .ref (ad K c0)), (1, .ref (ad K c1)), (2, .int a2), (3, .int a3)] [] h := by
  unfold s_X2_equate at hyp
  refine g_aload_n (pc := 0) 0 S dX2_equate_0 rfl ?_
  refine g_getR (pc := 1) S dX2_equate_1 fl_X2_25 k0 ?_
  refine g_iconst (pc := 4) (v := (3 : Int32)) S dX2_equate_4 (by decide) ?_
  refine g_bind hyp (fun y1 hy1 hyp => ?_)
  refine g_callV (pc := 5) (As := [.int (3 : Int32)]) (rest := []) S dX2_equate_5 (kf_2_3 k0) rfl tw_770 tw_510 tw_511 mw_X7_restart (m_X7_restart (kf_2_3 k0) (3 : Int32) h hy1) rfl rfl (Nat.le_of_ble_eq_true rfl) (Nat.le_of_ble_eq_true rfl) (Nat.le_of_ble_eq_true rfl) ?_
  refine g_iconst (pc := 8) (v := (0 : Int32)) S dX2_equate_8 (by decide) ?_
  refine g_istore (pc := 9) (lv' := [(4, .int (0 : Int32)), (0, .ref (ad K c0)), (1, .ref (ad K c1)), (2, .int a2), (3, .int a3)]) S dX2_equate_9 (by decide) rfl ?_
  refine g_bind hyp (fun e8 he8 hyp => ?_)
  refine g_sub [1, 2, 3, 4, 0] rfl (g_loop (f := fun s : Int32 × Hp => s_X2_equate_l11 c0 c1 a2 a3 s.1 s.2) (ρ := Hp) (Hd := fun s : Int32 × Hp => Go K 11 [(0, .ref (ad K c0)), (1, .ref (ad K c1)), (2, .int a2), (3, .int a3), (4, .int s.1)] [] s.2) (Ex := fun e8 => Go K 71 [(0, .ref (ad K c0)), (3, .int a3)] [] e8) (fun s o h1 h2 h3 => o_X2_equate_l11 S k0 k1 a2 a3 s.1 s.2 h1 h2 h3) FUEL _ e8 he8 ?_)
  refine g_iload_n (pc := 71) 1 S dX2_equate_71 rfl ?_
  refine g_istore (pc := 72) (lv' := [(4, .int a3), (0, .ref (ad K c0)), (3, .int a3)]) S dX2_equate_72 (by decide) rfl ?_
  refine g_bind hyp (fun e11 he11 hyp => ?_)
  refine g_sub [1, 0] rfl (g_loop (f := fun s : Int32 × Hp => s_X2_equate_l74 c0 c1 s.1 s.2) (ρ := Hp) (Hd := fun s : Int32 × Hp => Go K 74 [(0, .ref (ad K c0)), (4, .int s.1)] [] s.2) (Ex := fun e11 => Go K 127 [] [] e11) (fun s o h1 h2 h3 => o_X2_equate_l74 S k0 k1 s.1 s.2 h1 h2 h3) FUEL _ e11 he11 ?_)
  have hyp := Option.some.inj hyp
  subst hyp
  exact g_vret (pc := 127) S F dX2_equate_127
theorem m_X2_equate {l : Launch} {D : va_G} {cT : Nat → ClassId} {aD : Nat → Nat} {c0 : Nat} (k0 : kd c0 (10 + 2, 0)) {c1 : Nat} (k1 : kd c1 (10 + 7, 0)) (a2 : Int32) (a3 : Int32) (h : Hp) {o : Hp} (hyp : s_X2_equate c0 c1 a2 a3 h = some o) : Ok l D cT aD yX2_equate cX2_equate 5 none 1 31 [.ref (aD c0), .ref (aD c1), .int a2, .int a3] h none o :=
  Ok.of (by decide +kernel) rfl (Nat.le_of_ble_eq_true rfl) (fun K e1 e2 e3 e4 S F => by subst e1; exact o_X2_equate S k0 k1 a2 a3 h hyp F)
-- BoundProofs$Corners solve ()Z
noncomputable def s_X2_solve_l28 (c0 : Nat) (a1 : Int32) (h : Hp) : Option ((Int32 × Hp) ⊕ (Hp)) :=
  if a1 < (3 : Int32) then (ldJ h ((c0 + 3) + 2) 12 (0 : Int32) fun x3 =>
  (s_X7_cross (c0 + 3) (1 : Int32) (2 : Int32) a1 h).bind fun y4 =>
  ldJ h ((c0 + 3) + 2) 12 (1 : Int32) fun x5 =>
  (s_X7_cross (c0 + 3) (2 : Int32) (0 : Int32) a1 h).bind fun y6 =>
  ldJ h ((c0 + 3) + 2) 12 (2 : Int32) fun x7 =>
  (s_X7_cross (c0 + 3) (0 : Int32) (1 : Int32) a1 h).bind fun y8 =>
  stJ h (c0 + 8) 3 a1 (((x3 * (y4).toInt64) + (x5 * (y6).toInt64)) + (x7 * (y8).toInt64)) fun h9 =>
  lt (a1 + (1 : Int32)) fun v1_10 =>
  some (.inl (v1_10, h9)))
  else (some (.inr (h)))
noncomputable def s_X2_solve_l130 (c0 : Nat) (a1 : Int32) (h : Hp) : Option ((Int32 × Hp) ⊕ (Hp)) :=
  if a1 < (3 : Int32) then (ldJ h (c0 + 8) 3 a1 fun x13 =>
  stJ h (c0 + 8) 3 a1 (-x13) fun h14 =>
  lt (a1 + (1 : Int32)) fun v1_15 =>
  some (.inl (v1_15, h14)))
  else (some (.inr (h)))
noncomputable def s_X2_solve (c0 : Nat)  (h : Hp) : Option (Int32 × Hp) :=
  (s_X7_determinant (c0 + 3) (0 : Int32) (1 : Int32) (2 : Int32) h).bind fun y1 =>
  lt (sJ h c0 5 (y1).toInt64) fun h2 =>
  if (h2.2 c0 5) = (0 : Int64) then (some ((0 : Int32), h2))
  else ((iter (fun s : Int32 × Hp => s_X2_solve_l28 c0 s.1 s.2) FUEL ((0 : Int32), h2)).bind fun e11 =>
  if (e11.2 c0 5) < (0 : Int64) then (lt (sJ e11 c0 5 (-(e11.2 c0 5))) fun h12 =>
  (iter (fun s : Int32 × Hp => s_X2_solve_l130 c0 s.1 s.2) FUEL ((0 : Int32), h12)).bind fun e16 =>
  some ((1 : Int32), e16))
  else (some ((1 : Int32), e11)))
set_option maxRecDepth 100000 in
set_option maxHeartbeats 4000000 in
theorem o_X2_solve_l28 {K : gK} (S : Cx K RX2 cX2_solve 2 1 31) {c0 : Nat} (k0 : kd c0 (10 + 2, 0)) (a1 : Int32) (h : Hp) {o : (Int32 × Hp) ⊕ (Hp)} (hyp : s_X2_solve_l28 c0 a1 h = some o) (hin : ∀ s', o = .inl s' → Go K 28 [(0, .ref (ad K c0)), (1, .int s'.1)] [] s'.2) (hex0 : ∀ s', o = .inr (s') → Go K 110 [(0, .ref (ad K c0))] [] s') : Go K 28 [(0, .ref (ad K c0)), (1, .int a1)] [] h := by
  unfold s_X2_solve_l28 at hyp
  refine g_iload_n (pc := 28) 1 S dX2_solve_28 rfl ?_
  refine g_iconst (pc := 29) (v := (3 : Int32)) S dX2_solve_29 (by decide) ?_
  refine g_icmp_ge (pc := 30) (tgt := 110) S dX2_solve_30 (by decide) hyp (fun hyp => ?_) (fun hyp => ?_)
  · refine g_aload_n (pc := 33) 0 S dX2_solve_33 rfl ?_
    refine g_getR (pc := 34) S dX2_solve_34 fl_X2_29 k0 ?_
    refine g_iload_n (pc := 37) 1 S dX2_solve_37 rfl ?_
    refine g_aload_n (pc := 38) 0 S dX2_solve_38 rfl ?_
    refine g_getR (pc := 39) S dX2_solve_39 fl_X2_25 k0 ?_
    refine g_getR (pc := 42) S dX2_solve_42 fl_X2_66 (kf_2_3 k0) ?_
    refine g_iconst (pc := 45) (v := (0 : Int32)) S dX2_solve_45 (by decide) ?_
    refine g_lald (pc := 46) S dX2_solve_46 (kf_7_2 (kf_2_3 k0)) hyp (fun x3 hyp => ?_)
    refine g_aload_n (pc := 47) 0 S dX2_solve_47 rfl ?_
    refine g_getR (pc := 48) S dX2_solve_48 fl_X2_25 k0 ?_
    refine g_iconst (pc := 51) (v := (1 : Int32)) S dX2_solve_51 (by decide) ?_
    refine g_iconst (pc := 52) (v := (2 : Int32)) S dX2_solve_52 (by decide) ?_
    refine g_iload_n (pc := 53) 1 S dX2_solve_53 rfl ?_
    refine g_bind hyp (fun y4 hy4 hyp => ?_)
    refine g_callV (pc := 54) (As := [.int (1 : Int32), .int (2 : Int32), .int a1]) (rest := [.long x3, .int a1, .ref (ad K (c0 + 8))]) S dX2_solve_54 (kf_2_3 k0) rfl tw_777 tw_548 tw_549 mw_X7_cross (m_X7_cross (kf_2_3 k0) (1 : Int32) (2 : Int32) a1 h hy4) rfl rfl (Nat.le_of_ble_eq_true rfl) (Nat.le_of_ble_eq_true rfl) (Nat.le_of_ble_eq_true rfl) ?_
    refine g_i2l (pc := 57) S dX2_solve_57 ?_
    refine g_lmul (pc := 58) S dX2_solve_58 ?_
    refine g_aload_n (pc := 59) 0 S dX2_solve_59 rfl ?_
    refine g_getR (pc := 60) S dX2_solve_60 fl_X2_25 k0 ?_
    refine g_getR (pc := 63) S dX2_solve_63 fl_X2_66 (kf_2_3 k0) ?_
    refine g_iconst (pc := 66) (v := (1 : Int32)) S dX2_solve_66 (by decide) ?_
    refine g_lald (pc := 67) S dX2_solve_67 (kf_7_2 (kf_2_3 k0)) hyp (fun x5 hyp => ?_)
    refine g_aload_n (pc := 68) 0 S dX2_solve_68 rfl ?_
    refine g_getR (pc := 69) S dX2_solve_69 fl_X2_25 k0 ?_
    refine g_iconst (pc := 72) (v := (2 : Int32)) S dX2_solve_72 (by decide) ?_
    refine g_iconst (pc := 73) (v := (0 : Int32)) S dX2_solve_73 (by decide) ?_
    refine g_iload_n (pc := 74) 1 S dX2_solve_74 rfl ?_
    refine g_bind hyp (fun y6 hy6 hyp => ?_)
    refine g_callV (pc := 75) (As := [.int (2 : Int32), .int (0 : Int32), .int a1]) (rest := [.long x5, .long (x3 * (y4).toInt64), .int a1, .ref (ad K (c0 + 8))]) S dX2_solve_75 (kf_2_3 k0) rfl tw_777 tw_548 tw_549 mw_X7_cross (m_X7_cross (kf_2_3 k0) (2 : Int32) (0 : Int32) a1 h hy6) rfl rfl (Nat.le_of_ble_eq_true rfl) (Nat.le_of_ble_eq_true rfl) (Nat.le_of_ble_eq_true rfl) ?_
    refine g_i2l (pc := 78) S dX2_solve_78 ?_
    refine g_lmul (pc := 79) S dX2_solve_79 ?_
    refine g_ladd (pc := 80) S dX2_solve_80 ?_
    refine g_aload_n (pc := 81) 0 S dX2_solve_81 rfl ?_
    refine g_getR (pc := 82) S dX2_solve_82 fl_X2_25 k0 ?_
    refine g_getR (pc := 85) S dX2_solve_85 fl_X2_66 (kf_2_3 k0) ?_
    refine g_iconst (pc := 88) (v := (2 : Int32)) S dX2_solve_88 (by decide) ?_
    refine g_lald (pc := 89) S dX2_solve_89 (kf_7_2 (kf_2_3 k0)) hyp (fun x7 hyp => ?_)
    refine g_aload_n (pc := 90) 0 S dX2_solve_90 rfl ?_
    refine g_getR (pc := 91) S dX2_solve_91 fl_X2_25 k0 ?_
    refine g_iconst (pc := 94) (v := (0 : Int32)) S dX2_solve_94 (by decide) ?_
    refine g_iconst (pc := 95) (v := (1 : Int32)) S dX2_solve_95 (by decide) ?_
    refine g_iload_n (pc := 96) 1 S dX2_solve_96 rfl ?_
    refine g_bind hyp (fun y8 hy8 hyp => ?_)
    refine g_callV (pc := 97) (As := [.int (0 : Int32), .int (1 : Int32), .int a1]) (rest := [.long x7, .long ((x3 * (y4).toInt64) + (x5 * (y6).toInt64)), .int a1, .ref (ad K (c0 + 8))]) S dX2_solve_97 (kf_2_3 k0) rfl tw_777 tw_548 tw_549 mw_X7_cross (m_X7_cross (kf_2_3 k0) (0 : Int32) (1 : Int32) a1 h hy8) rfl rfl (Nat.le_of_ble_eq_true rfl) (Nat.le_of_ble_eq_true rfl) (Nat.le_of_ble_eq_true rfl) ?_
    refine g_i2l (pc := 100) S dX2_solve_100 ?_
    refine g_lmul (pc := 101) S dX2_solve_101 ?_
    refine g_ladd (pc := 102) S dX2_solve_102 ?_
    refine g_last (pc := 103) S dX2_solve_103 (kf_2_8 k0) hyp (fun h9 hyp => ?_)
    refine g_iinc (pc := 104) (v := (a1 + (1 : Int32))) (lv' := [(1, .int (a1 + (1 : Int32))), (0, .ref (ad K c0))]) 1 S dX2_solve_104 rfl (by rfl) (by decide) rfl ?_
    refine g_lti (C := fun v1_10 => Go K (104 + 3) [(1, .int v1_10), (0, .ref (ad K c0))] [] h9) hyp (fun v1_10 hyp => ?_)
    refine g_goto (pc := 107) (tgt := 28) S dX2_solve_107 (by decide) ?_
    have hyp := Option.some.inj hyp
    subst hyp
    exact g_sub [1, 0] rfl (hin (v1_10, h9) rfl)
  · have hyp := Option.some.inj hyp
    subst hyp
    exact g_sub [0] rfl (hex0 h rfl)
set_option maxRecDepth 100000 in
set_option maxHeartbeats 4000000 in
theorem o_X2_solve_l130 {K : gK} (S : Cx K RX2 cX2_solve 2 1 31) {c0 : Nat} (k0 : kd c0 (10 + 2, 0)) (a1 : Int32) (h : Hp) {o : (Int32 × Hp) ⊕ (Hp)} (hyp : s_X2_solve_l130 c0 a1 h = some o) (hin : ∀ s', o = .inl s' → Go K 130 [(0, .ref (ad K c0)), (1, .int s'.1)] [] s'.2) (hex0 : ∀ s', o = .inr (s') → Go K 154 [] [] s') : Go K 130 [(0, .ref (ad K c0)), (1, .int a1)] [] h := by
  unfold s_X2_solve_l130 at hyp
  refine g_iload_n (pc := 130) 1 S dX2_solve_130 rfl ?_
  refine g_iconst (pc := 131) (v := (3 : Int32)) S dX2_solve_131 (by decide) ?_
  refine g_icmp_ge (pc := 132) (tgt := 154) S dX2_solve_132 (by decide) hyp (fun hyp => ?_) (fun hyp => ?_)
  · refine g_aload_n (pc := 135) 0 S dX2_solve_135 rfl ?_
    refine g_getR (pc := 136) S dX2_solve_136 fl_X2_29 k0 ?_
    refine g_iload_n (pc := 139) 1 S dX2_solve_139 rfl ?_
    refine g_aload_n (pc := 140) 0 S dX2_solve_140 rfl ?_
    refine g_getR (pc := 141) S dX2_solve_141 fl_X2_29 k0 ?_
    refine g_iload_n (pc := 144) 1 S dX2_solve_144 rfl ?_
    refine g_lald (pc := 145) S dX2_solve_145 (kf_2_8 k0) hyp (fun x13 hyp => ?_)
    refine g_lneg (pc := 146) S dX2_solve_146 ?_
    refine g_last (pc := 147) S dX2_solve_147 (kf_2_8 k0) hyp (fun h14 hyp => ?_)
    refine g_iinc (pc := 148) (v := (a1 + (1 : Int32))) (lv' := [(1, .int (a1 + (1 : Int32))), (0, .ref (ad K c0))]) 1 S dX2_solve_148 rfl (by rfl) (by decide) rfl ?_
    refine g_lti (C := fun v1_15 => Go K (148 + 3) [(1, .int v1_15), (0, .ref (ad K c0))] [] h14) hyp (fun v1_15 hyp => ?_)
    refine g_goto (pc := 151) (tgt := 130) S dX2_solve_151 (by decide) ?_
    have hyp := Option.some.inj hyp
    subst hyp
    exact g_sub [1, 0] rfl (hin (v1_15, h14) rfl)
  · have hyp := Option.some.inj hyp
    subst hyp
    exact g_sub [] rfl (hex0 h rfl)
set_option maxRecDepth 100000 in
set_option maxHeartbeats 4000000 in
theorem o_X2_solve {K : gK} (S : Cx K RX2 cX2_solve 2 1 31) {c0 : Nat} (k0 : kd c0 (10 + 2, 0))  (h : Hp) {o : Int32 × Hp} (hyp : s_X2_solve c0  h = some o) (F : Rt K (some .boolean) (some (.int o.1)) o.2) : Go K 0 [(0, .ref (ad K c0))] [] h := by
  unfold s_X2_solve at hyp
  refine g_aload_n (pc := 0) 0 S dX2_solve_0 rfl ?_
  refine g_aload_n (pc := 1) 0 S dX2_solve_1 rfl ?_
  refine g_getR (pc := 2) S dX2_solve_2 fl_X2_25 k0 ?_
  refine g_iconst (pc := 5) (v := (0 : Int32)) S dX2_solve_5 (by decide) ?_
  refine g_iconst (pc := 6) (v := (1 : Int32)) S dX2_solve_6 (by decide) ?_
  refine g_iconst (pc := 7) (v := (2 : Int32)) S dX2_solve_7 (by decide) ?_
  refine g_bind hyp (fun y1 hy1 hyp => ?_)
  refine g_callV (pc := 8) (As := [.int (0 : Int32), .int (1 : Int32), .int (2 : Int32)]) (rest := [.ref (ad K c0)]) S dX2_solve_8 (kf_2_3 k0) rfl tw_776 tw_565 tw_566 mw_X7_determinant (m_X7_determinant (kf_2_3 k0) (0 : Int32) (1 : Int32) (2 : Int32) h hy1) rfl rfl (Nat.le_of_ble_eq_true rfl) (Nat.le_of_ble_eq_true rfl) (Nat.le_of_ble_eq_true rfl) ?_
  refine g_i2l (pc := 11) S dX2_solve_11 ?_
  refine g_putJ (pc := 12) S dX2_solve_12 fl_X2_32 k0 hyp (fun h2 hyp => ?_)
  refine g_aload_n (pc := 15) 0 S dX2_solve_15 rfl ?_
  refine g_getJ (pc := 16) S dX2_solve_16 fl_X2_32 k0 ?_
  refine g_lconst (pc := 19) (v := (0 : Int64)) S dX2_solve_19 (by decide) ?_
  refine g_lcmp_ne (pc := 20) (tgt := 26) S dX2_solve_20 dX2_solve_21 (by decide) hyp (fun hyp => ?_) (fun hyp => ?_)
  · refine g_iconst (pc := 24) (v := (0 : Int32)) S dX2_solve_24 (by decide) ?_
    have hyp := Option.some.inj hyp
    subst hyp
    exact g_zret (pc := 25) S F dX2_solve_25 (Or.inl rfl)
  · refine g_iconst (pc := 26) (v := (0 : Int32)) S dX2_solve_26 (by decide) ?_
    refine g_istore_n (pc := 27) (lv' := [(1, .int (0 : Int32)), (0, .ref (ad K c0))]) S dX2_solve_27 rfl (by decide) rfl ?_
    refine g_bind hyp (fun e11 he11 hyp => ?_)
    refine g_sub [1, 0] rfl (g_loop (f := fun s : Int32 × Hp => s_X2_solve_l28 c0 s.1 s.2) (ρ := Hp) (Hd := fun s : Int32 × Hp => Go K 28 [(0, .ref (ad K c0)), (1, .int s.1)] [] s.2) (Ex := fun e11 => Go K 110 [(0, .ref (ad K c0))] [] e11) (fun s o h1 h2 h3 => o_X2_solve_l28 S k0 s.1 s.2 h1 h2 h3) FUEL _ e11 he11 ?_)
    refine g_aload_n (pc := 110) 0 S dX2_solve_110 rfl ?_
    refine g_getJ (pc := 111) S dX2_solve_111 fl_X2_32 k0 ?_
    refine g_lconst (pc := 114) (v := (0 : Int64)) S dX2_solve_114 (by decide) ?_
    refine g_lcmp_ge (pc := 115) (tgt := 154) S dX2_solve_115 dX2_solve_116 (by decide) hyp (fun hyp => ?_) (fun hyp => ?_)
    · refine g_aload_n (pc := 119) 0 S dX2_solve_119 rfl ?_
      refine g_aload_n (pc := 120) 0 S dX2_solve_120 rfl ?_
      refine g_getJ (pc := 121) S dX2_solve_121 fl_X2_32 k0 ?_
      refine g_lneg (pc := 124) S dX2_solve_124 ?_
      refine g_putJ (pc := 125) S dX2_solve_125 fl_X2_32 k0 hyp (fun h12 hyp => ?_)
      refine g_iconst (pc := 128) (v := (0 : Int32)) S dX2_solve_128 (by decide) ?_
      refine g_istore_n (pc := 129) (lv' := [(1, .int (0 : Int32)), (0, .ref (ad K c0))]) S dX2_solve_129 rfl (by decide) rfl ?_
      refine g_bind hyp (fun e16 he16 hyp => ?_)
      refine g_sub [1, 0] rfl (g_loop (f := fun s : Int32 × Hp => s_X2_solve_l130 c0 s.1 s.2) (ρ := Hp) (Hd := fun s : Int32 × Hp => Go K 130 [(0, .ref (ad K c0)), (1, .int s.1)] [] s.2) (Ex := fun e16 => Go K 154 [] [] e16) (fun s o h1 h2 h3 => o_X2_solve_l130 S k0 s.1 s.2 h1 h2 h3) FUEL _ e16 he16 ?_)
      refine g_iconst (pc := 154) (v := (1 : Int32)) S dX2_solve_154 (by decide) ?_
      have hyp := Option.some.inj hyp
      subst hyp
      exact g_zret (pc := 155) S F dX2_solve_155 (Or.inr rfl)
    · refine g_iconst (pc := 154) (v := (1 : Int32)) S dX2_solve_154 (by decide) ?_
      have hyp := Option.some.inj hyp
      subst hyp
      exact g_zret (pc := 155) S F dX2_solve_155 (Or.inr rfl)
theorem m_X2_solve {l : Launch} {D : va_G} {cT : Nat → ClassId} {aD : Nat → Nat} {c0 : Nat} (k0 : kd c0 (10 + 2, 0))  (h : Hp) {o : Int32 × Hp} (hyp : s_X2_solve c0  h = some o) : Ok l D cT aD yX2_solve cX2_solve 2 (some .boolean) 1 31 [.ref (aD c0)] h (some (.int o.1)) o.2 :=
  Ok.of (by decide +kernel) rfl (Nat.le_of_ble_eq_true rfl) (fun K e1 e2 e3 e4 S F => by subst e1; exact o_X2_solve S k0  h hyp F)
-- BoundProofs$Rows hold (JJJJZ)Z
noncomputable def s_X7_hold_b120 (c0 : Nat) (a1 : Int64) (a3 : Int64) (a5 : Int64) (a7 : Int64) (a9 : Int32) (a10 : Int32) (h : Hp) : Option ((Int32) ⊕ ((Unit) ⊕ (Int32))) :=
  lt (a10 + (1 : Int32)) fun v10_10 =>
  some (.inl v10_10)
noncomputable def s_X7_hold_b95 (c0 : Nat) (a1 : Int64) (a3 : Int64) (a5 : Int64) (a7 : Int64) (a9 : Int32) (a10 : Int32) (a12 : Int64) (a14 : Int64) (h : Hp) : Option ((Int32) ⊕ ((Unit) ⊕ (Int32))) :=
  if a12 = a14 then (ldI h (c0 + 3) 12 a10 fun x9 =>
  if x9 = 0 then (s_X7_hold_b120 c0 a1 a3 a5 a7 a9 a10 h)
  else (if a9 = 0 then (some (.inr (.inr (0 : Int32))))
  else (s_X7_hold_b120 c0 a1 a3 a5 a7 a9 a10 h)))
  else (s_X7_hold_b120 c0 a1 a3 a5 a7 a9 a10 h)
noncomputable def s_X7_hold_l3 (c0 : Nat) (a1 : Int64) (a3 : Int64) (a5 : Int64) (a7 : Int64) (a9 : Int32) (a10 : Int32) (h : Hp) : Option ((Int32) ⊕ ((Unit) ⊕ (Int32))) :=
  if a10 < (h.1 c0 4) then (lt (a10 * (3 : Int32)) fun v11_1 =>
  ldI h (c0 + 1) 36 v11_1 fun x2 =>
  ldI h (c0 + 1) 36 (v11_1 + (1 : Int32)) fun x3 =>
  ldI h (c0 + 1) 36 (v11_1 + (2 : Int32)) fun x4 =>
  lt ((((x2).toInt64 * a1) + ((x3).toInt64 * a3)) + ((x4).toInt64 * a5)) fun v12_5 =>
  ldJ h (c0 + 2) 12 a10 fun x6 =>
  lt (x6 * a7) fun v14_7 =>
  if v14_7 < v12_5 then (some (.inr (.inr (0 : Int32))))
  else (if v12_5 < v14_7 then (ldI h (c0 + 4) 12 a10 fun x8 =>
  if x8 = 0 then (s_X7_hold_b95 c0 a1 a3 a5 a7 a9 a10 v12_5 v14_7 h)
  else (some (.inr (.inr (0 : Int32)))))
  else (s_X7_hold_b95 c0 a1 a3 a5 a7 a9 a10 v12_5 v14_7 h)))
  else (some (.inr (.inl ())))
noncomputable def s_X7_hold (c0 : Nat) (a1 : Int64) (a3 : Int64) (a5 : Int64) (a7 : Int64) (a9 : Int32) (h : Hp) : Option (Int32) :=
  (iter (fun s : Int32 => s_X7_hold_l3 c0 a1 a3 a5 a7 a9 s h) FUEL (0 : Int32)).bind (Sum.elim (fun t12 => some (1 : Int32))
  (fun t13 => some t13))
set_option maxRecDepth 100000 in
set_option maxHeartbeats 4000000 in
theorem o_X7_hold_b120 {K : gK} (S : Cx K RX7 cX7_hold 16 0 0) {c0 : Nat} (k0 : kd c0 (10 + 7, 0)) (a1 : Int64) (a3 : Int64) (a5 : Int64) (a7 : Int64) (a9 : Int32) (a10 : Int32) (h : Hp) {o : (Int32) ⊕ ((Unit) ⊕ (Int32))} (hyp : s_X7_hold_b120 c0 a1 a3 a5 a7 a9 a10 h = some o) (hin : ∀ s', o = .inl s' → Go K 3 [(0, .ref (ad K c0)), (1, .long a1), (3, .long a3), (5, .long a5), (7, .long a7), (9, .int a9), (10, .int s')] [] h) (hex0 : ∀ s', o = .inr (.inl s') → Go K 126 [] [] h) (hret : ∀ x', o = .inr (.inr x') → Rt K (some .boolean) (some (.int x')) h) : Go K 120 [(0, .ref (ad K c0)), (1, .long a1), (3, .long a3), (5, .long a5), (7, .long a7), (9, .int a9), (10, .int a10)] [] h := by
  unfold s_X7_hold_b120 at hyp
  refine g_iinc (pc := 120) (v := (a10 + (1 : Int32))) (lv' := [(10, .int (a10 + (1 : Int32))), (0, .ref (ad K c0)), (1, .long a1), (3, .long a3), (5, .long a5), (7, .long a7), (9, .int a9)]) 6 S dX7_hold_120 rfl (by rfl) (by decide) rfl ?_
  refine g_lti (C := fun v10_10 => Go K (120 + 3) [(10, .int v10_10), (0, .ref (ad K c0)), (1, .long a1), (3, .long a3), (5, .long a5), (7, .long a7), (9, .int a9)] [] h) hyp (fun v10_10 hyp => ?_)
  refine g_goto (pc := 123) (tgt := 3) S dX7_hold_123 (by decide) ?_
  have hyp := Option.some.inj hyp
  subst hyp
  exact g_sub [1, 2, 3, 4, 5, 6, 0] rfl (hin v10_10 rfl)
set_option maxRecDepth 100000 in
set_option maxHeartbeats 4000000 in
theorem o_X7_hold_b95 {K : gK} (S : Cx K RX7 cX7_hold 16 0 0) {c0 : Nat} (k0 : kd c0 (10 + 7, 0)) (a1 : Int64) (a3 : Int64) (a5 : Int64) (a7 : Int64) (a9 : Int32) (a10 : Int32) (a12 : Int64) (a14 : Int64) (h : Hp) {o : (Int32) ⊕ ((Unit) ⊕ (Int32))} (hyp : s_X7_hold_b95 c0 a1 a3 a5 a7 a9 a10 a12 a14 h = some o) (hin : ∀ s', o = .inl s' → Go K 3 [(0, .ref (ad K c0)), (1, .long a1), (3, .long a3), (5, .long a5), (7, .long a7), (9, .int a9), (10, .int s')] [] h) (hex0 : ∀ s', o = .inr (.inl s') → Go K 126 [] [] h) (hret : ∀ x', o = .inr (.inr x') → Rt K (some .boolean) (some (.int x')) h) : Go K 95 [(0, .ref (ad K c0)), (1, .long a1), (3, .long a3), (5, .long a5), (7, .long a7), (9, .int a9), (10, .int a10), (12, .long a12), (14, .long a14)] [] h := by
  unfold s_X7_hold_b95 at hyp
  refine g_lload (pc := 95) 7 S dX7_hold_95 rfl ?_
  refine g_lload (pc := 97) 8 S dX7_hold_97 rfl ?_
  refine g_lcmp_ne (pc := 99) (tgt := 120) S dX7_hold_99 dX7_hold_100 (by decide) hyp (fun hyp => ?_) (fun hyp => ?_)
  · refine g_aload_n (pc := 103) 0 S dX7_hold_103 rfl ?_
    refine g_getR (pc := 104) S dX7_hold_104 fl_X7_19 k0 ?_
    refine g_iload (pc := 107) 6 S dX7_hold_107 rfl ?_
    refine g_zald (pc := 109) S dX7_hold_109 (kf_7_3 k0) hyp (fun x9 hyp => ?_)
    refine g_if_eq (pc := 110) (tgt := 120) S dX7_hold_110 (by decide) hyp (fun hyp => ?_) (fun hyp => ?_)
    · exact g_sub [0, 1, 2, 3, 4, 5, 6] rfl (o_X7_hold_b120 S k0 a1 a3 a5 a7 a9 a10 h hyp hin hex0 hret)
    · refine g_iload (pc := 113) 5 S dX7_hold_113 rfl ?_
      refine g_if_ne (pc := 115) (tgt := 120) S dX7_hold_115 (by decide) hyp (fun hyp => ?_) (fun hyp => ?_)
      · refine g_iconst (pc := 118) (v := (0 : Int32)) S dX7_hold_118 (by decide) ?_
        have hyp := Option.some.inj hyp
        subst hyp
        exact g_zret (pc := 119) S (hret (0 : Int32) rfl) dX7_hold_119 (Or.inl rfl)
      · exact g_sub [0, 1, 2, 3, 4, 5, 6] rfl (o_X7_hold_b120 S k0 a1 a3 a5 a7 a9 a10 h hyp hin hex0 hret)
  · exact g_sub [0, 1, 2, 3, 4, 5, 6] rfl (o_X7_hold_b120 S k0 a1 a3 a5 a7 a9 a10 h hyp hin hex0 hret)
set_option maxRecDepth 100000 in
set_option maxHeartbeats 4000000 in
theorem o_X7_hold_l3 {K : gK} (S : Cx K RX7 cX7_hold 16 0 0) {c0 : Nat} (k0 : kd c0 (10 + 7, 0)) (a1 : Int64) (a3 : Int64) (a5 : Int64) (a7 : Int64) (a9 : Int32) (a10 : Int32) (h : Hp) {o : (Int32) ⊕ ((Unit) ⊕ (Int32))} (hyp : s_X7_hold_l3 c0 a1 a3 a5 a7 a9 a10 h = some o) (hin : ∀ s', o = .inl s' → Go K 3 [(0, .ref (ad K c0)), (1, .long a1), (3, .long a3), (5, .long a5), (7, .long a7), (9, .int a9), (10, .int s')] [] h) (hex0 : ∀ s', o = .inr (.inl s') → Go K 126 [] [] h) (hret : ∀ x', o = .inr (.inr x') → Rt K (some .boolean) (some (.int x')) h) : Go K 3 [(0, .ref (ad K c0)), (1, .long a1), (3, .long a3), (5, .long a5), (7, .long a7), (9, .int a9), (10, .int a10)] [] h := by
  unfold s_X7_hold_l3 at hyp
  refine g_iload (pc := 3) 6 S dX7_hold_3 rfl ?_
  refine g_aload_n (pc := 5) 0 S dX7_hold_5 rfl ?_
  refine g_getI (pc := 6) S dX7_hold_6 fl_X7_26 k0 ?_
  refine g_icmp_ge (pc := 9) (tgt := 126) S dX7_hold_9 (by decide) hyp (fun hyp => ?_) (fun hyp => ?_)
  · refine g_iload (pc := 12) 6 S dX7_hold_12 rfl ?_
    refine g_iconst (pc := 14) (v := (3 : Int32)) S dX7_hold_14 (by decide) ?_
    refine g_imul (pc := 15) S dX7_hold_15 ?_
    refine g_lti (C := fun v11_1 => Go K 16 [(0, .ref (ad K c0)), (1, .long a1), (3, .long a3), (5, .long a5), (7, .long a7), (9, .int a9), (10, .int a10)] [.int v11_1] h) hyp (fun v11_1 hyp => ?_)
    refine g_istore (pc := 16) (lv' := [(11, .int v11_1), (0, .ref (ad K c0)), (1, .long a1), (3, .long a3), (5, .long a5), (7, .long a7), (9, .int a9), (10, .int a10)]) S dX7_hold_16 (by decide) rfl ?_
    refine g_aload_n (pc := 18) 1 S dX7_hold_18 rfl ?_
    refine g_getR (pc := 19) S dX7_hold_19 fl_X7_9 k0 ?_
    refine g_iload (pc := 22) 0 S dX7_hold_22 rfl ?_
    refine g_iald (pc := 24) S dX7_hold_24 (kf_7_1 k0) hyp (fun x2 hyp => ?_)
    refine g_i2l (pc := 25) S dX7_hold_25 ?_
    refine g_lload_n (pc := 26) 2 S dX7_hold_26 rfl ?_
    refine g_lmul (pc := 27) S dX7_hold_27 ?_
    refine g_aload_n (pc := 28) 1 S dX7_hold_28 rfl ?_
    refine g_getR (pc := 29) S dX7_hold_29 fl_X7_9 k0 ?_
    refine g_iload (pc := 32) 0 S dX7_hold_32 rfl ?_
    refine g_iconst (pc := 34) (v := (1 : Int32)) S dX7_hold_34 (by decide) ?_
    refine g_iadd (pc := 35) S dX7_hold_35 ?_
    refine g_iald (pc := 36) S dX7_hold_36 (kf_7_1 k0) hyp (fun x3 hyp => ?_)
    refine g_i2l (pc := 37) S dX7_hold_37 ?_
    refine g_lload_n (pc := 38) 3 S dX7_hold_38 rfl ?_
    refine g_lmul (pc := 39) S dX7_hold_39 ?_
    refine g_ladd (pc := 40) S dX7_hold_40 ?_
    refine g_aload_n (pc := 41) 1 S dX7_hold_41 rfl ?_
    refine g_getR (pc := 42) S dX7_hold_42 fl_X7_9 k0 ?_
    refine g_iload (pc := 45) 0 S dX7_hold_45 rfl ?_
    refine g_iconst (pc := 47) (v := (2 : Int32)) S dX7_hold_47 (by decide) ?_
    refine g_iadd (pc := 48) S dX7_hold_48 ?_
    refine g_iald (pc := 49) S dX7_hold_49 (kf_7_1 k0) hyp (fun x4 hyp => ?_)
    refine g_i2l (pc := 50) S dX7_hold_50 ?_
    refine g_lload (pc := 51) 4 S dX7_hold_51 rfl ?_
    refine g_lmul (pc := 53) S dX7_hold_53 ?_
    refine g_ladd (pc := 54) S dX7_hold_54 ?_
    refine g_lti (C := fun v12_5 => Go K 55 [(11, .int v11_1), (0, .ref (ad K c0)), (1, .long a1), (3, .long a3), (5, .long a5), (7, .long a7), (9, .int a9), (10, .int a10)] [.long v12_5] h) hyp (fun v12_5 hyp => ?_)
    refine g_lstore (pc := 55) (lv' := [(12, .long v12_5), (11, .int v11_1), (0, .ref (ad K c0)), (1, .long a1), (3, .long a3), (5, .long a5), (7, .long a7), (9, .int a9), (10, .int a10)]) S dX7_hold_55 (by decide) rfl ?_
    refine g_aload_n (pc := 57) 2 S dX7_hold_57 rfl ?_
    refine g_getR (pc := 58) S dX7_hold_58 fl_X7_15 k0 ?_
    refine g_iload (pc := 61) 8 S dX7_hold_61 rfl ?_
    refine g_lald (pc := 63) S dX7_hold_63 (kf_7_2 k0) hyp (fun x6 hyp => ?_)
    refine g_lload (pc := 64) 6 S dX7_hold_64 rfl ?_
    refine g_lmul (pc := 66) S dX7_hold_66 ?_
    refine g_lti (C := fun v14_7 => Go K 67 [(12, .long v12_5), (11, .int v11_1), (0, .ref (ad K c0)), (1, .long a1), (3, .long a3), (5, .long a5), (7, .long a7), (9, .int a9), (10, .int a10)] [.long v14_7] h) hyp (fun v14_7 hyp => ?_)
    refine g_lstore (pc := 67) (lv' := [(14, .long v14_7), (12, .long v12_5), (11, .int v11_1), (0, .ref (ad K c0)), (1, .long a1), (3, .long a3), (5, .long a5), (7, .long a7), (9, .int a9), (10, .int a10)]) S dX7_hold_67 (by decide) rfl ?_
    refine g_lload (pc := 69) 1 S dX7_hold_69 rfl ?_
    refine g_lload (pc := 71) 0 S dX7_hold_71 rfl ?_
    refine g_lcmp_gt (pc := 73) (tgt := 118) S dX7_hold_73 dX7_hold_74 (by decide) hyp (fun hyp => ?_) (fun hyp => ?_)
    · refine g_iconst (pc := 118) (v := (0 : Int32)) S dX7_hold_118 (by decide) ?_
      have hyp := Option.some.inj hyp
      subst hyp
      exact g_zret (pc := 119) S (hret (0 : Int32) rfl) dX7_hold_119 (Or.inl rfl)
    · refine g_lload (pc := 77) 1 S dX7_hold_77 rfl ?_
      refine g_lload (pc := 79) 0 S dX7_hold_79 rfl ?_
      refine g_lcmp_ge (pc := 81) (tgt := 95) S dX7_hold_81 dX7_hold_82 (by decide) hyp (fun hyp => ?_) (fun hyp => ?_)
      · refine g_aload_n (pc := 85) 3 S dX7_hold_85 rfl ?_
        refine g_getR (pc := 86) S dX7_hold_86 fl_X7_23 k0 ?_
        refine g_iload (pc := 89) 9 S dX7_hold_89 rfl ?_
        refine g_zald (pc := 91) S dX7_hold_91 (kf_7_4 k0) hyp (fun x8 hyp => ?_)
        refine g_if_ne (pc := 92) (tgt := 118) S dX7_hold_92 (by decide) hyp (fun hyp => ?_) (fun hyp => ?_)
        · exact g_sub [3, 4, 5, 6, 7, 8, 9, 1, 0] rfl (o_X7_hold_b95 S k0 a1 a3 a5 a7 a9 a10 v12_5 v14_7 h hyp hin hex0 hret)
        · refine g_iconst (pc := 118) (v := (0 : Int32)) S dX7_hold_118 (by decide) ?_
          have hyp := Option.some.inj hyp
          subst hyp
          exact g_zret (pc := 119) S (hret (0 : Int32) rfl) dX7_hold_119 (Or.inl rfl)
      · exact g_sub [3, 4, 5, 6, 7, 8, 9, 1, 0] rfl (o_X7_hold_b95 S k0 a1 a3 a5 a7 a9 a10 v12_5 v14_7 h hyp hin hex0 hret)
  · have hyp := Option.some.inj hyp
    subst hyp
    exact g_sub [] rfl (hex0 () rfl)
set_option maxRecDepth 100000 in
set_option maxHeartbeats 4000000 in
theorem o_X7_hold {K : gK} (S : Cx K RX7 cX7_hold 16 0 0) {c0 : Nat} (k0 : kd c0 (10 + 7, 0)) (a1 : Int64) (a3 : Int64) (a5 : Int64) (a7 : Int64) (a9 : Int32) (h : Hp) {o : Int32} (hyp : s_X7_hold c0 a1 a3 a5 a7 a9 h = some o) (F : Rt K (some .boolean) (some (.int o)) h) : Go K 0 [(0, .ref (ad K c0)), (1, .long a1), (3, .long a3), (5, .long a5), (7, .long a7), (9, .int a9)] [] h := by
  unfold s_X7_hold at hyp
  refine g_iconst (pc := 0) (v := (0 : Int32)) S dX7_hold_0 (by decide) ?_
  refine g_istore (pc := 1) (lv' := [(10, .int (0 : Int32)), (0, .ref (ad K c0)), (1, .long a1), (3, .long a3), (5, .long a5), (7, .long a7), (9, .int a9)]) S dX7_hold_1 (by decide) rfl ?_
  refine g_bind hyp (fun e11 he11 hyp => ?_)
  refine g_sub [1, 2, 3, 4, 5, 6, 0] rfl (g_loop (f := fun s : Int32 => s_X7_hold_l3 c0 a1 a3 a5 a7 a9 s h) (ρ := (Unit) ⊕ (Int32)) (Hd := fun s : Int32 => Go K 3 [(0, .ref (ad K c0)), (1, .long a1), (3, .long a3), (5, .long a5), (7, .long a7), (9, .int a9), (10, .int s)] [] h) (Ex := fun e11 => (∀ t, e11 = .inl t → Go K 126 [] [] h) ∧ (∀ t, e11 = .inr t → Rt K (some .boolean) (some (.int t)) h)) (fun s o h1 h2 h3 => o_X7_hold_l3 S k0 a1 a3 a5 a7 a9 s h h1 h2 (fun t q => (h3 _ q).1 t rfl) (fun t q => (h3 _ q).2 t rfl)) FUEL _ e11 he11 ?_)
  refine ⟨?_, ?_⟩
  · intro t12 q
    subst q
    try dsimp only [Sum.elim] at hyp
    refine g_iconst (pc := 126) (v := (1 : Int32)) S dX7_hold_126 (by decide) ?_
    have hyp := Option.some.inj hyp
    subst hyp
    exact g_zret (pc := 127) S F dX7_hold_127 (Or.inr rfl)
  · intro t13 q
    subst q
    try dsimp only [Sum.elim] at hyp
    have hyp := Option.some.inj hyp
    subst hyp
    exact F
theorem m_X7_hold {l : Launch} {D : va_G} {cT : Nat → ClassId} {aD : Nat → Nat} {c0 : Nat} (k0 : kd c0 (10 + 7, 0)) (a1 : Int64) (a3 : Int64) (a5 : Int64) (a7 : Int64) (a9 : Int32) (h : Hp) {o : Int32} (hyp : s_X7_hold c0 a1 a3 a5 a7 a9 h = some o) : Ok l D cT aD yX7_hold cX7_hold 16 (some .boolean) 0 0 [.ref (aD c0), .long a1, .long a3, .long a5, .long a7, .int a9] h (some (.int o)) h :=
  Ok.of (by decide +kernel) rfl (Nat.le_of_ble_eq_true rfl) (fun K e1 e2 e3 e4 S F => by subst e1; exact o_X7_hold S k0 a1 a3 a5 a7 a9 h hyp F)
-- java/lang/Long compare (JJ)I
noncomputable def s_J13_compare_74951  (a0 : Int64) (a2 : Int64) (h : Hp) : Option (Int32) :=
  if a0 < a2 then (some (-1 : Int32))
  else (if a0 = a2 then (some (0 : Int32))
  else (some (1 : Int32)))
set_option maxRecDepth 100000 in
set_option maxHeartbeats 4000000 in
theorem o_J13_compare_74951 {K : gK} (S : Cx K RJ13 cJ13_compare_74951 4 0 0)  (a0 : Int64) (a2 : Int64) (h : Hp) {o : Int32} (hyp : s_J13_compare_74951  a0 a2 h = some o) (F : Rt K (some .int) (some (.int o)) h) : Go K 0 [(0, .long a0), (2, .long a2)] [] h := by
  unfold s_J13_compare_74951 at hyp
  refine g_lload_n (pc := 0) 0 S dJ13_compare_74951_0 rfl ?_
  refine g_lload_n (pc := 1) 1 S dJ13_compare_74951_1 rfl ?_
  refine g_lcmp_ge (pc := 2) (tgt := 10) S dJ13_compare_74951_2 dJ13_compare_74951_3 (by decide) hyp (fun hyp => ?_) (fun hyp => ?_)
  · refine g_iconst (pc := 6) (v := (-1 : Int32)) S dJ13_compare_74951_6 (by decide) ?_
    refine g_goto (pc := 7) (tgt := 21) S dJ13_compare_74951_7 (by decide) ?_
    have hyp := Option.some.inj hyp
    subst hyp
    exact g_iret (pc := 21) S F dJ13_compare_74951_21
  · refine g_lload_n (pc := 10) 0 S dJ13_compare_74951_10 rfl ?_
    refine g_lload_n (pc := 11) 1 S dJ13_compare_74951_11 rfl ?_
    refine g_lcmp_ne (pc := 12) (tgt := 20) S dJ13_compare_74951_12 dJ13_compare_74951_13 (by decide) hyp (fun hyp => ?_) (fun hyp => ?_)
    · refine g_iconst (pc := 16) (v := (0 : Int32)) S dJ13_compare_74951_16 (by decide) ?_
      refine g_goto (pc := 17) (tgt := 21) S dJ13_compare_74951_17 (by decide) ?_
      have hyp := Option.some.inj hyp
      subst hyp
      exact g_iret (pc := 21) S F dJ13_compare_74951_21
    · refine g_iconst (pc := 20) (v := (1 : Int32)) S dJ13_compare_74951_20 (by decide) ?_
      have hyp := Option.some.inj hyp
      subst hyp
      exact g_iret (pc := 21) S F dJ13_compare_74951_21
theorem m_J13_compare_74951 {l : Launch} {D : va_G} {cT : Nat → ClassId} {aD : Nat → Nat}  (a0 : Int64) (a2 : Int64) (h : Hp) {o : Int32} (hyp : s_J13_compare_74951  a0 a2 h = some o) : Ok l D cT aD yJ13_compare_74951 cJ13_compare_74951 4 (some .int) 0 0 [.long a0, .long a2] h (some (.int o)) h :=
  Ok.of (by decide +kernel) rfl (Nat.le_of_ble_eq_true rfl) (fun K e1 e2 e3 e4 S F => by subst e1; exact o_J13_compare_74951 S  a0 a2 h hyp F)
-- BoundProofs$Corners compareWith (I)I
noncomputable def s_X2_compareWith_l2 (c0 : Nat) (a1 : Int32) (a2 : Int32) (h : Hp) : Option ((Int32) ⊕ ((Unit) ⊕ (Int32))) :=
  if a2 < (3 : Int32) then (ldJ h (c0 + 8) 3 a2 fun x1 =>
  ldJ h (c0 + 2) 120 a1 fun x2 =>
  ldJ h (c0 + 1) 360 ((a1 * (3 : Int32)) + a2) fun x3 =>
  (s_J13_compare_74951  (x1 * x2) (x3 * (h.2 c0 5)) h).bind fun y4 =>
  if y4 = 0 then (lt (a2 + (1 : Int32)) fun v2_5 =>
  some (.inl v2_5))
  else (some (.inr (.inr y4))))
  else (some (.inr (.inl ())))
noncomputable def s_X2_compareWith (c0 : Nat) (a1 : Int32) (h : Hp) : Option (Int32) :=
  (iter (fun s : Int32 => s_X2_compareWith_l2 c0 a1 s h) FUEL (0 : Int32)).bind (Sum.elim (fun t7 => some (0 : Int32))
  (fun t8 => some t8))
set_option maxRecDepth 100000 in
set_option maxHeartbeats 4000000 in
theorem o_X2_compareWith_l2 {K : gK} (S : Cx K RX2 cX2_compareWith 4 1 27) {c0 : Nat} (k0 : kd c0 (10 + 2, 0)) (a1 : Int32) (a2 : Int32) (h : Hp) {o : (Int32) ⊕ ((Unit) ⊕ (Int32))} (hyp : s_X2_compareWith_l2 c0 a1 a2 h = some o) (hin : ∀ s', o = .inl s' → Go K 2 [(0, .ref (ad K c0)), (1, .int a1), (2, .int s')] [] h) (hex0 : ∀ s', o = .inr (.inl s') → Go K 51 [] [] h) (hret : ∀ x', o = .inr (.inr x') → Rt K (some .int) (some (.int x')) h) : Go K 2 [(0, .ref (ad K c0)), (1, .int a1), (2, .int a2)] [] h := by
  unfold s_X2_compareWith_l2 at hyp
  refine g_iload_n (pc := 2) 2 S dX2_compareWith_2 rfl ?_
  refine g_iconst (pc := 3) (v := (3 : Int32)) S dX2_compareWith_3 (by decide) ?_
  refine g_icmp_ge (pc := 4) (tgt := 51) S dX2_compareWith_4 (by decide) hyp (fun hyp => ?_) (fun hyp => ?_)
  · refine g_aload_n (pc := 7) 0 S dX2_compareWith_7 rfl ?_
    refine g_getR (pc := 8) S dX2_compareWith_8 fl_X2_29 k0 ?_
    refine g_iload_n (pc := 11) 2 S dX2_compareWith_11 rfl ?_
    refine g_lald (pc := 12) S dX2_compareWith_12 (kf_2_8 k0) hyp (fun x1 hyp => ?_)
    refine g_aload_n (pc := 13) 0 S dX2_compareWith_13 rfl ?_
    refine g_getR (pc := 14) S dX2_compareWith_14 fl_X2_19 k0 ?_
    refine g_iload_n (pc := 17) 1 S dX2_compareWith_17 rfl ?_
    refine g_lald (pc := 18) S dX2_compareWith_18 (kf_2_2 k0) hyp (fun x2 hyp => ?_)
    refine g_lmul (pc := 19) S dX2_compareWith_19 ?_
    refine g_aload_n (pc := 20) 0 S dX2_compareWith_20 rfl ?_
    refine g_getR (pc := 21) S dX2_compareWith_21 fl_X2_15 k0 ?_
    refine g_iload_n (pc := 24) 1 S dX2_compareWith_24 rfl ?_
    refine g_iconst (pc := 25) (v := (3 : Int32)) S dX2_compareWith_25 (by decide) ?_
    refine g_imul (pc := 26) S dX2_compareWith_26 ?_
    refine g_iload_n (pc := 27) 2 S dX2_compareWith_27 rfl ?_
    refine g_iadd (pc := 28) S dX2_compareWith_28 ?_
    refine g_lald (pc := 29) S dX2_compareWith_29 (kf_2_1 k0) hyp (fun x3 hyp => ?_)
    refine g_aload_n (pc := 30) 0 S dX2_compareWith_30 rfl ?_
    refine g_getJ (pc := 31) S dX2_compareWith_31 fl_X2_32 k0 ?_
    refine g_lmul (pc := 34) S dX2_compareWith_34 ?_
    refine g_bind hyp (fun y4 hy4 hyp => ?_)
    refine g_callS (pc := 35) (As := [.long (x1 * x2), .long (x3 * (h.2 c0 5))]) (rest := []) S dX2_compareWith_35 tw_788 tw_789 mw_J13_compare_74951 (m_J13_compare_74951  (x1 * x2) (x3 * (h.2 c0 5)) h hy4) rfl rfl (Nat.le_of_ble_eq_true rfl) (Nat.le_of_ble_eq_true rfl) (Nat.le_of_ble_eq_true rfl) ?_
    refine g_istore_n (pc := 38) (lv' := [(3, .int y4), (0, .ref (ad K c0)), (1, .int a1), (2, .int a2)]) S dX2_compareWith_38 rfl (by decide) rfl ?_
    refine g_iload_n (pc := 39) 0 S dX2_compareWith_39 rfl ?_
    refine g_if_eq (pc := 40) (tgt := 45) S dX2_compareWith_40 (by decide) hyp (fun hyp => ?_) (fun hyp => ?_)
    · refine g_iinc (pc := 45) (v := (a2 + (1 : Int32))) (lv' := [(2, .int (a2 + (1 : Int32))), (3, .int y4), (0, .ref (ad K c0)), (1, .int a1)]) 3 S dX2_compareWith_45 rfl (by rfl) (by decide) rfl ?_
      refine g_lti (C := fun v2_5 => Go K (45 + 3) [(2, .int v2_5), (3, .int y4), (0, .ref (ad K c0)), (1, .int a1)] [] h) hyp (fun v2_5 hyp => ?_)
      refine g_goto (pc := 48) (tgt := 2) S dX2_compareWith_48 (by decide) ?_
      have hyp := Option.some.inj hyp
      subst hyp
      exact g_sub [2, 3, 0] rfl (hin v2_5 rfl)
    · refine g_iload_n (pc := 43) 0 S dX2_compareWith_43 rfl ?_
      have hyp := Option.some.inj hyp
      subst hyp
      exact g_iret (pc := 44) S (hret y4 rfl) dX2_compareWith_44
  · have hyp := Option.some.inj hyp
    subst hyp
    exact g_sub [] rfl (hex0 () rfl)
set_option maxRecDepth 100000 in
set_option maxHeartbeats 4000000 in
theorem o_X2_compareWith {K : gK} (S : Cx K RX2 cX2_compareWith 4 1 27) {c0 : Nat} (k0 : kd c0 (10 + 2, 0)) (a1 : Int32) (h : Hp) {o : Int32} (hyp : s_X2_compareWith c0 a1 h = some o) (F : Rt K (some .int) (some (.int o)) h) : Go K 0 [(0, .ref (ad K c0)), (1, .int a1)] [] h := by
  unfold s_X2_compareWith at hyp
  refine g_iconst (pc := 0) (v := (0 : Int32)) S dX2_compareWith_0 (by decide) ?_
  refine g_istore_n (pc := 1) (lv' := [(2, .int (0 : Int32)), (0, .ref (ad K c0)), (1, .int a1)]) S dX2_compareWith_1 rfl (by decide) rfl ?_
  refine g_bind hyp (fun e6 he6 hyp => ?_)
  refine g_sub [1, 2, 0] rfl (g_loop (f := fun s : Int32 => s_X2_compareWith_l2 c0 a1 s h) (ρ := (Unit) ⊕ (Int32)) (Hd := fun s : Int32 => Go K 2 [(0, .ref (ad K c0)), (1, .int a1), (2, .int s)] [] h) (Ex := fun e6 => (∀ t, e6 = .inl t → Go K 51 [] [] h) ∧ (∀ t, e6 = .inr t → Rt K (some .int) (some (.int t)) h)) (fun s o h1 h2 h3 => o_X2_compareWith_l2 S k0 a1 s h h1 h2 (fun t q => (h3 _ q).1 t rfl) (fun t q => (h3 _ q).2 t rfl)) FUEL _ e6 he6 ?_)
  refine ⟨?_, ?_⟩
  · intro t7 q
    subst q
    try dsimp only [Sum.elim] at hyp
    refine g_iconst (pc := 51) (v := (0 : Int32)) S dX2_compareWith_51 (by decide) ?_
    have hyp := Option.some.inj hyp
    subst hyp
    exact g_iret (pc := 52) S F dX2_compareWith_52
  · intro t8 q
    subst q
    try dsimp only [Sum.elim] at hyp
    have hyp := Option.some.inj hyp
    subst hyp
    exact F
theorem m_X2_compareWith {l : Launch} {D : va_G} {cT : Nat → ClassId} {aD : Nat → Nat} {c0 : Nat} (k0 : kd c0 (10 + 2, 0)) (a1 : Int32) (h : Hp) {o : Int32} (hyp : s_X2_compareWith c0 a1 h = some o) : Ok l D cT aD yX2_compareWith cX2_compareWith 4 (some .int) 1 27 [.ref (aD c0), .int a1] h (some (.int o)) h :=
  Ok.of (by decide +kernel) rfl (Nat.le_of_ble_eq_true rfl) (fun K e1 e2 e3 e4 S F => by subst e1; exact o_X2_compareWith S k0 a1 h hyp F)
