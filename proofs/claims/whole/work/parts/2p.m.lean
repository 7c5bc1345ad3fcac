-- BoundProofsModel lacksBoth (I)I
noncomputable def s_X10_lacksBoth_b31 (c0 : Nat) (a1 : Int32) (h : Hp) : Option (Int32 × Hp) :=
  (s_X10_lacksHigh c0 a1 (0 : Int32) h).bind fun y1 =>
  some (y1.1, y1.2)
noncomputable def s_X10_lacksBoth (c0 : Nat) (a1 : Int32) (h : Hp) : Option (Int32 × Hp) :=
  if (h.1 c0 20) = 0 then (s_X10_lacksBoth_b31 c0 a1 h)
  else (if ((h.2 c0 21) - ((a1).toInt64 * (h.2 c0 22))) < (0 : Int64) then (s_X10_lacksBoth_b31 c0 a1 h)
  else ((s_X10_lacksLow c0 a1 (0 : Int32) h).bind fun y2 =>
  some (y2.1, y2.2)))
set_option maxRecDepth 100000 in
set_option maxHeartbeats 4000000 in
theorem o_X10_lacksBoth_b31 {K : gK} (S : Cx K RX10 cX10_lacksBoth 2 3 92) {c0 : Nat} (k0 : kd c0 (10 + 10, 0)) (a1 : Int32) (h : Hp) {o : Int32 × Hp} (hyp : s_X10_lacksBoth_b31 c0 a1 h = some o) (F : Rt K (some .int) (some (.int o.1)) o.2) : Go K 31 [(0, .ref (ad K c0)), (1, .int a1)] [] h := by
  unfold s_X10_lacksBoth_b31 at hyp
  refine g_aload_n (pc := 31) 0 S dX10_lacksBoth_31 rfl ?_
  refine g_iload_n (pc := 32) 1 S dX10_lacksBoth_32 rfl ?_
  refine g_iconst (pc := 33) (v := (0 : Int32)) S dX10_lacksBoth_33 (by decide) ?_
  refine g_bind hyp (fun y1 hy1 hyp => ?_)
  refine g_callV (pc := 34) (As := [.int a1, .int (0 : Int32)]) (rest := []) S dX10_lacksBoth_34 k0 rfl tw_1128 tw_1129 tw_60 mw_X10_lacksHigh (m_X10_lacksHigh k0 a1 (0 : Int32) h hy1) rfl rfl (Nat.le_of_ble_eq_true rfl) (Nat.le_of_ble_eq_true rfl) (Nat.le_of_ble_eq_true rfl) ?_
  have hyp := Option.some.inj hyp
  subst hyp
  exact g_iret (pc := 37) S F dX10_lacksBoth_37
set_option maxRecDepth 100000 in
set_option maxHeartbeats 4000000 in
theorem o_X10_lacksBoth {K : gK} (S : Cx K RX10 cX10_lacksBoth 2 3 92) {c0 : Nat} (k0 : kd c0 (10 + 10, 0)) (a1 : Int32) (h : Hp) {o : Int32 × Hp} (hyp : s_X10_lacksBoth c0 a1 h = some o) (F : Rt K (some .int) (some (.int o.1)) o.2) : Go K 0 [(0, .ref (ad K c0)), (1, .int a1)] [] h := by
  unfold s_X10_lacksBoth at hyp
  refine g_aload_n (pc := 0) 0 S dX10_lacksBoth_0 rfl ?_
  refine g_getI (pc := 1) S dX10_lacksBoth_1 fl_X10_167 k0 ?_
  refine g_if_eq (pc := 4) (tgt := 31) S dX10_lacksBoth_4 (by decide) hyp (fun hyp => ?_) (fun hyp => ?_)
  · exact g_sub [0, 1] rfl (o_X10_lacksBoth_b31 S k0 a1 h hyp F)
  · refine g_aload_n (pc := 7) 0 S dX10_lacksBoth_7 rfl ?_
    refine g_getJ (pc := 8) S dX10_lacksBoth_8 fl_X10_173 k0 ?_
    refine g_iload_n (pc := 11) 1 S dX10_lacksBoth_11 rfl ?_
    refine g_i2l (pc := 12) S dX10_lacksBoth_12 ?_
    refine g_aload_n (pc := 13) 0 S dX10_lacksBoth_13 rfl ?_
    refine g_getJ (pc := 14) S dX10_lacksBoth_14 fl_X10_170 k0 ?_
    refine g_lmul (pc := 17) S dX10_lacksBoth_17 ?_
    refine g_lsub (pc := 18) S dX10_lacksBoth_18 ?_
    refine g_lconst (pc := 19) (v := (0 : Int64)) S dX10_lacksBoth_19 (by decide) ?_
    refine g_lcmp_lt (pc := 20) (tgt := 31) S dX10_lacksBoth_20 dX10_lacksBoth_21 (by decide) hyp (fun hyp => ?_) (fun hyp => ?_)
    · exact g_sub [0, 1] rfl (o_X10_lacksBoth_b31 S k0 a1 h hyp F)
    · refine g_aload_n (pc := 24) 0 S dX10_lacksBoth_24 rfl ?_
      refine g_iload_n (pc := 25) 1 S dX10_lacksBoth_25 rfl ?_
      refine g_iconst (pc := 26) (v := (0 : Int32)) S dX10_lacksBoth_26 (by decide) ?_
      refine g_bind hyp (fun y2 hy2 hyp => ?_)
      refine g_callV (pc := 27) (As := [.int a1, .int (0 : Int32)]) (rest := []) S dX10_lacksBoth_27 k0 rfl tw_1122 tw_1123 tw_58 mw_X10_lacksLow (m_X10_lacksLow k0 a1 (0 : Int32) h hy2) rfl rfl (Nat.le_of_ble_eq_true rfl) (Nat.le_of_ble_eq_true rfl) (Nat.le_of_ble_eq_true rfl) ?_
      have hyp := Option.some.inj hyp
      subst hyp
      exact g_iret (pc := 30) S F dX10_lacksBoth_30
theorem m_X10_lacksBoth {l : Launch} {D : va_G} {cT : Nat → ClassId} {aD : Nat → Nat} {c0 : Nat} (k0 : kd c0 (10 + 10, 0)) (a1 : Int32) (h : Hp) {o : Int32 × Hp} (hyp : s_X10_lacksBoth c0 a1 h = some o) : Ok l D cT aD yX10_lacksBoth cX10_lacksBoth 2 (some .int) 3 92 [.ref (aD c0), .int a1] h (some (.int o.1)) o.2 :=
  Ok.of (by decide +kernel) rfl (Nat.le_of_ble_eq_true rfl) (fun K e1 e2 e3 e4 S F => by subst e1; exact o_X10_lacksBoth S k0 a1 h hyp F)
-- BoundProofsModel relief (I)I
noncomputable def s_X10_relief_b92 (c0 : Nat) (t0 : Int32) (t1 : Int32) (h : Hp) : Option (Int32 × Hp) :=
  (s_X10_lacksLow c0 t1 t0 h).bind fun y8 =>
  some (y8.1, y8.2)
noncomputable def s_X10_relief_b110 (c0 : Nat) (t0 : Int32) (t1 : Int32) (h : Hp) : Option (Int32 × Hp) :=
  (s_X10_lacksHigh c0 t1 t0 h).bind fun y9 =>
  some (y9.1, y9.2)
noncomputable def s_X10_relief (c0 : Nat) (a1 : Int32) (h : Hp) : Option (Int32 × Hp) :=
  (s_X10_isBound c0 a1 h).bind fun y1 =>
  if y1 = 0 then (some ((-1 : Int32), h))
  else ((s_X10_allBounds c0  h).bind fun y2 =>
  ldI h (c0 + 2) 30 ((3 : Int32) * a1) fun x3 =>
  (s_X10_seesForm c0 (y2 &&& (((1 : Int32) <<< (a1 &&& 31)) ^^^ (-1 : Int32))) x3 h).bind fun y4 =>
  if (y4.1 c0 28) = 0 then (ldI y4 (c0 + 2) 30 (((3 : Int32) * a1) + (1 : Int32)) fun x5 =>
  ldI y4 (c0 + 2) 30 (((3 : Int32) * a1) + (2 : Int32)) fun x6 =>
  if x5 = (4 : Int32) then ((s_X10_lacksBoth c0 x6 y4).bind fun y7 =>
  some (y7.1, y7.2))
  else (if x5 < (2 : Int32) then (if x5 = (1 : Int32) then (s_X10_relief_b92 c0 (1 : Int32) x6 y4)
  else (s_X10_relief_b92 c0 (0 : Int32) x6 y4))
  else (if x5 = (3 : Int32) then (s_X10_relief_b110 c0 (1 : Int32) x6 y4)
  else (s_X10_relief_b110 c0 (0 : Int32) x6 y4))))
  else (some ((-9 : Int32), y4)))
set_option maxRecDepth 100000 in
set_option maxHeartbeats 4000000 in
theorem o_X10_relief_b92 {K : gK} (S : Cx K RX10 cX10_relief 4 4 127) {c0 : Nat} (k0 : kd c0 (10 + 10, 0)) (t0 : Int32) (t1 : Int32) (h : Hp) {o : Int32 × Hp} (hyp : s_X10_relief_b92 c0 t0 t1 h = some o) (F : Rt K (some .int) (some (.int o.1)) o.2) : Go K 92 [] [.int t0, .int t1, .ref (ad K c0)] h := by
  unfold s_X10_relief_b92 at hyp
  refine g_bind hyp (fun y8 hy8 hyp => ?_)
  refine g_callV (pc := 92) (As := [.int t1, .int t0]) (rest := []) S dX10_relief_92 k0 rfl tw_1122 tw_1123 tw_58 mw_X10_lacksLow (m_X10_lacksLow k0 t1 t0 h hy8) rfl rfl (Nat.le_of_ble_eq_true rfl) (Nat.le_of_ble_eq_true rfl) (Nat.le_of_ble_eq_true rfl) ?_
  refine g_goto (pc := 95) (tgt := 113) S dX10_relief_95 (by decide) ?_
  have hyp := Option.some.inj hyp
  subst hyp
  exact g_iret (pc := 113) S F dX10_relief_113
set_option maxRecDepth 100000 in
set_option maxHeartbeats 4000000 in
theorem o_X10_relief_b110 {K : gK} (S : Cx K RX10 cX10_relief 4 4 127) {c0 : Nat} (k0 : kd c0 (10 + 10, 0)) (t0 : Int32) (t1 : Int32) (h : Hp) {o : Int32 × Hp} (hyp : s_X10_relief_b110 c0 t0 t1 h = some o) (F : Rt K (some .int) (some (.int o.1)) o.2) : Go K 110 [] [.int t0, .int t1, .ref (ad K c0)] h := by
  unfold s_X10_relief_b110 at hyp
  refine g_bind hyp (fun y9 hy9 hyp => ?_)
  refine g_callV (pc := 110) (As := [.int t1, .int t0]) (rest := []) S dX10_relief_110 k0 rfl tw_1128 tw_1129 tw_60 mw_X10_lacksHigh (m_X10_lacksHigh k0 t1 t0 h hy9) rfl rfl (Nat.le_of_ble_eq_true rfl) (Nat.le_of_ble_eq_true rfl) (Nat.le_of_ble_eq_true rfl) ?_
  have hyp := Option.some.inj hyp
  subst hyp
  exact g_iret (pc := 113) S F dX10_relief_113
set_option maxRecDepth 100000 in
set_option maxHeartbeats 4000000 in
theorem o_X10_relief {K : gK} (S : Cx K RX10 cX10_relief 4 4 127) {c0 : Nat} (k0 : kd c0 (10 + 10, 0)) (a1 : Int32) (h : Hp) {o : Int32 × Hp} (hyp : s_X10_relief c0 a1 h = some o) (F : Rt K (some .int) (some (.int o.1)) o.2) : Go K 0 [(0, .ref (ad K c0)), (1, .int a1)] [] h := by
  unfold s_X10_relief at hyp
  refine g_aload_n (pc := 0) 0 S dX10_relief_0 rfl ?_
  refine g_iload_n (pc := 1) 1 S dX10_relief_1 rfl ?_
  refine g_bind hyp (fun y1 hy1 hyp => ?_)
  refine g_callV (pc := 2) (As := [.int a1]) (rest := []) S dX10_relief_2 k0 rfl tw_1034 tw_1035 tw_38 mw_X10_isBound (m_X10_isBound k0 a1 h hy1) rfl rfl (Nat.le_of_ble_eq_true rfl) (Nat.le_of_ble_eq_true rfl) (Nat.le_of_ble_eq_true rfl) ?_
  refine g_if_ne (pc := 5) (tgt := 10) S dX10_relief_5 (by decide) hyp (fun hyp => ?_) (fun hyp => ?_)
  · refine g_iconst (pc := 8) (v := (-1 : Int32)) S dX10_relief_8 (by decide) ?_
    have hyp := Option.some.inj hyp
    subst hyp
    exact g_iret (pc := 9) S F dX10_relief_9
  · refine g_aload_n (pc := 10) 0 S dX10_relief_10 rfl ?_
    refine g_aload_n (pc := 11) 0 S dX10_relief_11 rfl ?_
    refine g_bind hyp (fun y2 hy2 hyp => ?_)
    refine g_callV (pc := 12) (As := []) (rest := [.ref (ad K c0)]) S dX10_relief_12 k0 rfl tw_1049 tw_1050 tw_39 mw_X10_allBounds (m_X10_allBounds k0  h hy2) rfl rfl (Nat.le_of_ble_eq_true rfl) (Nat.le_of_ble_eq_true rfl) (Nat.le_of_ble_eq_true rfl) ?_
    refine g_iconst (pc := 15) (v := (1 : Int32)) S dX10_relief_15 (by decide) ?_
    refine g_iload_n (pc := 16) 1 S dX10_relief_16 rfl ?_
    refine g_ishl (pc := 17) S dX10_relief_17 ?_
    refine g_iconst (pc := 18) (v := (-1 : Int32)) S dX10_relief_18 (by decide) ?_
    refine g_ixor (pc := 19) S dX10_relief_19 ?_
    refine g_iand (pc := 20) S dX10_relief_20 ?_
    refine g_aload_n (pc := 21) 0 S dX10_relief_21 rfl ?_
    refine g_getR (pc := 22) S dX10_relief_22 fl_X10_17 k0 ?_
    refine g_iconst (pc := 25) (v := (3 : Int32)) S dX10_relief_25 (by decide) ?_
    refine g_iload_n (pc := 26) 1 S dX10_relief_26 rfl ?_
    refine g_imul (pc := 27) S dX10_relief_27 ?_
    refine g_iald (pc := 28) S dX10_relief_28 (kf_10_2 k0) hyp (fun x3 hyp => ?_)
    refine g_bind hyp (fun y4 hy4 hyp => ?_)
    refine g_callV (pc := 29) (As := [.int (y2 &&& (((1 : Int32) <<< (a1 &&& 31)) ^^^ (-1 : Int32))), .int x3]) (rest := []) S dX10_relief_29 k0 rfl tw_1116 tw_1117 tw_56 mw_X10_seesForm (m_X10_seesForm k0 (y2 &&& (((1 : Int32) <<< (a1 &&& 31)) ^^^ (-1 : Int32))) x3 h hy4) rfl rfl (Nat.le_of_ble_eq_true rfl) (Nat.le_of_ble_eq_true rfl) (Nat.le_of_ble_eq_true rfl) ?_
    refine g_aload_n (pc := 32) 0 S dX10_relief_32 rfl ?_
    refine g_getI (pc := 33) S dX10_relief_33 fl_X10_149 k0 ?_
    refine g_if_eq (pc := 36) (tgt := 42) S dX10_relief_36 (by decide) hyp (fun hyp => ?_) (fun hyp => ?_)
    · refine g_aload_n (pc := 42) 0 S dX10_relief_42 rfl ?_
      refine g_getR (pc := 43) S dX10_relief_43 fl_X10_17 k0 ?_
      refine g_iconst (pc := 46) (v := (3 : Int32)) S dX10_relief_46 (by decide) ?_
      refine g_iload_n (pc := 47) 1 S dX10_relief_47 rfl ?_
      refine g_imul (pc := 48) S dX10_relief_48 ?_
      refine g_iconst (pc := 49) (v := (1 : Int32)) S dX10_relief_49 (by decide) ?_
      refine g_iadd (pc := 50) S dX10_relief_50 ?_
      refine g_iald (pc := 51) S dX10_relief_51 (kf_10_2 k0) hyp (fun x5 hyp => ?_)
      refine g_istore_n (pc := 52) (lv' := [(2, .int x5), (0, .ref (ad K c0)), (1, .int a1)]) S dX10_relief_52 rfl (by decide) rfl ?_
      refine g_aload_n (pc := 53) 1 S dX10_relief_53 rfl ?_
      refine g_getR (pc := 54) S dX10_relief_54 fl_X10_17 k0 ?_
      refine g_iconst (pc := 57) (v := (3 : Int32)) S dX10_relief_57 (by decide) ?_
      refine g_iload_n (pc := 58) 2 S dX10_relief_58 rfl ?_
      refine g_imul (pc := 59) S dX10_relief_59 ?_
      refine g_iconst (pc := 60) (v := (2 : Int32)) S dX10_relief_60 (by decide) ?_
      refine g_iadd (pc := 61) S dX10_relief_61 ?_
      refine g_iald (pc := 62) S dX10_relief_62 (kf_10_2 k0) hyp (fun x6 hyp => ?_)
      refine g_istore_n (pc := 63) (lv' := [(3, .int x6), (2, .int x5), (0, .ref (ad K c0)), (1, .int a1)]) S dX10_relief_63 rfl (by decide) rfl ?_
      refine g_iload_n (pc := 64) 1 S dX10_relief_64 rfl ?_
      refine g_iconst (pc := 65) (v := (4 : Int32)) S dX10_relief_65 (by decide) ?_
      refine g_icmp_ne (pc := 66) (tgt := 75) S dX10_relief_66 (by decide) hyp (fun hyp => ?_) (fun hyp => ?_)
      · refine g_aload_n (pc := 69) 2 S dX10_relief_69 rfl ?_
        refine g_iload_n (pc := 70) 0 S dX10_relief_70 rfl ?_
        refine g_bind hyp (fun y7 hy7 hyp => ?_)
        refine g_callV (pc := 71) (As := [.int x6]) (rest := []) S dX10_relief_71 k0 rfl tw_1119 tw_1120 tw_57 mw_X10_lacksBoth (m_X10_lacksBoth k0 x6 y4 hy7) rfl rfl (Nat.le_of_ble_eq_true rfl) (Nat.le_of_ble_eq_true rfl) (Nat.le_of_ble_eq_true rfl) ?_
        have hyp := Option.some.inj hyp
        subst hyp
        exact g_iret (pc := 74) S F dX10_relief_74
      · refine g_iload_n (pc := 75) 1 S dX10_relief_75 rfl ?_
        refine g_iconst (pc := 76) (v := (2 : Int32)) S dX10_relief_76 (by decide) ?_
        refine g_icmp_ge (pc := 77) (tgt := 98) S dX10_relief_77 (by decide) hyp (fun hyp => ?_) (fun hyp => ?_)
        · refine g_aload_n (pc := 80) 2 S dX10_relief_80 rfl ?_
          refine g_iload_n (pc := 81) 0 S dX10_relief_81 rfl ?_
          refine g_iload_n (pc := 82) 1 S dX10_relief_82 rfl ?_
          refine g_iconst (pc := 83) (v := (1 : Int32)) S dX10_relief_83 (by decide) ?_
          refine g_icmp_ne (pc := 84) (tgt := 91) S dX10_relief_84 (by decide) hyp (fun hyp => ?_) (fun hyp => ?_)
          · refine g_iconst (pc := 87) (v := (1 : Int32)) S dX10_relief_87 (by decide) ?_
            refine g_goto (pc := 88) (tgt := 92) S dX10_relief_88 (by decide) ?_
            exact g_sub [] rfl (o_X10_relief_b92 S k0 (1 : Int32) x6 y4 hyp F)
          · refine g_iconst (pc := 91) (v := (0 : Int32)) S dX10_relief_91 (by decide) ?_
            exact g_sub [] rfl (o_X10_relief_b92 S k0 (0 : Int32) x6 y4 hyp F)
        · refine g_aload_n (pc := 98) 2 S dX10_relief_98 rfl ?_
          refine g_iload_n (pc := 99) 0 S dX10_relief_99 rfl ?_
          refine g_iload_n (pc := 100) 1 S dX10_relief_100 rfl ?_
          refine g_iconst (pc := 101) (v := (3 : Int32)) S dX10_relief_101 (by decide) ?_
          refine g_icmp_ne (pc := 102) (tgt := 109) S dX10_relief_102 (by decide) hyp (fun hyp => ?_) (fun hyp => ?_)
          · refine g_iconst (pc := 105) (v := (1 : Int32)) S dX10_relief_105 (by decide) ?_
            refine g_goto (pc := 106) (tgt := 110) S dX10_relief_106 (by decide) ?_
            exact g_sub [] rfl (o_X10_relief_b110 S k0 (1 : Int32) x6 y4 hyp F)
          · refine g_iconst (pc := 109) (v := (0 : Int32)) S dX10_relief_109 (by decide) ?_
            exact g_sub [] rfl (o_X10_relief_b110 S k0 (0 : Int32) x6 y4 hyp F)
    · refine g_bipush (pc := 39) (v := (-9 : Int32)) S dX10_relief_39 (by decide) ?_
      have hyp := Option.some.inj hyp
      subst hyp
      exact g_iret (pc := 41) S F dX10_relief_41
theorem m_X10_relief {l : Launch} {D : va_G} {cT : Nat → ClassId} {aD : Nat → Nat} {c0 : Nat} (k0 : kd c0 (10 + 10, 0)) (a1 : Int32) (h : Hp) {o : Int32 × Hp} (hyp : s_X10_relief c0 a1 h = some o) : Ok l D cT aD yX10_relief cX10_relief 4 (some .int) 4 127 [.ref (aD c0), .int a1] h (some (.int o.1)) o.2 :=
  Ok.of (by decide +kernel) rfl (Nat.le_of_ble_eq_true rfl) (fun K e1 e2 e3 e4 S F => by subst e1; exact o_X10_relief S k0 a1 h hyp F)
-- BoundProofsModel ones (I)I
noncomputable def s_X10_ones_l4  (a0 : Int32) (a1 : Int32) (a2 : Int32) (h : Hp) : Option ((Int32 × Int32) ⊕ (Int32)) :=
  if a2 < (10 : Int32) then (lt (a1 + ((a0 >>> (a2 &&& 31)) &&& (1 : Int32))) fun v1_1 =>
  lt (a2 + (1 : Int32)) fun v2_2 =>
  some (.inl (v1_1, v2_2)))
  else (some (.inr (a1)))
noncomputable def s_X10_ones  (a0 : Int32) (h : Hp) : Option (Int32) :=
  (iter (fun s : Int32 × Int32 => s_X10_ones_l4  a0 s.1 s.2 h) FUEL ((0 : Int32), (0 : Int32))).bind fun e3 =>
  some e3
set_option maxRecDepth 100000 in
set_option maxHeartbeats 4000000 in
theorem o_X10_ones_l4 {K : gK} (S : Cx K RX10 cX10_ones 3 0 0)  (a0 : Int32) (a1 : Int32) (a2 : Int32) (h : Hp) {o : (Int32 × Int32) ⊕ (Int32)} (hyp : s_X10_ones_l4  a0 a1 a2 h = some o) (hin : ∀ s', o = .inl s' → Go K 4 [(0, .int a0), (1, .int s'.1), (2, .int s'.2)] [] h) (hex0 : ∀ s', o = .inr (s') → Go K 24 [(1, .int s')] [] h) : Go K 4 [(0, .int a0), (1, .int a1), (2, .int a2)] [] h := by
  unfold s_X10_ones_l4 at hyp
  refine g_iload_n (pc := 4) 2 S dX10_ones_4 rfl ?_
  refine g_bipush (pc := 5) (v := (10 : Int32)) S dX10_ones_5 (by decide) ?_
  refine g_icmp_ge (pc := 7) (tgt := 24) S dX10_ones_7 (by decide) hyp (fun hyp => ?_) (fun hyp => ?_)
  · refine g_iload_n (pc := 10) 1 S dX10_ones_10 rfl ?_
    refine g_iload_n (pc := 11) 0 S dX10_ones_11 rfl ?_
    refine g_iload_n (pc := 12) 2 S dX10_ones_12 rfl ?_
    refine g_ishr (pc := 13) S dX10_ones_13 ?_
    refine g_iconst (pc := 14) (v := (1 : Int32)) S dX10_ones_14 (by decide) ?_
    refine g_iand (pc := 15) S dX10_ones_15 ?_
    refine g_iadd (pc := 16) S dX10_ones_16 ?_
    refine g_lti (C := fun v1_1 => Go K 17 [(0, .int a0), (1, .int a1), (2, .int a2)] [.int v1_1] h) hyp (fun v1_1 hyp => ?_)
    refine g_istore_n (pc := 17) (lv' := [(1, .int v1_1), (0, .int a0), (2, .int a2)]) S dX10_ones_17 rfl (by decide) rfl ?_
    refine g_iinc (pc := 18) (v := (a2 + (1 : Int32))) (lv' := [(2, .int (a2 + (1 : Int32))), (1, .int v1_1), (0, .int a0)]) 2 S dX10_ones_18 rfl (by rfl) (by decide) rfl ?_
    refine g_lti (C := fun v2_2 => Go K (18 + 3) [(2, .int v2_2), (1, .int v1_1), (0, .int a0)] [] h) hyp (fun v2_2 hyp => ?_)
    refine g_goto (pc := 21) (tgt := 4) S dX10_ones_21 (by decide) ?_
    have hyp := Option.some.inj hyp
    subst hyp
    exact g_sub [2, 1, 0] rfl (hin (v1_1, v2_2) rfl)
  · have hyp := Option.some.inj hyp
    subst hyp
    exact g_sub [1] rfl (hex0 a1 rfl)
set_option maxRecDepth 100000 in
set_option maxHeartbeats 4000000 in
theorem o_X10_ones {K : gK} (S : Cx K RX10 cX10_ones 3 0 0)  (a0 : Int32) (h : Hp) {o : Int32} (hyp : s_X10_ones  a0 h = some o) (F : Rt K (some .int) (some (.int o)) h) : Go K 0 [(0, .int a0)] [] h := by
  unfold s_X10_ones at hyp
  refine g_iconst (pc := 0) (v := (0 : Int32)) S dX10_ones_0 (by decide) ?_
  refine g_istore_n (pc := 1) (lv' := [(1, .int (0 : Int32)), (0, .int a0)]) S dX10_ones_1 rfl (by decide) rfl ?_
  refine g_iconst (pc := 2) (v := (0 : Int32)) S dX10_ones_2 (by decide) ?_
  refine g_istore_n (pc := 3) (lv' := [(2, .int (0 : Int32)), (1, .int (0 : Int32)), (0, .int a0)]) S dX10_ones_3 rfl (by decide) rfl ?_
  refine g_bind hyp (fun e3 he3 hyp => ?_)
  refine g_sub [2, 1, 0] rfl (g_loop (f := fun s : Int32 × Int32 => s_X10_ones_l4  a0 s.1 s.2 h) (ρ := Int32) (Hd := fun s : Int32 × Int32 => Go K 4 [(0, .int a0), (1, .int s.1), (2, .int s.2)] [] h) (Ex := fun e3 => Go K 24 [(1, .int e3)] [] h) (fun s o h1 h2 h3 => o_X10_ones_l4 S  a0 s.1 s.2 h h1 h2 h3) FUEL _ e3 he3 ?_)
  refine g_iload_n (pc := 24) 0 S dX10_ones_24 rfl ?_
  have hyp := Option.some.inj hyp
  subst hyp
  exact g_iret (pc := 25) S F dX10_ones_25
theorem m_X10_ones {l : Launch} {D : va_G} {cT : Nat → ClassId} {aD : Nat → Nat}  (a0 : Int32) (h : Hp) {o : Int32} (hyp : s_X10_ones  a0 h = some o) : Ok l D cT aD yX10_ones cX10_ones 3 (some .int) 0 0 [.int a0] h (some (.int o)) h :=
  Ok.of (by decide +kernel) rfl (Nat.le_of_ble_eq_true rfl) (fun K e1 e2 e3 e4 S F => by subst e1; exact o_X10_ones S  a0 h hyp F)
-- BoundProofsModel sparedOf ()I
noncomputable def s_X10_sparedOf_b44 (c0 : Nat) (a1 : Int32) (a2 : Int32) (a3 : Int32) (h : Hp) : Option ((Int32 × Hp) ⊕ ((Hp) ⊕ (Int32 × Hp))) :=
  lt (a3 + (1 : Int32)) fun v3_4 =>
  some (.inl (v3_4, h))
noncomputable def s_X10_sparedOf_l17 (c0 : Nat) (a1 : Int32) (a2 : Int32) (a3 : Int32) (h : Hp) : Option ((Int32 × Hp) ⊕ ((Hp) ⊕ (Int32 × Hp))) :=
  if a1 < a3 then (some (.inr (.inl h)))
  else ((s_X10_ones  a3 h).bind fun y2 =>
  if y2 = a2 then ((s_X10_canBe c0 (a1 &&& (a3 ^^^ (-1 : Int32))) h).bind fun y3 =>
  if y3.1 = 0 then (s_X10_sparedOf_b44 c0 a1 a2 a3 y3.2)
  else (some (.inr (.inr (a3, y3.2)))))
  else (s_X10_sparedOf_b44 c0 a1 a2 a3 h))
noncomputable def s_X10_sparedOf_l7 (c0 : Nat) (a1 : Int32) (a2 : Int32) (h : Hp) : Option ((Int32 × Hp) ⊕ ((Hp) ⊕ (Int32 × Hp))) :=
  if (h.1 c0 3) < a2 then (some (.inr (.inl h)))
  else ((iter (fun s : Int32 × Hp => s_X10_sparedOf_l17 c0 a1 a2 s.1 s.2) FUEL ((0 : Int32), h)).bind (Sum.elim (fun t6 => lt (a2 + (1 : Int32)) fun v2_7 =>
  some (.inl (v2_7, t6)))
  (fun t8 => some (.inr (.inr t8)))))
noncomputable def s_X10_sparedOf (c0 : Nat)  (h : Hp) : Option (Int32 × Hp) :=
  (s_X10_allBounds c0  h).bind fun y1 =>
  (iter (fun s : Int32 × Hp => s_X10_sparedOf_l7 c0 y1 s.1 s.2) FUEL ((0 : Int32), h)).bind (Sum.elim (fun t10 => some (y1, t10))
  (fun t11 => some t11))
set_option maxRecDepth 100000 in
set_option maxHeartbeats 4000000 in
theorem o_X10_sparedOf_b44 {K : gK} (S : Cx K RX10 cX10_sparedOf 4 4 117) {c0 : Nat} (k0 : kd c0 (10 + 10, 0)) (a1 : Int32) (a2 : Int32) (a3 : Int32) (h : Hp) {o : (Int32 × Hp) ⊕ ((Hp) ⊕ (Int32 × Hp))} (hyp : s_X10_sparedOf_b44 c0 a1 a2 a3 h = some o) (hin : ∀ s', o = .inl s' → Go K 17 [(0, .ref (ad K c0)), (1, .int a1), (2, .int a2), (3, .int s'.1)] [] s'.2) (hex0 : ∀ s', o = .inr (.inl s') → Go K 50 [(0, .ref (ad K c0)), (1, .int a1), (2, .int a2)] [] s') (hret : ∀ x', o = .inr (.inr x') → Rt K (some .int) (some (.int x'.1)) x'.2) : Go K 44 [(0, .ref (ad K c0)), (1, .int a1), (2, .int a2), (3, .int a3)] [] h := by
  unfold s_X10_sparedOf_b44 at hyp
  refine g_iinc (pc := 44) (v := (a3 + (1 : Int32))) (lv' := [(3, .int (a3 + (1 : Int32))), (0, .ref (ad K c0)), (1, .int a1), (2, .int a2)]) 3 S dX10_sparedOf_44 rfl (by rfl) (by decide) rfl ?_
  refine g_lti (C := fun v3_4 => Go K (44 + 3) [(3, .int v3_4), (0, .ref (ad K c0)), (1, .int a1), (2, .int a2)] [] h) hyp (fun v3_4 hyp => ?_)
  refine g_goto (pc := 47) (tgt := 17) S dX10_sparedOf_47 (by decide) ?_
  have hyp := Option.some.inj hyp
  subst hyp
  exact g_sub [1, 2, 3, 0] rfl (hin (v3_4, h) rfl)
set_option maxRecDepth 100000 in
set_option maxHeartbeats 4000000 in
theorem o_X10_sparedOf_l17 {K : gK} (S : Cx K RX10 cX10_sparedOf 4 4 117) {c0 : Nat} (k0 : kd c0 (10 + 10, 0)) (a1 : Int32) (a2 : Int32) (a3 : Int32) (h : Hp) {o : (Int32 × Hp) ⊕ ((Hp) ⊕ (Int32 × Hp))} (hyp : s_X10_sparedOf_l17 c0 a1 a2 a3 h = some o) (hin : ∀ s', o = .inl s' → Go K 17 [(0, .ref (ad K c0)), (1, .int a1), (2, .int a2), (3, .int s'.1)] [] s'.2) (hex0 : ∀ s', o = .inr (.inl s') → Go K 50 [(0, .ref (ad K c0)), (1, .int a1), (2, .int a2)] [] s') (hret : ∀ x', o = .inr (.inr x') → Rt K (some .int) (some (.int x'.1)) x'.2) : Go K 17 [(0, .ref (ad K c0)), (1, .int a1), (2, .int a2), (3, .int a3)] [] h := by
  unfold s_X10_sparedOf_l17 at hyp
  refine g_iload_n (pc := 17) 3 S dX10_sparedOf_17 rfl ?_
  refine g_iload_n (pc := 18) 1 S dX10_sparedOf_18 rfl ?_
  refine g_icmp_gt (pc := 19) (tgt := 50) S dX10_sparedOf_19 (by decide) hyp (fun hyp => ?_) (fun hyp => ?_)
  · have hyp := Option.some.inj hyp
    subst hyp
    exact g_sub [0, 1, 2] rfl (hex0 h rfl)
  · refine g_iload_n (pc := 22) 3 S dX10_sparedOf_22 rfl ?_
    refine g_bind hyp (fun y2 hy2 hyp => ?_)
    refine g_callS (pc := 23) (As := [.int a3]) (rest := []) S dX10_sparedOf_23 tw_1138 tw_1139 mw_X10_ones (m_X10_ones  a3 h hy2) rfl rfl (Nat.le_of_ble_eq_true rfl) (Nat.le_of_ble_eq_true rfl) (Nat.le_of_ble_eq_true rfl) ?_
    refine g_iload_n (pc := 26) 2 S dX10_sparedOf_26 rfl ?_
    refine g_icmp_ne (pc := 27) (tgt := 44) S dX10_sparedOf_27 (by decide) hyp (fun hyp => ?_) (fun hyp => ?_)
    · refine g_aload_n (pc := 30) 0 S dX10_sparedOf_30 rfl ?_
      refine g_iload_n (pc := 31) 1 S dX10_sparedOf_31 rfl ?_
      refine g_iload_n (pc := 32) 3 S dX10_sparedOf_32 rfl ?_
      refine g_iconst (pc := 33) (v := (-1 : Int32)) S dX10_sparedOf_33 (by decide) ?_
      refine g_ixor (pc := 34) S dX10_sparedOf_34 ?_
      refine g_iand (pc := 35) S dX10_sparedOf_35 ?_
      refine g_bind hyp (fun y3 hy3 hyp => ?_)
      refine g_callV (pc := 36) (As := [.int (a1 &&& (a3 ^^^ (-1 : Int32)))]) (rest := []) S dX10_sparedOf_36 k0 rfl tw_1052 tw_1053 tw_40 mw_X10_canBe (m_X10_canBe k0 (a1 &&& (a3 ^^^ (-1 : Int32))) h hy3) rfl rfl (Nat.le_of_ble_eq_true rfl) (Nat.le_of_ble_eq_true rfl) (Nat.le_of_ble_eq_true rfl) ?_
      refine g_if_eq (pc := 39) (tgt := 44) S dX10_sparedOf_39 (by decide) hyp (fun hyp => ?_) (fun hyp => ?_)
      · exact g_sub [0, 1, 2, 3] rfl (o_X10_sparedOf_b44 S k0 a1 a2 a3 y3.2 hyp hin hex0 hret)
      · refine g_iload_n (pc := 42) 3 S dX10_sparedOf_42 rfl ?_
        have hyp := Option.some.inj hyp
        subst hyp
        exact g_iret (pc := 43) S (hret (a3, y3.2) rfl) dX10_sparedOf_43
    · exact g_sub [0, 1, 2, 3] rfl (o_X10_sparedOf_b44 S k0 a1 a2 a3 h hyp hin hex0 hret)
set_option maxRecDepth 100000 in
set_option maxHeartbeats 4000000 in
theorem o_X10_sparedOf_l7 {K : gK} (S : Cx K RX10 cX10_sparedOf 4 4 117) {c0 : Nat} (k0 : kd c0 (10 + 10, 0)) (a1 : Int32) (a2 : Int32) (h : Hp) {o : (Int32 × Hp) ⊕ ((Hp) ⊕ (Int32 × Hp))} (hyp : s_X10_sparedOf_l7 c0 a1 a2 h = some o) (hin : ∀ s', o = .inl s' → Go K 7 [(0, .ref (ad K c0)), (1, .int a1), (2, .int s'.1)] [] s'.2) (hex0 : ∀ s', o = .inr (.inl s') → Go K 56 [(1, .int a1)] [] s') (hret : ∀ x', o = .inr (.inr x') → Rt K (some .int) (some (.int x'.1)) x'.2) : Go K 7 [(0, .ref (ad K c0)), (1, .int a1), (2, .int a2)] [] h := by
  unfold s_X10_sparedOf_l7 at hyp
  refine g_iload_n (pc := 7) 2 S dX10_sparedOf_7 rfl ?_
  refine g_aload_n (pc := 8) 0 S dX10_sparedOf_8 rfl ?_
  refine g_getI (pc := 9) S dX10_sparedOf_9 fl_X10_97 k0 ?_
  refine g_icmp_gt (pc := 12) (tgt := 56) S dX10_sparedOf_12 (by decide) hyp (fun hyp => ?_) (fun hyp => ?_)
  · have hyp := Option.some.inj hyp
    subst hyp
    exact g_sub [1] rfl (hex0 h rfl)
  · refine g_iconst (pc := 15) (v := (0 : Int32)) S dX10_sparedOf_15 (by decide) ?_
    refine g_istore_n (pc := 16) (lv' := [(3, .int (0 : Int32)), (0, .ref (ad K c0)), (1, .int a1), (2, .int a2)]) S dX10_sparedOf_16 rfl (by decide) rfl ?_
    refine g_bind hyp (fun e5 he5 hyp => ?_)
    refine g_sub [1, 2, 3, 0] rfl (g_loop (f := fun s : Int32 × Hp => s_X10_sparedOf_l17 c0 a1 a2 s.1 s.2) (ρ := (Hp) ⊕ (Int32 × Hp)) (Hd := fun s : Int32 × Hp => Go K 17 [(0, .ref (ad K c0)), (1, .int a1), (2, .int a2), (3, .int s.1)] [] s.2) (Ex := fun e5 => (∀ t, e5 = .inl t → Go K 50 [(0, .ref (ad K c0)), (1, .int a1), (2, .int a2)] [] t) ∧ (∀ t, e5 = .inr t → Rt K (some .int) (some (.int t.1)) t.2)) (fun s o h1 h2 h3 => o_X10_sparedOf_l17 S k0 a1 a2 s.1 s.2 h1 h2 (fun t q => (h3 _ q).1 t rfl) (fun t q => (h3 _ q).2 t rfl)) FUEL _ e5 he5 ?_)
    refine ⟨?_, ?_⟩
    · intro t6 q
      subst q
      try dsimp only [Sum.elim] at hyp
      refine g_iinc (pc := 50) (v := (a2 + (1 : Int32))) (lv' := [(2, .int (a2 + (1 : Int32))), (0, .ref (ad K c0)), (1, .int a1)]) 2 S dX10_sparedOf_50 rfl (by rfl) (by decide) rfl ?_
      refine g_lti (C := fun v2_7 => Go K (50 + 3) [(2, .int v2_7), (0, .ref (ad K c0)), (1, .int a1)] [] t6) hyp (fun v2_7 hyp => ?_)
      refine g_goto (pc := 53) (tgt := 7) S dX10_sparedOf_53 (by decide) ?_
      have hyp := Option.some.inj hyp
      subst hyp
      exact g_sub [1, 2, 0] rfl (hin (v2_7, t6) rfl)
    · intro t8 q
      subst q
      try dsimp only [Sum.elim] at hyp
      have hyp := Option.some.inj hyp
      subst hyp
      exact hret t8 rfl
set_option maxRecDepth 100000 in
set_option maxHeartbeats 4000000 in
theorem o_X10_sparedOf {K : gK} (S : Cx K RX10 cX10_sparedOf 4 4 117) {c0 : Nat} (k0 : kd c0 (10 + 10, 0))  (h : Hp) {o : Int32 × Hp} (hyp : s_X10_sparedOf c0  h = some o) (F : Rt K (some .int) (some (.int o.1)) o.2) : Go K 0 [(0, .ref (ad K c0))] [] h := by
  unfold s_X10_sparedOf at hyp
  refine g_aload_n (pc := 0) 0 S dX10_sparedOf_0 rfl ?_
  refine g_bind hyp (fun y1 hy1 hyp => ?_)
  refine g_callV (pc := 1) (As := []) (rest := []) S dX10_sparedOf_1 k0 rfl tw_1049 tw_1050 tw_39 mw_X10_allBounds (m_X10_allBounds k0  h hy1) rfl rfl (Nat.le_of_ble_eq_true rfl) (Nat.le_of_ble_eq_true rfl) (Nat.le_of_ble_eq_true rfl) ?_
  refine g_istore_n (pc := 4) (lv' := [(1, .int y1), (0, .ref (ad K c0))]) S dX10_sparedOf_4 rfl (by decide) rfl ?_
  refine g_iconst (pc := 5) (v := (0 : Int32)) S dX10_sparedOf_5 (by decide) ?_
  refine g_istore_n (pc := 6) (lv' := [(2, .int (0 : Int32)), (1, .int y1), (0, .ref (ad K c0))]) S dX10_sparedOf_6 rfl (by decide) rfl ?_
  refine g_bind hyp (fun e9 he9 hyp => ?_)
  refine g_sub [2, 1, 0] rfl (g_loop (f := fun s : Int32 × Hp => s_X10_sparedOf_l7 c0 y1 s.1 s.2) (ρ := (Hp) ⊕ (Int32 × Hp)) (Hd := fun s : Int32 × Hp => Go K 7 [(0, .ref (ad K c0)), (1, .int y1), (2, .int s.1)] [] s.2) (Ex := fun e9 => (∀ t, e9 = .inl t → Go K 56 [(1, .int y1)] [] t) ∧ (∀ t, e9 = .inr t → Rt K (some .int) (some (.int t.1)) t.2)) (fun s o h1 h2 h3 => o_X10_sparedOf_l7 S k0 y1 s.1 s.2 h1 h2 (fun t q => (h3 _ q).1 t rfl) (fun t q => (h3 _ q).2 t rfl)) FUEL _ e9 he9 ?_)
  refine ⟨?_, ?_⟩
  · intro t10 q
    subst q
    try dsimp only [Sum.elim] at hyp
    refine g_iload_n (pc := 56) 0 S dX10_sparedOf_56 rfl ?_
    have hyp := Option.some.inj hyp
    subst hyp
    exact g_iret (pc := 57) S F dX10_sparedOf_57
  · intro t11 q
    subst q
    try dsimp only [Sum.elim] at hyp
    have hyp := Option.some.inj hyp
    subst hyp
    exact F
theorem m_X10_sparedOf {l : Launch} {D : va_G} {cT : Nat → ClassId} {aD : Nat → Nat} {c0 : Nat} (k0 : kd c0 (10 + 10, 0))  (h : Hp) {o : Int32 × Hp} (hyp : s_X10_sparedOf c0  h = some o) : Ok l D cT aD yX10_sparedOf cX10_sparedOf 4 (some .int) 4 117 [.ref (aD c0)] h (some (.int o.1)) o.2 :=
  Ok.of (by decide +kernel) rfl (Nat.le_of_ble_eq_true rfl) (fun K e1 e2 e3 e4 S F => by subst e1; exact o_X10_sparedOf S k0  h hyp F)
-- BoundProofsModel spared (I)I
noncomputable def s_X10_spared (c0 : Nat) (a1 : Int32) (h : Hp) : Option (Int32 × Hp) :=
  (s_X10_in  a1 (0 : Int32) (1 : Int32) h).bind fun y1 =>
  if y1 = 0 then (some ((-1 : Int32), h))
  else ((s_X10_sparedOf c0  h).bind fun y2 =>
  if a1 = 0 then ((s_X10_ones  y2.1 y2.2).bind fun y3 =>
  some (y3, y2.2))
  else (some (y2.1, y2.2)))
set_option maxRecDepth 100000 in
set_option maxHeartbeats 4000000 in
theorem o_X10_spared {K : gK} (S : Cx K RX10 cX10_spared 3 5 144) {c0 : Nat} (k0 : kd c0 (10 + 10, 0)) (a1 : Int32) (h : Hp) {o : Int32 × Hp} (hyp : s_X10_spared c0 a1 h = some o) (F : Rt K (some .int) (some (.int o.1)) o.2) : Go K 0 [(0, .ref (ad K c0)), (1, .int a1)] [] h := by
  unfold s_X10_spared at hyp
  refine g_iload_n (pc := 0) 1 S dX10_spared_0 rfl ?_
  refine g_iconst (pc := 1) (v := (0 : Int32)) S dX10_spared_1 (by decide) ?_
  refine g_iconst (pc := 2) (v := (1 : Int32)) S dX10_spared_2 (by decide) ?_
  refine g_bind hyp (fun y1 hy1 hyp => ?_)
  refine g_callS (pc := 3) (As := [.int a1, .int (0 : Int32), .int (1 : Int32)]) (rest := []) S dX10_spared_3 tw_990 tw_991 mw_X10_in (m_X10_in  a1 (0 : Int32) (1 : Int32) h hy1) rfl rfl (Nat.le_of_ble_eq_true rfl) (Nat.le_of_ble_eq_true rfl) (Nat.le_of_ble_eq_true rfl) ?_
  refine g_if_ne (pc := 6) (tgt := 11) S dX10_spared_6 (by decide) hyp (fun hyp => ?_) (fun hyp => ?_)
  · refine g_iconst (pc := 9) (v := (-1 : Int32)) S dX10_spared_9 (by decide) ?_
    have hyp := Option.some.inj hyp
    subst hyp
    exact g_iret (pc := 10) S F dX10_spared_10
  · refine g_aload_n (pc := 11) 0 S dX10_spared_11 rfl ?_
    refine g_bind hyp (fun y2 hy2 hyp => ?_)
    refine g_callV (pc := 12) (As := []) (rest := []) S dX10_spared_12 k0 rfl tw_1135 tw_1136 tw_61 mw_X10_sparedOf (m_X10_sparedOf k0  h hy2) rfl rfl (Nat.le_of_ble_eq_true rfl) (Nat.le_of_ble_eq_true rfl) (Nat.le_of_ble_eq_true rfl) ?_
    refine g_istore_n (pc := 15) (lv' := [(2, .int y2.1), (0, .ref (ad K c0)), (1, .int a1)]) S dX10_spared_15 rfl (by decide) rfl ?_
    refine g_iload_n (pc := 16) 2 S dX10_spared_16 rfl ?_
    refine g_if_ne (pc := 17) (tgt := 27) S dX10_spared_17 (by decide) hyp (fun hyp => ?_) (fun hyp => ?_)
    · refine g_iload_n (pc := 20) 0 S dX10_spared_20 rfl ?_
      refine g_bind hyp (fun y3 hy3 hyp => ?_)
      refine g_callS (pc := 21) (As := [.int y2.1]) (rest := []) S dX10_spared_21 tw_1138 tw_1139 mw_X10_ones (m_X10_ones  y2.1 y2.2 hy3) rfl rfl (Nat.le_of_ble_eq_true rfl) (Nat.le_of_ble_eq_true rfl) (Nat.le_of_ble_eq_true rfl) ?_
      refine g_goto (pc := 24) (tgt := 28) S dX10_spared_24 (by decide) ?_
      have hyp := Option.some.inj hyp
      subst hyp
      exact g_iret (pc := 28) S F dX10_spared_28
    · refine g_iload_n (pc := 27) 0 S dX10_spared_27 rfl ?_
      have hyp := Option.some.inj hyp
      subst hyp
      exact g_iret (pc := 28) S F dX10_spared_28
theorem m_X10_spared {l : Launch} {D : va_G} {cT : Nat → ClassId} {aD : Nat → Nat} {c0 : Nat} (k0 : kd c0 (10 + 10, 0)) (a1 : Int32) (h : Hp) {o : Int32 × Hp} (hyp : s_X10_spared c0 a1 h = some o) : Ok l D cT aD yX10_spared cX10_spared 3 (some .int) 5 144 [.ref (aD c0), .int a1] h (some (.int o.1)) o.2 :=
  Ok.of (by decide +kernel) rfl (Nat.le_of_ble_eq_true rfl) (fun K e1 e2 e3 e4 S F => by subst e1; exact o_X10_spared S k0 a1 h hyp F)
-- BoundProofsModel range (II)I
noncomputable def s_X10_range_b70 (c0 : Nat) (t0 : Int32) (t1 : Int64) (t2 : Int64) (h : Hp) : Option (Int32 × Hp) :=
  (s_X10_says c0 t2 t1 t0 h).bind fun y5 =>
  some (y5.1, y5.2)
noncomputable def s_X10_range_b107 (c0 : Nat) (t0 : Int32) (t1 : Int64) (t2 : Int64) (h : Hp) : Option (Int32 × Hp) :=
  (s_X10_says c0 t2 t1 t0 h).bind fun y6 =>
  some (y6.1, y6.2)
noncomputable def s_X10_range (c0 : Nat) (a1 : Int32) (a2 : Int32) (h : Hp) : Option (Int32 × Hp) :=
  (s_X10_isForm c0 a1 h).bind fun y1 =>
  if y1 = 0 then (some ((-1 : Int32), h))
  else ((s_X10_in  a2 (0 : Int32) (1 : Int32) h).bind fun y2 =>
  if y2 = 0 then (some ((-1 : Int32), h))
  else ((s_X10_allBounds c0  h).bind fun y3 =>
  (s_X10_seesForm c0 y3 a1 h).bind fun y4 =>
  if (y4.1 c0 28) = 0 then (if a2 = 0 then (if (y4.1 c0 20) = 0 then (some ((-9 : Int32), y4))
  else (if (y4.1 c0 23) = 0 then (s_X10_range_b70 c0 (1 : Int32) (y4.2 c0 22) (y4.2 c0 21) y4)
  else (s_X10_range_b70 c0 (0 : Int32) (y4.2 c0 22) (y4.2 c0 21) y4)))
  else (if (y4.1 c0 24) = 0 then (some ((-9 : Int32), y4))
  else (if (y4.1 c0 27) = 0 then (s_X10_range_b107 c0 (1 : Int32) (y4.2 c0 26) (y4.2 c0 25) y4)
  else (s_X10_range_b107 c0 (0 : Int32) (y4.2 c0 26) (y4.2 c0 25) y4))))
  else (some ((-2 : Int32), y4))))
set_option maxRecDepth 100000 in
set_option maxHeartbeats 4000000 in
theorem o_X10_range_b70 {K : gK} (S : Cx K RX10 cX10_range 3 4 127) {c0 : Nat} (k0 : kd c0 (10 + 10, 0)) (t0 : Int32) (t1 : Int64) (t2 : Int64) (h : Hp) {o : Int32 × Hp} (hyp : s_X10_range_b70 c0 t0 t1 t2 h = some o) (F : Rt K (some .int) (some (.int o.1)) o.2) : Go K 70 [] [.int t0, .long t1, .long t2, .ref (ad K c0)] h := by
  unfold s_X10_range_b70 at hyp
  refine g_bind hyp (fun y5 hy5 hyp => ?_)
  refine g_callV (pc := 70) (As := [.long t2, .long t1, .int t0]) (rest := []) S dX10_range_70 k0 rfl tw_1125 tw_1126 tw_59 mw_X10_says (m_X10_says k0 t2 t1 t0 h hy5) rfl rfl (Nat.le_of_ble_eq_true rfl) (Nat.le_of_ble_eq_true rfl) (Nat.le_of_ble_eq_true rfl) ?_
  refine g_goto (pc := 73) (tgt := 78) S dX10_range_73 (by decide) ?_
  have hyp := Option.some.inj hyp
  subst hyp
  exact g_iret (pc := 78) S F dX10_range_78
set_option maxRecDepth 100000 in
set_option maxHeartbeats 4000000 in
theorem o_X10_range_b107 {K : gK} (S : Cx K RX10 cX10_range 3 4 127) {c0 : Nat} (k0 : kd c0 (10 + 10, 0)) (t0 : Int32) (t1 : Int64) (t2 : Int64) (h : Hp) {o : Int32 × Hp} (hyp : s_X10_range_b107 c0 t0 t1 t2 h = some o) (F : Rt K (some .int) (some (.int o.1)) o.2) : Go K 107 [] [.int t0, .long t1, .long t2, .ref (ad K c0)] h := by
  unfold s_X10_range_b107 at hyp
  refine g_bind hyp (fun y6 hy6 hyp => ?_)
  refine g_callV (pc := 107) (As := [.long t2, .long t1, .int t0]) (rest := []) S dX10_range_107 k0 rfl tw_1125 tw_1126 tw_59 mw_X10_says (m_X10_says k0 t2 t1 t0 h hy6) rfl rfl (Nat.le_of_ble_eq_true rfl) (Nat.le_of_ble_eq_true rfl) (Nat.le_of_ble_eq_true rfl) ?_
  refine g_goto (pc := 110) (tgt := 115) S dX10_range_110 (by decide) ?_
  have hyp := Option.some.inj hyp
  subst hyp
  exact g_iret (pc := 115) S F dX10_range_115
set_option maxRecDepth 100000 in
set_option maxHeartbeats 4000000 in
theorem o_X10_range {K : gK} (S : Cx K RX10 cX10_range 3 4 127) {c0 : Nat} (k0 : kd c0 (10 + 10, 0)) (a1 : Int32) (a2 : Int32) (h : Hp) {o : Int32 × Hp} (hyp : s_X10_range c0 a1 a2 h = some o) (F : Rt K (some .int) (some (.int o.1)) o.2) : Go K 0 [(0, .ref (ad K c0)), (1, .int a1), (2, .int a2)] [] h := by
  unfold s_X10_range at hyp
  refine g_aload_n (pc := 0) 0 S dX10_range_0 rfl ?_
  refine g_iload_n (pc := 1) 1 S dX10_range_1 rfl ?_
  refine g_bind hyp (fun y1 hy1 hyp => ?_)
  refine g_callV (pc := 2) (As := [.int a1]) (rest := []) S dX10_range_2 k0 rfl tw_1014 tw_1015 tw_34 mw_X10_isForm (m_X10_isForm k0 a1 h hy1) rfl rfl (Nat.le_of_ble_eq_true rfl) (Nat.le_of_ble_eq_true rfl) (Nat.le_of_ble_eq_true rfl) ?_
  refine g_if_eq (pc := 5) (tgt := 17) S dX10_range_5 (by decide) hyp (fun hyp => ?_) (fun hyp => ?_)
  · refine g_iconst (pc := 17) (v := (-1 : Int32)) S dX10_range_17 (by decide) ?_
    have hyp := Option.some.inj hyp
    subst hyp
    exact g_iret (pc := 18) S F dX10_range_18
  · refine g_iload_n (pc := 8) 2 S dX10_range_8 rfl ?_
    refine g_iconst (pc := 9) (v := (0 : Int32)) S dX10_range_9 (by decide) ?_
    refine g_iconst (pc := 10) (v := (1 : Int32)) S dX10_range_10 (by decide) ?_
    refine g_bind hyp (fun y2 hy2 hyp => ?_)
    refine g_callS (pc := 11) (As := [.int a2, .int (0 : Int32), .int (1 : Int32)]) (rest := []) S dX10_range_11 tw_990 tw_991 mw_X10_in (m_X10_in  a2 (0 : Int32) (1 : Int32) h hy2) rfl rfl (Nat.le_of_ble_eq_true rfl) (Nat.le_of_ble_eq_true rfl) (Nat.le_of_ble_eq_true rfl) ?_
    refine g_if_ne (pc := 14) (tgt := 19) S dX10_range_14 (by decide) hyp (fun hyp => ?_) (fun hyp => ?_)
    · refine g_iconst (pc := 17) (v := (-1 : Int32)) S dX10_range_17 (by decide) ?_
      have hyp := Option.some.inj hyp
      subst hyp
      exact g_iret (pc := 18) S F dX10_range_18
    · refine g_aload_n (pc := 19) 0 S dX10_range_19 rfl ?_
      refine g_aload_n (pc := 20) 0 S dX10_range_20 rfl ?_
      refine g_bind hyp (fun y3 hy3 hyp => ?_)
      refine g_callV (pc := 21) (As := []) (rest := [.ref (ad K c0)]) S dX10_range_21 k0 rfl tw_1049 tw_1050 tw_39 mw_X10_allBounds (m_X10_allBounds k0  h hy3) rfl rfl (Nat.le_of_ble_eq_true rfl) (Nat.le_of_ble_eq_true rfl) (Nat.le_of_ble_eq_true rfl) ?_
      refine g_iload_n (pc := 24) 1 S dX10_range_24 rfl ?_
      refine g_bind hyp (fun y4 hy4 hyp => ?_)
      refine g_callV (pc := 25) (As := [.int y3, .int a1]) (rest := []) S dX10_range_25 k0 rfl tw_1116 tw_1117 tw_56 mw_X10_seesForm (m_X10_seesForm k0 y3 a1 h hy4) rfl rfl (Nat.le_of_ble_eq_true rfl) (Nat.le_of_ble_eq_true rfl) (Nat.le_of_ble_eq_true rfl) ?_
      refine g_aload_n (pc := 28) 0 S dX10_range_28 rfl ?_
      refine g_getI (pc := 29) S dX10_range_29 fl_X10_149 k0 ?_
      refine g_if_eq (pc := 32) (tgt := 38) S dX10_range_32 (by decide) hyp (fun hyp => ?_) (fun hyp => ?_)
      · refine g_iload_n (pc := 38) 2 S dX10_range_38 rfl ?_
        refine g_if_ne (pc := 39) (tgt := 79) S dX10_range_39 (by decide) hyp (fun hyp => ?_) (fun hyp => ?_)
        · refine g_aload_n (pc := 42) 0 S dX10_range_42 rfl ?_
          refine g_getI (pc := 43) S dX10_range_43 fl_X10_167 k0 ?_
          refine g_if_eq (pc := 46) (tgt := 76) S dX10_range_46 (by decide) hyp (fun hyp => ?_) (fun hyp => ?_)
          · refine g_bipush (pc := 76) (v := (-9 : Int32)) S dX10_range_76 (by decide) ?_
            have hyp := Option.some.inj hyp
            subst hyp
            exact g_iret (pc := 78) S F dX10_range_78
          · refine g_aload_n (pc := 49) 0 S dX10_range_49 rfl ?_
            refine g_aload_n (pc := 50) 0 S dX10_range_50 rfl ?_
            refine g_getJ (pc := 51) S dX10_range_51 fl_X10_173 k0 ?_
            refine g_aload_n (pc := 54) 0 S dX10_range_54 rfl ?_
            refine g_getJ (pc := 55) S dX10_range_55 fl_X10_170 k0 ?_
            refine g_aload_n (pc := 58) 0 S dX10_range_58 rfl ?_
            refine g_getI (pc := 59) S dX10_range_59 fl_X10_176 k0 ?_
            refine g_if_eq (pc := 62) (tgt := 69) S dX10_range_62 (by decide) hyp (fun hyp => ?_) (fun hyp => ?_)
            · refine g_iconst (pc := 69) (v := (1 : Int32)) S dX10_range_69 (by decide) ?_
              exact g_sub [] rfl (o_X10_range_b70 S k0 (1 : Int32) (y4.2 c0 22) (y4.2 c0 21) y4 hyp F)
            · refine g_iconst (pc := 65) (v := (0 : Int32)) S dX10_range_65 (by decide) ?_
              refine g_goto (pc := 66) (tgt := 70) S dX10_range_66 (by decide) ?_
              exact g_sub [] rfl (o_X10_range_b70 S k0 (0 : Int32) (y4.2 c0 22) (y4.2 c0 21) y4 hyp F)
        · refine g_aload_n (pc := 79) 0 S dX10_range_79 rfl ?_
          refine g_getI (pc := 80) S dX10_range_80 fl_X10_153 k0 ?_
          refine g_if_eq (pc := 83) (tgt := 113) S dX10_range_83 (by decide) hyp (fun hyp => ?_) (fun hyp => ?_)
          · refine g_bipush (pc := 113) (v := (-9 : Int32)) S dX10_range_113 (by decide) ?_
            have hyp := Option.some.inj hyp
            subst hyp
            exact g_iret (pc := 115) S F dX10_range_115
          · refine g_aload_n (pc := 86) 0 S dX10_range_86 rfl ?_
            refine g_aload_n (pc := 87) 0 S dX10_range_87 rfl ?_
            refine g_getJ (pc := 88) S dX10_range_88 fl_X10_159 k0 ?_
            refine g_aload_n (pc := 91) 0 S dX10_range_91 rfl ?_
            refine g_getJ (pc := 92) S dX10_range_92 fl_X10_156 k0 ?_
            refine g_aload_n (pc := 95) 0 S dX10_range_95 rfl ?_
            refine g_getI (pc := 96) S dX10_range_96 fl_X10_164 k0 ?_
            refine g_if_eq (pc := 99) (tgt := 106) S dX10_range_99 (by decide) hyp (fun hyp => ?_) (fun hyp => ?_)
            · refine g_iconst (pc := 106) (v := (1 : Int32)) S dX10_range_106 (by decide) ?_
              exact g_sub [] rfl (o_X10_range_b107 S k0 (1 : Int32) (y4.2 c0 26) (y4.2 c0 25) y4 hyp F)
            · refine g_iconst (pc := 102) (v := (0 : Int32)) S dX10_range_102 (by decide) ?_
              refine g_goto (pc := 103) (tgt := 107) S dX10_range_103 (by decide) ?_
              exact g_sub [] rfl (o_X10_range_b107 S k0 (0 : Int32) (y4.2 c0 26) (y4.2 c0 25) y4 hyp F)
      · refine g_bipush (pc := 35) (v := (-2 : Int32)) S dX10_range_35 (by decide) ?_
        have hyp := Option.some.inj hyp
        subst hyp
        exact g_iret (pc := 37) S F dX10_range_37
theorem m_X10_range {l : Launch} {D : va_G} {cT : Nat → ClassId} {aD : Nat → Nat} {c0 : Nat} (k0 : kd c0 (10 + 10, 0)) (a1 : Int32) (a2 : Int32) (h : Hp) {o : Int32 × Hp} (hyp : s_X10_range c0 a1 a2 h = some o) : Ok l D cT aD yX10_range cX10_range 3 (some .int) 4 127 [.ref (aD c0), .int a1, .int a2] h (some (.int o.1)) o.2 :=
  Ok.of (by decide +kernel) rfl (Nat.le_of_ble_eq_true rfl) (fun K e1 e2 e3 e4 S F => by subst e1; exact o_X10_range S k0 a1 a2 h hyp F)
-- BoundProofsModel isAtMost (IZ)Z
noncomputable def s_X10_isAtMost_b23 (c0 : Nat) (a2 : Int32) (t0 : Int64) (h : Hp) : Option (Int32) :=
  if t0 < (0 : Int64) then (some (1 : Int32))
  else (if t0 = (0 : Int64) then (if (h.1 c0 27) = 0 then (if a2 = 0 then (some (1 : Int32))
  else (some (0 : Int32)))
  else (some (1 : Int32)))
  else (some (0 : Int32)))
noncomputable def s_X10_isAtMost (c0 : Nat) (a1 : Int32) (a2 : Int32) (h : Hp) : Option (Int32) :=
  if (h.1 c0 24) = 0 then (s_X10_isAtMost_b23 c0 a2 (1 : Int64) h)
  else (s_X10_isAtMost_b23 c0 a2 ((h.2 c0 25) - ((a1).toInt64 * (h.2 c0 26))) h)
set_option maxRecDepth 100000 in
set_option maxHeartbeats 4000000 in
theorem o_X10_isAtMost_b23 {K : gK} (S : Cx K RX10 cX10_isAtMost 5 0 0) {c0 : Nat} (k0 : kd c0 (10 + 10, 0)) (a2 : Int32) (t0 : Int64) (h : Hp) {o : Int32} (hyp : s_X10_isAtMost_b23 c0 a2 t0 h = some o) (F : Rt K (some .boolean) (some (.int o)) h) : Go K 23 [(0, .ref (ad K c0)), (2, .int a2)] [.long t0] h := by
  unfold s_X10_isAtMost_b23 at hyp
  refine g_lstore_n (pc := 23) (lv' := [(3, .long t0), (0, .ref (ad K c0)), (2, .int a2)]) S dX10_isAtMost_23 rfl (by decide) rfl ?_
  refine g_lload_n (pc := 24) 0 S dX10_isAtMost_24 rfl ?_
  refine g_lconst (pc := 25) (v := (0 : Int64)) S dX10_isAtMost_25 (by decide) ?_
  refine g_lcmp_lt (pc := 26) (tgt := 47) S dX10_isAtMost_26 dX10_isAtMost_27 (by decide) hyp (fun hyp => ?_) (fun hyp => ?_)
  · refine g_iconst (pc := 47) (v := (1 : Int32)) S dX10_isAtMost_47 (by decide) ?_
    refine g_goto (pc := 48) (tgt := 52) S dX10_isAtMost_48 (by decide) ?_
    have hyp := Option.some.inj hyp
    subst hyp
    exact g_zret (pc := 52) S F dX10_isAtMost_52 (Or.inr rfl)
  · refine g_lload_n (pc := 30) 0 S dX10_isAtMost_30 rfl ?_
    refine g_lconst (pc := 31) (v := (0 : Int64)) S dX10_isAtMost_31 (by decide) ?_
    refine g_lcmp_ne (pc := 32) (tgt := 51) S dX10_isAtMost_32 dX10_isAtMost_33 (by decide) hyp (fun hyp => ?_) (fun hyp => ?_)
    · refine g_aload_n (pc := 36) 1 S dX10_isAtMost_36 rfl ?_
      refine g_getI (pc := 37) S dX10_isAtMost_37 fl_X10_164 k0 ?_
      refine g_if_ne (pc := 40) (tgt := 47) S dX10_isAtMost_40 (by decide) hyp (fun hyp => ?_) (fun hyp => ?_)
      · refine g_iload_n (pc := 43) 2 S dX10_isAtMost_43 rfl ?_
        refine g_if_ne (pc := 44) (tgt := 51) S dX10_isAtMost_44 (by decide) hyp (fun hyp => ?_) (fun hyp => ?_)
        · refine g_iconst (pc := 47) (v := (1 : Int32)) S dX10_isAtMost_47 (by decide) ?_
          refine g_goto (pc := 48) (tgt := 52) S dX10_isAtMost_48 (by decide) ?_
          have hyp := Option.some.inj hyp
          subst hyp
          exact g_zret (pc := 52) S F dX10_isAtMost_52 (Or.inr rfl)
        · refine g_iconst (pc := 51) (v := (0 : Int32)) S dX10_isAtMost_51 (by decide) ?_
          have hyp := Option.some.inj hyp
          subst hyp
          exact g_zret (pc := 52) S F dX10_isAtMost_52 (Or.inl rfl)
      · refine g_iconst (pc := 47) (v := (1 : Int32)) S dX10_isAtMost_47 (by decide) ?_
        refine g_goto (pc := 48) (tgt := 52) S dX10_isAtMost_48 (by decide) ?_
        have hyp := Option.some.inj hyp
        subst hyp
        exact g_zret (pc := 52) S F dX10_isAtMost_52 (Or.inr rfl)
    · refine g_iconst (pc := 51) (v := (0 : Int32)) S dX10_isAtMost_51 (by decide) ?_
      have hyp := Option.some.inj hyp
      subst hyp
      exact g_zret (pc := 52) S F dX10_isAtMost_52 (Or.inl rfl)
set_option maxRecDepth 100000 in
set_option maxHeartbeats 4000000 in
theorem o_X10_isAtMost {K : gK} (S : Cx K RX10 cX10_isAtMost 5 0 0) {c0 : Nat} (k0 : kd c0 (10 + 10, 0)) (a1 : Int32) (a2 : Int32) (h : Hp) {o : Int32} (hyp : s_X10_isAtMost c0 a1 a2 h = some o) (F : Rt K (some .boolean) (some (.int o)) h) : Go K 0 [(0, .ref (ad K c0)), (1, .int a1), (2, .int a2)] [] h := by
  unfold s_X10_isAtMost at hyp
  refine g_aload_n (pc := 0) 0 S dX10_isAtMost_0 rfl ?_
  refine g_getI (pc := 1) S dX10_isAtMost_1 fl_X10_153 k0 ?_
  refine g_if_eq (pc := 4) (tgt := 22) S dX10_isAtMost_4 (by decide) hyp (fun hyp => ?_) (fun hyp => ?_)
  · refine g_lconst (pc := 22) (v := (1 : Int64)) S dX10_isAtMost_22 (by decide) ?_
    exact g_sub [0, 2] rfl (o_X10_isAtMost_b23 S k0 a2 (1 : Int64) h hyp F)
  · refine g_aload_n (pc := 7) 0 S dX10_isAtMost_7 rfl ?_
    refine g_getJ (pc := 8) S dX10_isAtMost_8 fl_X10_159 k0 ?_
    refine g_iload_n (pc := 11) 1 S dX10_isAtMost_11 rfl ?_
    refine g_i2l (pc := 12) S dX10_isAtMost_12 ?_
    refine g_aload_n (pc := 13) 0 S dX10_isAtMost_13 rfl ?_
    refine g_getJ (pc := 14) S dX10_isAtMost_14 fl_X10_156 k0 ?_
    refine g_lmul (pc := 17) S dX10_isAtMost_17 ?_
    refine g_lsub (pc := 18) S dX10_isAtMost_18 ?_
    refine g_goto (pc := 19) (tgt := 23) S dX10_isAtMost_19 (by decide) ?_
    exact g_sub [0, 2] rfl (o_X10_isAtMost_b23 S k0 a2 ((h.2 c0 25) - ((a1).toInt64 * (h.2 c0 26))) h hyp F)
theorem m_X10_isAtMost {l : Launch} {D : va_G} {cT : Nat → ClassId} {aD : Nat → Nat} {c0 : Nat} (k0 : kd c0 (10 + 10, 0)) (a1 : Int32) (a2 : Int32) (h : Hp) {o : Int32} (hyp : s_X10_isAtMost c0 a1 a2 h = some o) : Ok l D cT aD yX10_isAtMost cX10_isAtMost 5 (some .boolean) 0 0 [.ref (aD c0), .int a1, .int a2] h (some (.int o)) h :=
  Ok.of (by decide +kernel) rfl (Nat.le_of_ble_eq_true rfl) (fun K e1 e2 e3 e4 S F => by subst e1; exact o_X10_isAtMost S k0 a1 a2 h hyp F)
-- BoundProofsModel isAtLeast (IZ)Z
noncomputable def s_X10_isAtLeast_b25 (c0 : Nat) (a2 : Int32) (t0 : Int64) (h : Hp) : Option (Int32) :=
  if (0 : Int64) < t0 then (some (1 : Int32))
  else (if t0 = (0 : Int64) then (if (h.1 c0 23) = 0 then (if a2 = 0 then (some (1 : Int32))
  else (some (0 : Int32)))
  else (some (1 : Int32)))
  else (some (0 : Int32)))
noncomputable def s_X10_isAtLeast (c0 : Nat) (a1 : Int32) (a2 : Int32) (h : Hp) : Option (Int32) :=
  if (h.1 c0 20) = 0 then (s_X10_isAtLeast_b25 c0 a2 (-1 : Int64) h)
  else (s_X10_isAtLeast_b25 c0 a2 ((h.2 c0 21) - ((a1).toInt64 * (h.2 c0 22))) h)
set_option maxRecDepth 100000 in
set_option maxHeartbeats 4000000 in
theorem o_X10_isAtLeast_b25 {K : gK} (S : Cx K RX10 cX10_isAtLeast 5 0 0) {c0 : Nat} (k0 : kd c0 (10 + 10, 0)) (a2 : Int32) (t0 : Int64) (h : Hp) {o : Int32} (hyp : s_X10_isAtLeast_b25 c0 a2 t0 h = some o) (F : Rt K (some .boolean) (some (.int o)) h) : Go K 25 [(0, .ref (ad K c0)), (2, .int a2)] [.long t0] h := by
  unfold s_X10_isAtLeast_b25 at hyp
  refine g_lstore_n (pc := 25) (lv' := [(3, .long t0), (0, .ref (ad K c0)), (2, .int a2)]) S dX10_isAtLeast_25 rfl (by decide) rfl ?_
  refine g_lload_n (pc := 26) 0 S dX10_isAtLeast_26 rfl ?_
  refine g_lconst (pc := 27) (v := (0 : Int64)) S dX10_isAtLeast_27 (by decide) ?_
  refine g_lcmp_gt (pc := 28) (tgt := 49) S dX10_isAtLeast_28 dX10_isAtLeast_29 (by decide) hyp (fun hyp => ?_) (fun hyp => ?_)
  · refine g_iconst (pc := 49) (v := (1 : Int32)) S dX10_isAtLeast_49 (by decide) ?_
    refine g_goto (pc := 50) (tgt := 54) S dX10_isAtLeast_50 (by decide) ?_
    have hyp := Option.some.inj hyp
    subst hyp
    exact g_zret (pc := 54) S F dX10_isAtLeast_54 (Or.inr rfl)
  · refine g_lload_n (pc := 32) 0 S dX10_isAtLeast_32 rfl ?_
    refine g_lconst (pc := 33) (v := (0 : Int64)) S dX10_isAtLeast_33 (by decide) ?_
    refine g_lcmp_ne (pc := 34) (tgt := 53) S dX10_isAtLeast_34 dX10_isAtLeast_35 (by decide) hyp (fun hyp => ?_) (fun hyp => ?_)
    · refine g_aload_n (pc := 38) 1 S dX10_isAtLeast_38 rfl ?_
      refine g_getI (pc := 39) S dX10_isAtLeast_39 fl_X10_176 k0 ?_
      refine g_if_ne (pc := 42) (tgt := 49) S dX10_isAtLeast_42 (by decide) hyp (fun hyp => ?_) (fun hyp => ?_)
      · refine g_iload_n (pc := 45) 2 S dX10_isAtLeast_45 rfl ?_
        refine g_if_ne (pc := 46) (tgt := 53) S dX10_isAtLeast_46 (by decide) hyp (fun hyp => ?_) (fun hyp => ?_)
        · refine g_iconst (pc := 49) (v := (1 : Int32)) S dX10_isAtLeast_49 (by decide) ?_
          refine g_goto (pc := 50) (tgt := 54) S dX10_isAtLeast_50 (by decide) ?_
          have hyp := Option.some.inj hyp
          subst hyp
          exact g_zret (pc := 54) S F dX10_isAtLeast_54 (Or.inr rfl)
        · refine g_iconst (pc := 53) (v := (0 : Int32)) S dX10_isAtLeast_53 (by decide) ?_
          have hyp := Option.some.inj hyp
          subst hyp
          exact g_zret (pc := 54) S F dX10_isAtLeast_54 (Or.inl rfl)
      · refine g_iconst (pc := 49) (v := (1 : Int32)) S dX10_isAtLeast_49 (by decide) ?_
        refine g_goto (pc := 50) (tgt := 54) S dX10_isAtLeast_50 (by decide) ?_
        have hyp := Option.some.inj hyp
        subst hyp
        exact g_zret (pc := 54) S F dX10_isAtLeast_54 (Or.inr rfl)
    · refine g_iconst (pc := 53) (v := (0 : Int32)) S dX10_isAtLeast_53 (by decide) ?_
      have hyp := Option.some.inj hyp
      subst hyp
      exact g_zret (pc := 54) S F dX10_isAtLeast_54 (Or.inl rfl)
set_option maxRecDepth 100000 in
set_option maxHeartbeats 4000000 in
theorem o_X10_isAtLeast {K : gK} (S : Cx K RX10 cX10_isAtLeast 5 0 0) {c0 : Nat} (k0 : kd c0 (10 + 10, 0)) (a1 : Int32) (a2 : Int32) (h : Hp) {o : Int32} (hyp : s_X10_isAtLeast c0 a1 a2 h = some o) (F : Rt K (some .boolean) (some (.int o)) h) : Go K 0 [(0, .ref (ad K c0)), (1, .int a1), (2, .int a2)] [] h := by
  unfold s_X10_isAtLeast at hyp
  refine g_aload_n (pc := 0) 0 S dX10_isAtLeast_0 rfl ?_
  refine g_getI (pc := 1) S dX10_isAtLeast_1 fl_X10_167 k0 ?_
  refine g_if_eq (pc := 4) (tgt := 22) S dX10_isAtLeast_4 (by decide) hyp (fun hyp => ?_) (fun hyp => ?_)
  · refine g_ldc2 (pc := 22) (v := (-1 : Int64)) S dX10_isAtLeast_22 tw_1079 ?_
    exact g_sub [0, 2] rfl (o_X10_isAtLeast_b25 S k0 a2 (-1 : Int64) h hyp F)
  · refine g_aload_n (pc := 7) 0 S dX10_isAtLeast_7 rfl ?_
    refine g_getJ (pc := 8) S dX10_isAtLeast_8 fl_X10_173 k0 ?_
    refine g_iload_n (pc := 11) 1 S dX10_isAtLeast_11 rfl ?_
    refine g_i2l (pc := 12) S dX10_isAtLeast_12 ?_
    refine g_aload_n (pc := 13) 0 S dX10_isAtLeast_13 rfl ?_
    refine g_getJ (pc := 14) S dX10_isAtLeast_14 fl_X10_170 k0 ?_
    refine g_lmul (pc := 17) S dX10_isAtLeast_17 ?_
    refine g_lsub (pc := 18) S dX10_isAtLeast_18 ?_
    refine g_goto (pc := 19) (tgt := 25) S dX10_isAtLeast_19 (by decide) ?_
    exact g_sub [0, 2] rfl (o_X10_isAtLeast_b25 S k0 a2 ((h.2 c0 21) - ((a1).toInt64 * (h.2 c0 22))) h hyp F)
theorem m_X10_isAtLeast {l : Launch} {D : va_G} {cT : Nat → ClassId} {aD : Nat → Nat} {c0 : Nat} (k0 : kd c0 (10 + 10, 0)) (a1 : Int32) (a2 : Int32) (h : Hp) {o : Int32} (hyp : s_X10_isAtLeast c0 a1 a2 h = some o) : Ok l D cT aD yX10_isAtLeast cX10_isAtLeast 5 (some .boolean) 0 0 [.ref (aD c0), .int a1, .int a2] h (some (.int o)) h :=
  Ok.of (by decide +kernel) rfl (Nat.le_of_ble_eq_true rfl) (fun K e1 e2 e3 e4 S F => by subst e1; exact o_X10_isAtLeast S k0 a1 a2 h hyp F)
-- BoundProofsModel doesFollow (IIII)Z
noncomputable def s_X10_doesFollow_b61 (c0 : Nat) (t0 : Int32) (t1 : Int32) (h : Hp) : Option (Int32 × Hp) :=
  (s_X10_isAtMost c0 t1 t0 h).bind fun y2 =>
  ckB y2 <|
  some (y2, h)
noncomputable def s_X10_doesFollow_b78 (c0 : Nat) (t0 : Int32) (t1 : Int32) (h : Hp) : Option (Int32 × Hp) :=
  (s_X10_isAtLeast c0 t1 t0 h).bind fun y3 =>
  ckB y3 <|
  some (y3, h)
noncomputable def s_X10_doesFollow (c0 : Nat) (a1 : Int32) (a2 : Int32) (a3 : Int32) (a4 : Int32) (h : Hp) : Option (Int32 × Hp) :=
  (s_X10_seesForm c0 a1 a2 h).bind fun y1 =>
  if (y1.1 c0 28) = 0 then (if a3 = (0 : Int32) then (if a3 = (1 : Int32) then (s_X10_doesFollow_b61 c0 (1 : Int32) a4 y1)
  else (s_X10_doesFollow_b61 c0 (0 : Int32) a4 y1))
  else if a3 = (1 : Int32) then (if a3 = (1 : Int32) then (s_X10_doesFollow_b61 c0 (1 : Int32) a4 y1)
  else (s_X10_doesFollow_b61 c0 (0 : Int32) a4 y1))
  else if a3 = (2 : Int32) then (if a3 = (3 : Int32) then (s_X10_doesFollow_b78 c0 (1 : Int32) a4 y1)
  else (s_X10_doesFollow_b78 c0 (0 : Int32) a4 y1))
  else if a3 = (3 : Int32) then (if a3 = (3 : Int32) then (s_X10_doesFollow_b78 c0 (1 : Int32) a4 y1)
  else (s_X10_doesFollow_b78 c0 (0 : Int32) a4 y1))
  else ((s_X10_isAtMost c0 a4 (0 : Int32) y1).bind fun y4 =>
  if y4 = 0 then (some ((0 : Int32), y1))
  else ((s_X10_isAtLeast c0 a4 (0 : Int32) y1).bind fun y5 =>
  if y5 = 0 then (some ((0 : Int32), y1))
  else (some ((1 : Int32), y1)))))
  else (some ((1 : Int32), y1))
set_option maxRecDepth 100000 in
set_option maxHeartbeats 4000000 in
theorem o_X10_doesFollow_b61 {K : gK} (S : Cx K RX10 cX10_doesFollow 5 4 127) {c0 : Nat} (k0 : kd c0 (10 + 10, 0)) (t0 : Int32) (t1 : Int32) (h : Hp) {o : Int32 × Hp} (hyp : s_X10_doesFollow_b61 c0 t0 t1 h = some o) (F : Rt K (some .boolean) (some (.int o.1)) o.2) : Go K 61 [] [.int t0, .int t1, .ref (ad K c0)] h := by
  unfold s_X10_doesFollow_b61 at hyp
  refine g_bind hyp (fun y2 hy2 hyp => ?_)
  refine g_callV (pc := 61) (As := [.int t1, .int t0]) (rest := []) S dX10_doesFollow_61 k0 rfl tw_1152 tw_1153 tw_63 mw_X10_isAtMost (m_X10_isAtMost k0 t1 t0 h hy2) rfl rfl (Nat.le_of_ble_eq_true rfl) (Nat.le_of_ble_eq_true rfl) (Nat.le_of_ble_eq_true rfl) ?_
  refine g_ckB hyp (fun hz hyp => ?_)
  have hyp := Option.some.inj hyp
  subst hyp
  exact g_zret (pc := 64) S F dX10_doesFollow_64 hz
set_option maxRecDepth 100000 in
set_option maxHeartbeats 4000000 in
theorem o_X10_doesFollow_b78 {K : gK} (S : Cx K RX10 cX10_doesFollow 5 4 127) {c0 : Nat} (k0 : kd c0 (10 + 10, 0)) (t0 : Int32) (t1 : Int32) (h : Hp) {o : Int32 × Hp} (hyp : s_X10_doesFollow_b78 c0 t0 t1 h = some o) (F : Rt K (some .boolean) (some (.int o.1)) o.2) : Go K 78 [] [.int t0, .int t1, .ref (ad K c0)] h := by
  unfold s_X10_doesFollow_b78 at hyp
  refine g_bind hyp (fun y3 hy3 hyp => ?_)
  refine g_callV (pc := 78) (As := [.int t1, .int t0]) (rest := []) S dX10_doesFollow_78 k0 rfl tw_1155 tw_1156 tw_64 mw_X10_isAtLeast (m_X10_isAtLeast k0 t1 t0 h hy3) rfl rfl (Nat.le_of_ble_eq_true rfl) (Nat.le_of_ble_eq_true rfl) (Nat.le_of_ble_eq_true rfl) ?_
  refine g_ckB hyp (fun hz hyp => ?_)
  have hyp := Option.some.inj hyp
  subst hyp
  exact g_zret (pc := 81) S F dX10_doesFollow_81 hz
set_option maxRecDepth 100000 in
set_option maxHeartbeats 4000000 in
theorem o_X10_doesFollow {K : gK} (S : Cx K RX10 cX10_doesFollow 5 4 127) {c0 : Nat} (k0 : kd c0 (10 + 10, 0)) (a1 : Int32) (a2 : Int32) (a3 : Int32) (a4 : Int32) (h : Hp) {o : Int32 × Hp} (hyp : s_X10_doesFollow c0 a1 a2 a3 a4 h = some o) (F : Rt K (some .boolean) (some (.int o.1)) o.2) : Go K 0 [(0, .ref (ad K c0)), (1, .int a1), (2, .int a2), (3, .int a3), (4, .int a4)] [] h := by
  unfold s_X10_doesFollow at hyp
  refine g_aload_n (pc := 0) 0 S dX10_doesFollow_0 rfl ?_
  refine g_iload_n (pc := 1) 1 S dX10_doesFollow_1 rfl ?_
  refine g_iload_n (pc := 2) 2 S dX10_doesFollow_2 rfl ?_
  refine g_bind hyp (fun y1 hy1 hyp => ?_)
  refine g_callV (pc := 3) (As := [.int a1, .int a2]) (rest := []) S dX10_doesFollow_3 k0 rfl tw_1116 tw_1117 tw_56 mw_X10_seesForm (m_X10_seesForm k0 a1 a2 h hy1) rfl rfl (Nat.le_of_ble_eq_true rfl) (Nat.le_of_ble_eq_true rfl) (Nat.le_of_ble_eq_true rfl) ?_
  refine g_aload_n (pc := 6) 0 S dX10_doesFollow_6 rfl ?_
  refine g_getI (pc := 7) S dX10_doesFollow_7 fl_X10_149 k0 ?_
  refine g_if_eq (pc := 10) (tgt := 15) S dX10_doesFollow_10 (by decide) hyp (fun hyp => ?_) (fun hyp => ?_)
  · refine g_iload_n (pc := 15) 3 S dX10_doesFollow_15 rfl ?_
    refine g_tab1 hyp (fun e hyp => ?_) (fun n0 hyp => ?_)
    · refine g_tabK (pc := 16) (tgt := 48) S dX10_doesFollow_16 e (by decide) (by decide) rfl (by decide) ?_
      refine g_aload_n (pc := 48) 0 S dX10_doesFollow_48 rfl ?_
      refine g_iload (pc := 49) 4 S dX10_doesFollow_49 rfl ?_
      refine g_iload_n (pc := 51) 3 S dX10_doesFollow_51 rfl ?_
      refine g_iconst (pc := 52) (v := (1 : Int32)) S dX10_doesFollow_52 (by decide) ?_
      refine g_icmp_ne (pc := 53) (tgt := 60) S dX10_doesFollow_53 (by decide) hyp (fun hyp => ?_) (fun hyp => ?_)
      · refine g_iconst (pc := 56) (v := (1 : Int32)) S dX10_doesFollow_56 (by decide) ?_
        refine g_goto (pc := 57) (tgt := 61) S dX10_doesFollow_57 (by decide) ?_
        exact g_sub [] rfl (o_X10_doesFollow_b61 S k0 (1 : Int32) a4 y1 hyp F)
      · refine g_iconst (pc := 60) (v := (0 : Int32)) S dX10_doesFollow_60 (by decide) ?_
        exact g_sub [] rfl (o_X10_doesFollow_b61 S k0 (0 : Int32) a4 y1 hyp F)
    refine g_tab1 hyp (fun e hyp => ?_) (fun n1 hyp => ?_)
    · refine g_tabK (pc := 16) (tgt := 48) S dX10_doesFollow_16 e (by decide) (by decide) rfl (by decide) ?_
      refine g_aload_n (pc := 48) 0 S dX10_doesFollow_48 rfl ?_
      refine g_iload (pc := 49) 4 S dX10_doesFollow_49 rfl ?_
      refine g_iload_n (pc := 51) 3 S dX10_doesFollow_51 rfl ?_
      refine g_iconst (pc := 52) (v := (1 : Int32)) S dX10_doesFollow_52 (by decide) ?_
      refine g_icmp_ne (pc := 53) (tgt := 60) S dX10_doesFollow_53 (by decide) hyp (fun hyp => ?_) (fun hyp => ?_)
      · refine g_iconst (pc := 56) (v := (1 : Int32)) S dX10_doesFollow_56 (by decide) ?_
        refine g_goto (pc := 57) (tgt := 61) S dX10_doesFollow_57 (by decide) ?_
        exact g_sub [] rfl (o_X10_doesFollow_b61 S k0 (1 : Int32) a4 y1 hyp F)
      · refine g_iconst (pc := 60) (v := (0 : Int32)) S dX10_doesFollow_60 (by decide) ?_
        exact g_sub [] rfl (o_X10_doesFollow_b61 S k0 (0 : Int32) a4 y1 hyp F)
    refine g_tab1 hyp (fun e hyp => ?_) (fun n2 hyp => ?_)
    · refine g_tabK (pc := 16) (tgt := 65) S dX10_doesFollow_16 e (by decide) (by decide) rfl (by decide) ?_
      refine g_aload_n (pc := 65) 0 S dX10_doesFollow_65 rfl ?_
      refine g_iload (pc := 66) 4 S dX10_doesFollow_66 rfl ?_
      refine g_iload_n (pc := 68) 3 S dX10_doesFollow_68 rfl ?_
      refine g_iconst (pc := 69) (v := (3 : Int32)) S dX10_doesFollow_69 (by decide) ?_
      refine g_icmp_ne (pc := 70) (tgt := 77) S dX10_doesFollow_70 (by decide) hyp (fun hyp => ?_) (fun hyp => ?_)
      · refine g_iconst (pc := 73) (v := (1 : Int32)) S dX10_doesFollow_73 (by decide) ?_
        refine g_goto (pc := 74) (tgt := 78) S dX10_doesFollow_74 (by decide) ?_
        exact g_sub [] rfl (o_X10_doesFollow_b78 S k0 (1 : Int32) a4 y1 hyp F)
      · refine g_iconst (pc := 77) (v := (0 : Int32)) S dX10_doesFollow_77 (by decide) ?_
        exact g_sub [] rfl (o_X10_doesFollow_b78 S k0 (0 : Int32) a4 y1 hyp F)
    refine g_tab1 hyp (fun e hyp => ?_) (fun n3 hyp => ?_)
    · refine g_tabK (pc := 16) (tgt := 65) S dX10_doesFollow_16 e (by decide) (by decide) rfl (by decide) ?_
      refine g_aload_n (pc := 65) 0 S dX10_doesFollow_65 rfl ?_
      refine g_iload (pc := 66) 4 S dX10_doesFollow_66 rfl ?_
      refine g_iload_n (pc := 68) 3 S dX10_doesFollow_68 rfl ?_
      refine g_iconst (pc := 69) (v := (3 : Int32)) S dX10_doesFollow_69 (by decide) ?_
      refine g_icmp_ne (pc := 70) (tgt := 77) S dX10_doesFollow_70 (by decide) hyp (fun hyp => ?_) (fun hyp => ?_)
      · refine g_iconst (pc := 73) (v := (1 : Int32)) S dX10_doesFollow_73 (by decide) ?_
        refine g_goto (pc := 74) (tgt := 78) S dX10_doesFollow_74 (by decide) ?_
        exact g_sub [] rfl (o_X10_doesFollow_b78 S k0 (1 : Int32) a4 y1 hyp F)
      · refine g_iconst (pc := 77) (v := (0 : Int32)) S dX10_doesFollow_77 (by decide) ?_
        exact g_sub [] rfl (o_X10_doesFollow_b78 S k0 (0 : Int32) a4 y1 hyp F)
    refine g_tabOut (pc := 16) (tgt := 82) S dX10_doesFollow_16 (by have q0 := lv_neT n0 (a := 0) rfl; have q1 := lv_neT n1 (a := 1) rfl; have q2 := lv_neT n2 (a := 2) rfl; have q3 := lv_neT n3 (a := 3) rfl; omega) (by decide) ?_
    refine g_aload_n (pc := 82) 0 S dX10_doesFollow_82 rfl ?_
    refine g_iload (pc := 83) 4 S dX10_doesFollow_83 rfl ?_
    refine g_iconst (pc := 85) (v := (0 : Int32)) S dX10_doesFollow_85 (by decide) ?_
    refine g_bind hyp (fun y4 hy4 hyp => ?_)
    refine g_callV (pc := 86) (As := [.int a4, .int (0 : Int32)]) (rest := []) S dX10_doesFollow_86 k0 rfl tw_1152 tw_1153 tw_63 mw_X10_isAtMost (m_X10_isAtMost k0 a4 (0 : Int32) y1 hy4) rfl rfl (Nat.le_of_ble_eq_true rfl) (Nat.le_of_ble_eq_true rfl) (Nat.le_of_ble_eq_true rfl) ?_
    refine g_if_eq (pc := 89) (tgt := 106) S dX10_doesFollow_89 (by decide) hyp (fun hyp => ?_) (fun hyp => ?_)
    · refine g_iconst (pc := 106) (v := (0 : Int32)) S dX10_doesFollow_106 (by decide) ?_
      have hyp := Option.some.inj hyp
      subst hyp
      exact g_zret (pc := 107) S F dX10_doesFollow_107 (Or.inl rfl)
    · refine g_aload_n (pc := 92) 0 S dX10_doesFollow_92 rfl ?_
      refine g_iload (pc := 93) 4 S dX10_doesFollow_93 rfl ?_
      refine g_iconst (pc := 95) (v := (0 : Int32)) S dX10_doesFollow_95 (by decide) ?_
      refine g_bind hyp (fun y5 hy5 hyp => ?_)
      refine g_callV (pc := 96) (As := [.int a4, .int (0 : Int32)]) (rest := []) S dX10_doesFollow_96 k0 rfl tw_1155 tw_1156 tw_64 mw_X10_isAtLeast (m_X10_isAtLeast k0 a4 (0 : Int32) y1 hy5) rfl rfl (Nat.le_of_ble_eq_true rfl) (Nat.le_of_ble_eq_true rfl) (Nat.le_of_ble_eq_true rfl) ?_
      refine g_if_eq (pc := 99) (tgt := 106) S dX10_doesFollow_99 (by decide) hyp (fun hyp => ?_) (fun hyp => ?_)
      · refine g_iconst (pc := 106) (v := (0 : Int32)) S dX10_doesFollow_106 (by decide) ?_
        have hyp := Option.some.inj hyp
        subst hyp
        exact g_zret (pc := 107) S F dX10_doesFollow_107 (Or.inl rfl)
      · refine g_iconst (pc := 102) (v := (1 : Int32)) S dX10_doesFollow_102 (by decide) ?_
        refine g_goto (pc := 103) (tgt := 107) S dX10_doesFollow_103 (by decide) ?_
        have hyp := Option.some.inj hyp
        subst hyp
        exact g_zret (pc := 107) S F dX10_doesFollow_107 (Or.inr rfl)
  · refine g_iconst (pc := 13) (v := (1 : Int32)) S dX10_doesFollow_13 (by decide) ?_
    have hyp := Option.some.inj hyp
    subst hyp
    exact g_zret (pc := 14) S F dX10_doesFollow_14 (Or.inr rfl)
theorem m_X10_doesFollow {l : Launch} {D : va_G} {cT : Nat → ClassId} {aD : Nat → Nat} {c0 : Nat} (k0 : kd c0 (10 + 10, 0)) (a1 : Int32) (a2 : Int32) (a3 : Int32) (a4 : Int32) (h : Hp) {o : Int32 × Hp} (hyp : s_X10_doesFollow c0 a1 a2 a3 a4 h = some o) : Ok l D cT aD yX10_doesFollow cX10_doesFollow 5 (some .boolean) 4 127 [.ref (aD c0), .int a1, .int a2, .int a3, .int a4] h (some (.int o.1)) o.2 :=
  Ok.of (by decide +kernel) rfl (Nat.le_of_ble_eq_true rfl) (fun K e1 e2 e3 e4 S F => by subst e1; exact o_X10_doesFollow S k0 a1 a2 a3 a4 h hyp F)
-- BoundProofsModel follows (III)I
noncomputable def s_X10_follows (c0 : Nat) (a1 : Int32) (a2 : Int32) (a3 : Int32) (h : Hp) : Option (Int32 × Hp) :=
  (s_X10_isTold c0 a1 a2 a3 h).bind fun y1 =>
  if y1 = 0 then (some ((-1 : Int32), h))
  else ((s_X10_allBounds c0  h).bind fun y2 =>
  (s_X10_doesFollow c0 y2 a1 a2 a3 h).bind fun y3 =>
  if y3.1 = 0 then (some ((0 : Int32), y3.2))
  else (some ((1 : Int32), y3.2)))
set_option maxRecDepth 100000 in
set_option maxHeartbeats 4000000 in
theorem o_X10_follows {K : gK} (S : Cx K RX10 cX10_follows 4 5 155) {c0 : Nat} (k0 : kd c0 (10 + 10, 0)) (a1 : Int32) (a2 : Int32) (a3 : Int32) (h : Hp) {o : Int32 × Hp} (hyp : s_X10_follows c0 a1 a2 a3 h = some o) (F : Rt K (some .int) (some (.int o.1)) o.2) : Go K 0 [(0, .ref (ad K c0)), (1, .int a1), (2, .int a2), (3, .int a3)] [] h := by
  unfold s_X10_follows at hyp
  refine g_aload_n (pc := 0) 0 S dX10_follows_0 rfl ?_
  refine g_iload_n (pc := 1) 1 S dX10_follows_1 rfl ?_
  refine g_iload_n (pc := 2) 2 S dX10_follows_2 rfl ?_
  refine g_iload_n (pc := 3) 3 S dX10_follows_3 rfl ?_
  refine g_bind hyp (fun y1 hy1 hyp => ?_)
  refine g_callV (pc := 4) (As := [.int a1, .int a2, .int a3]) (rest := []) S dX10_follows_4 k0 rfl tw_1024 tw_1025 tw_36 mw_X10_isTold (m_X10_isTold k0 a1 a2 a3 h hy1) rfl rfl (Nat.le_of_ble_eq_true rfl) (Nat.le_of_ble_eq_true rfl) (Nat.le_of_ble_eq_true rfl) ?_
  refine g_if_ne (pc := 7) (tgt := 12) S dX10_follows_7 (by decide) hyp (fun hyp => ?_) (fun hyp => ?_)
  · refine g_iconst (pc := 10) (v := (-1 : Int32)) S dX10_follows_10 (by decide) ?_
    have hyp := Option.some.inj hyp
    subst hyp
    exact g_iret (pc := 11) S F dX10_follows_11
  · refine g_aload_n (pc := 12) 0 S dX10_follows_12 rfl ?_
    refine g_aload_n (pc := 13) 0 S dX10_follows_13 rfl ?_
    refine g_bind hyp (fun y2 hy2 hyp => ?_)
    refine g_callV (pc := 14) (As := []) (rest := [.ref (ad K c0)]) S dX10_follows_14 k0 rfl tw_1049 tw_1050 tw_39 mw_X10_allBounds (m_X10_allBounds k0  h hy2) rfl rfl (Nat.le_of_ble_eq_true rfl) (Nat.le_of_ble_eq_true rfl) (Nat.le_of_ble_eq_true rfl) ?_
    refine g_iload_n (pc := 17) 1 S dX10_follows_17 rfl ?_
    refine g_iload_n (pc := 18) 2 S dX10_follows_18 rfl ?_
    refine g_iload_n (pc := 19) 3 S dX10_follows_19 rfl ?_
    refine g_bind hyp (fun y3 hy3 hyp => ?_)
    refine g_callV (pc := 20) (As := [.int y2, .int a1, .int a2, .int a3]) (rest := []) S dX10_follows_20 k0 rfl tw_1149 tw_1150 tw_62 mw_X10_doesFollow (m_X10_doesFollow k0 y2 a1 a2 a3 h hy3) rfl rfl (Nat.le_of_ble_eq_true rfl) (Nat.le_of_ble_eq_true rfl) (Nat.le_of_ble_eq_true rfl) ?_
    refine g_if_eq (pc := 23) (tgt := 30) S dX10_follows_23 (by decide) hyp (fun hyp => ?_) (fun hyp => ?_)
    · refine g_iconst (pc := 30) (v := (0 : Int32)) S dX10_follows_30 (by decide) ?_
      have hyp := Option.some.inj hyp
      subst hyp
      exact g_iret (pc := 31) S F dX10_follows_31
    · refine g_iconst (pc := 26) (v := (1 : Int32)) S dX10_follows_26 (by decide) ?_
      refine g_goto (pc := 27) (tgt := 31) S dX10_follows_27 (by decide) ?_
      have hyp := Option.some.inj hyp
      subst hyp
      exact g_iret (pc := 31) S F dX10_follows_31
theorem m_X10_follows {l : Launch} {D : va_G} {cT : Nat → ClassId} {aD : Nat → Nat} {c0 : Nat} (k0 : kd c0 (10 + 10, 0)) (a1 : Int32) (a2 : Int32) (a3 : Int32) (h : Hp) {o : Int32 × Hp} (hyp : s_X10_follows c0 a1 a2 a3 h = some o) : Ok l D cT aD yX10_follows cX10_follows 4 (some .int) 5 155 [.ref (aD c0), .int a1, .int a2, .int a3] h (some (.int o.1)) o.2 :=
  Ok.of (by decide +kernel) rfl (Nat.le_of_ble_eq_true rfl) (fun K e1 e2 e3 e4 S F => by subst e1; exact o_X10_follows S k0 a1 a2 a3 h hyp F)
