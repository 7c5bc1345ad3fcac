-- BoundProofs count (I)I
noncomputable def s_X9_count (c0 : Nat) (a1 : Int32) (h : Hp) : Option (Int32 × Hp) :=
  if a1 = (0 : Int32) then (some ((h.1 (c0 + 1) 0), h))
  else if a1 = (1 : Int32) then (some ((h.1 (c0 + 1) 1), h))
  else if a1 = (2 : Int32) then (some ((h.1 (c0 + 1) 2), h))
  else if a1 = (3 : Int32) then (some ((h.1 (c0 + 1) 3), h))
  else if a1 = (4 : Int32) then ((s_X2_collect (c0 + 55) (c0 + 32) (h.1 (c0 + 1) 0) h).bind fun y1 =>
  some ((y1.1 (c0 + 55) 0), y1))
  else if a1 = (5 : Int32) then ((s_X3_search (c0 + 64) (c0 + 32) (h.1 (c0 + 1) 0) (2147483647 : Int32) h).bind fun y2 =>
  some (y2.1, y2.2))
  else if a1 = (6 : Int32) then (some ((h.1 (c0 + 27) 1), h))
  else (some ((-1 : Int32), h))
set_option maxRecDepth 100000 in
set_option maxHeartbeats 4000000 in
theorem o_X9_count {K : gK} (S : Cx K RX9 cX9_count 2 4 114) {c0 : Nat} (k0 : kd c0 (10 + 9, 0)) (a1 : Int32) (h : Hp) {o : Int32 × Hp} (hyp : s_X9_count c0 a1 h = some o) (F : Rt K (some .int) (some (.int o.1)) o.2) : Go K 0 [(0, .ref (ad K c0)), (1, .int a1)] [] h := by
  unfold s_X9_count at hyp
  refine g_iload_n (pc := 0) 1 S dX9_count_0 rfl ?_
  refine g_tab1 hyp (fun e hyp => ?_) (fun n0 hyp => ?_)
  · refine g_tabK (pc := 1) (tgt := 44) S dX9_count_1 e (by decide) (by decide) rfl (by decide) ?_
    refine g_aload_n (pc := 44) 0 S dX9_count_44 rfl ?_
    refine g_getR (pc := 45) S dX9_count_45 fl_X9_12 k0 ?_
    refine g_getI (pc := 48) S dX9_count_48 fl_X9_249 (kf_9_1 k0) ?_
    have hyp := Option.some.inj hyp
    subst hyp
    exact g_iret (pc := 51) S F dX9_count_51
  refine g_tab1 hyp (fun e hyp => ?_) (fun n1 hyp => ?_)
  · refine g_tabK (pc := 1) (tgt := 52) S dX9_count_1 e (by decide) (by decide) rfl (by decide) ?_
    refine g_aload_n (pc := 52) 0 S dX9_count_52 rfl ?_
    refine g_getR (pc := 53) S dX9_count_53 fl_X9_12 k0 ?_
    refine g_getI (pc := 56) S dX9_count_56 fl_X9_117 (kf_9_1 k0) ?_
    have hyp := Option.some.inj hyp
    subst hyp
    exact g_iret (pc := 59) S F dX9_count_59
  refine g_tab1 hyp (fun e hyp => ?_) (fun n2 hyp => ?_)
  · refine g_tabK (pc := 1) (tgt := 60) S dX9_count_1 e (by decide) (by decide) rfl (by decide) ?_
    refine g_aload_n (pc := 60) 0 S dX9_count_60 rfl ?_
    refine g_getR (pc := 61) S dX9_count_61 fl_X9_12 k0 ?_
    refine g_getI (pc := 64) S dX9_count_64 fl_X9_140 (kf_9_1 k0) ?_
    have hyp := Option.some.inj hyp
    subst hyp
    exact g_iret (pc := 67) S F dX9_count_67
  refine g_tab1 hyp (fun e hyp => ?_) (fun n3 hyp => ?_)
  · refine g_tabK (pc := 1) (tgt := 68) S dX9_count_1 e (by decide) (by decide) rfl (by decide) ?_
    refine g_aload_n (pc := 68) 0 S dX9_count_68 rfl ?_
    refine g_getR (pc := 69) S dX9_count_69 fl_X9_12 k0 ?_
    refine g_getI (pc := 72) S dX9_count_72 fl_X9_156 (kf_9_1 k0) ?_
    have hyp := Option.some.inj hyp
    subst hyp
    exact g_iret (pc := 75) S F dX9_count_75
  refine g_tab1 hyp (fun e hyp => ?_) (fun n4 hyp => ?_)
  · refine g_tabK (pc := 1) (tgt := 76) S dX9_count_1 e (by decide) (by decide) rfl (by decide) ?_
    refine g_aload_n (pc := 76) 0 S dX9_count_76 rfl ?_
    refine g_getR (pc := 77) S dX9_count_77 fl_X9_70 k0 ?_
    refine g_aload_n (pc := 80) 0 S dX9_count_80 rfl ?_
    refine g_getR (pc := 81) S dX9_count_81 fl_X9_52 k0 ?_
    refine g_aload_n (pc := 84) 0 S dX9_count_84 rfl ?_
    refine g_getR (pc := 85) S dX9_count_85 fl_X9_12 k0 ?_
    refine g_getI (pc := 88) S dX9_count_88 fl_X9_249 (kf_9_1 k0) ?_
    refine g_bind hyp (fun y1 hy1 hyp => ?_)
    refine g_callV (pc := 91) (As := [.ref (ad K (c0 + 32)), .int (h.1 (c0 + 1) 0)]) (rest := []) S dX9_count_91 (kf_9_55 k0) rfl tw_762 tw_763 tw_764 mw_X2_collect (m_X2_collect (kf_9_55 k0) (kf_9_32 k0) (h.1 (c0 + 1) 0) h hy1) rfl rfl (Nat.le_of_ble_eq_true rfl) (Nat.le_of_ble_eq_true rfl) (Nat.le_of_ble_eq_true rfl) ?_
    refine g_aload_n (pc := 94) 0 S dX9_count_94 rfl ?_
    refine g_getR (pc := 95) S dX9_count_95 fl_X9_70 k0 ?_
    refine g_getI (pc := 98) S dX9_count_98 fl_X9_267 (kf_9_55 k0) ?_
    have hyp := Option.some.inj hyp
    subst hyp
    exact g_iret (pc := 101) S F dX9_count_101
  refine g_tab1 hyp (fun e hyp => ?_) (fun n5 hyp => ?_)
  · refine g_tabK (pc := 1) (tgt := 102) S dX9_count_1 e (by decide) (by decide) rfl (by decide) ?_
    refine g_aload_n (pc := 102) 0 S dX9_count_102 rfl ?_
    refine g_getR (pc := 103) S dX9_count_103 fl_X9_77 k0 ?_
    refine g_aload_n (pc := 106) 0 S dX9_count_106 rfl ?_
    refine g_getR (pc := 107) S dX9_count_107 fl_X9_52 k0 ?_
    refine g_aload_n (pc := 110) 0 S dX9_count_110 rfl ?_
    refine g_getR (pc := 111) S dX9_count_111 fl_X9_12 k0 ?_
    refine g_getI (pc := 114) S dX9_count_114 fl_X9_249 (kf_9_1 k0) ?_
    refine g_ldcw (pc := 117) (v := (2147483647 : Int32)) S dX9_count_117 tw_825 ?_
    refine g_bind hyp (fun y2 hy2 hyp => ?_)
    refine g_callV (pc := 120) (As := [.ref (ad K (c0 + 32)), .int (h.1 (c0 + 1) 0), .int (2147483647 : Int32)]) (rest := []) S dX9_count_120 (kf_9_64 k0) rfl tw_796 tw_797 tw_798 mw_X3_search (m_X3_search (kf_9_64 k0) (kf_9_32 k0) (h.1 (c0 + 1) 0) (2147483647 : Int32) h hy2) rfl rfl (Nat.le_of_ble_eq_true rfl) (Nat.le_of_ble_eq_true rfl) (Nat.le_of_ble_eq_true rfl) ?_
    have hyp := Option.some.inj hyp
    subst hyp
    exact g_iret (pc := 123) S F dX9_count_123
  refine g_tab1 hyp (fun e hyp => ?_) (fun n6 hyp => ?_)
  · refine g_tabK (pc := 1) (tgt := 124) S dX9_count_1 e (by decide) (by decide) rfl (by decide) ?_
    refine g_aload_n (pc := 124) 0 S dX9_count_124 rfl ?_
    refine g_getR (pc := 125) S dX9_count_125 fl_X9_30 k0 ?_
    refine g_getI (pc := 128) S dX9_count_128 fl_X9_95 (kf_9_27 k0) ?_
    have hyp := Option.some.inj hyp
    subst hyp
    exact g_iret (pc := 131) S F dX9_count_131
  refine g_tabOut (pc := 1) (tgt := 132) S dX9_count_1 (by have q0 := lv_neT n0 (a := 0) rfl; have q1 := lv_neT n1 (a := 1) rfl; have q2 := lv_neT n2 (a := 2) rfl; have q3 := lv_neT n3 (a := 3) rfl; have q4 := lv_neT n4 (a := 4) rfl; have q5 := lv_neT n5 (a := 5) rfl; have q6 := lv_neT n6 (a := 6) rfl; omega) (by decide) ?_
  refine g_iconst (pc := 132) (v := (-1 : Int32)) S dX9_count_132 (by decide) ?_
  have hyp := Option.some.inj hyp
  subst hyp
  exact g_iret (pc := 133) S F dX9_count_133
theorem m_X9_count {l : Launch} {D : va_G} {cT : Nat → ClassId} {aD : Nat → Nat} {c0 : Nat} (k0 : kd c0 (10 + 9, 0)) (a1 : Int32) (h : Hp) {o : Int32 × Hp} (hyp : s_X9_count c0 a1 h = some o) : Ok l D cT aD yX9_count cX9_count 2 (some .int) 4 114 [.ref (aD c0), .int a1] h (some (.int o.1)) o.2 :=
  Ok.of (by decide +kernel) rfl (Nat.le_of_ble_eq_true rfl) (fun K e1 e2 e3 e4 S F => by subst e1; exact o_X9_count S k0 a1 h hyp F)
-- BoundProofsModel in (III)Z
noncomputable def s_X10_in  (a0 : Int32) (a1 : Int32) (a2 : Int32) (h : Hp) : Option (Int32) :=
  if a0 < a1 then (some (0 : Int32))
  else (if a2 < a0 then (some (0 : Int32))
  else (some (1 : Int32)))
set_option maxRecDepth 100000 in
set_option maxHeartbeats 4000000 in
theorem o_X10_in {K : gK} (S : Cx K RX10 cX10_in 3 0 0)  (a0 : Int32) (a1 : Int32) (a2 : Int32) (h : Hp) {o : Int32} (hyp : s_X10_in  a0 a1 a2 h = some o) (F : Rt K (some .boolean) (some (.int o)) h) : Go K 0 [(0, .int a0), (1, .int a1), (2, .int a2)] [] h := by
  unfold s_X10_in at hyp
  refine g_iload_n (pc := 0) 0 S dX10_in_0 rfl ?_
  refine g_iload_n (pc := 1) 1 S dX10_in_1 rfl ?_
  refine g_icmp_lt (pc := 2) (tgt := 14) S dX10_in_2 (by decide) hyp (fun hyp => ?_) (fun hyp => ?_)
  · refine g_iconst (pc := 14) (v := (0 : Int32)) S dX10_in_14 (by decide) ?_
    have hyp := Option.some.inj hyp
    subst hyp
    exact g_zret (pc := 15) S F dX10_in_15 (Or.inl rfl)
  · refine g_iload_n (pc := 5) 0 S dX10_in_5 rfl ?_
    refine g_iload_n (pc := 6) 2 S dX10_in_6 rfl ?_
    refine g_icmp_gt (pc := 7) (tgt := 14) S dX10_in_7 (by decide) hyp (fun hyp => ?_) (fun hyp => ?_)
    · refine g_iconst (pc := 14) (v := (0 : Int32)) S dX10_in_14 (by decide) ?_
      have hyp := Option.some.inj hyp
      subst hyp
      exact g_zret (pc := 15) S F dX10_in_15 (Or.inl rfl)
    · refine g_iconst (pc := 10) (v := (1 : Int32)) S dX10_in_10 (by decide) ?_
      refine g_goto (pc := 11) (tgt := 15) S dX10_in_11 (by decide) ?_
      have hyp := Option.some.inj hyp
      subst hyp
      exact g_zret (pc := 15) S F dX10_in_15 (Or.inr rfl)
theorem m_X10_in {l : Launch} {D : va_G} {cT : Nat → ClassId} {aD : Nat → Nat}  (a0 : Int32) (a1 : Int32) (a2 : Int32) (h : Hp) {o : Int32} (hyp : s_X10_in  a0 a1 a2 h = some o) : Ok l D cT aD yX10_in cX10_in 3 (some .boolean) 0 0 [.int a0, .int a1, .int a2] h (some (.int o)) h :=
  Ok.of (by decide +kernel) rfl (Nat.le_of_ble_eq_true rfl) (fun K e1 e2 e3 e4 S F => by subst e1; exact o_X10_in S  a0 a1 a2 h hyp F)
-- BoundProofsModel writes (I)V
noncomputable def s_X10_writes_l48 (c0 : Nat) (a1 : Int32) (a2 : Int32) (h : Hp) : Option ((Int32 × Hp) ⊕ (Hp)) :=
  if a2 < (4 : Int32) then (ldI h (c0 + 3) 4 a2 fun x5 =>
  stI h (c0 + 5) 128 ((a1 + (4 : Int32)) + a2) x5 fun h6 =>
  lt (a2 + (1 : Int32)) fun v2_7 =>
  some (.inl (v2_7, h6)))
  else (some (.inr (h)))
noncomputable def s_X10_writes_l77 (c0 : Nat) (a1 : Int32) (a2 : Int32) (h : Hp) : Option ((Int32 × Hp) ⊕ (Hp)) :=
  if a2 < (24 : Int32) then (ldI h (c0 + 1) 24 a2 fun x9 =>
  stI h (c0 + 5) 128 ((a1 + (8 : Int32)) + a2) x9 fun h10 =>
  lt (a2 + (1 : Int32)) fun v2_11 =>
  some (.inl (v2_11, h10)))
  else (some (.inr (h)))
noncomputable def s_X10_writes_l108 (c0 : Nat) (a1 : Int32) (a2 : Int32) (h : Hp) : Option ((Int32 × Hp) ⊕ (Hp)) :=
  if a2 < (30 : Int32) then (ldI h (c0 + 2) 30 a2 fun x13 =>
  stI h (c0 + 5) 128 ((a1 + (32 : Int32)) + a2) x13 fun h14 =>
  lt (a2 + (1 : Int32)) fun v2_15 =>
  some (.inl (v2_15, h14)))
  else (some (.inr (h)))
noncomputable def s_X10_writes (c0 : Nat) (a1 : Int32) (h : Hp) : Option (Hp) :=
  stI h (c0 + 5) 128 a1 (h.1 c0 0) fun h1 =>
  stI h1 (c0 + 5) 128 (a1 + (1 : Int32)) (h1.1 c0 1) fun h2 =>
  stI h2 (c0 + 5) 128 (a1 + (2 : Int32)) (h2.1 c0 3) fun h3 =>
  stI h3 (c0 + 5) 128 (a1 + (3 : Int32)) (h3.1 c0 5) fun h4 =>
  (iter (fun s : Int32 × Hp => s_X10_writes_l48 c0 a1 s.1 s.2) FUEL ((0 : Int32), h4)).bind fun e8 =>
  (iter (fun s : Int32 × Hp => s_X10_writes_l77 c0 a1 s.1 s.2) FUEL ((0 : Int32), e8)).bind fun e12 =>
  (iter (fun s : Int32 × Hp => s_X10_writes_l108 c0 a1 s.1 s.2) FUEL ((0 : Int32), e12)).bind fun e16 =>
  some e16
set_option maxRecDepth 100000 in
set_option maxHeartbeats 4000000 in
theorem o_X10_writes_l48 {K : gK} (S : Cx K RX10 cX10_writes 3 0 0) {c0 : Nat} (k0 : kd c0 (10 + 10, 0)) (a1 : Int32) (a2 : Int32) (h : Hp) {o : (Int32 × Hp) ⊕ (Hp)} (hyp : s_X10_writes_l48 c0 a1 a2 h = some o) (hin : ∀ s', o = .inl s' → Go K 48 [(0, .ref (ad K c0)), (1, .int a1), (2, .int s'.1)] [] s'.2) (hex0 : ∀ s', o = .inr (s') → Go K 75 [(0, .ref (ad K c0)), (1, .int a1)] [] s') : Go K 48 [(0, .ref (ad K c0)), (1, .int a1), (2, .int a2)] [] h := by
  unfold s_X10_writes_l48 at hyp
  refine g_iload_n (pc := 48) 2 S dX10_writes_48 rfl ?_
  refine g_iconst (pc := 49) (v := (4 : Int32)) S dX10_writes_49 (by decide) ?_
  refine g_icmp_ge (pc := 50) (tgt := 75) S dX10_writes_50 (by decide) hyp (fun hyp => ?_) (fun hyp => ?_)
  · refine g_aload_n (pc := 53) 0 S dX10_writes_53 rfl ?_
    refine g_getR (pc := 54) S dX10_writes_54 fl_X10_26 k0 ?_
    refine g_iload_n (pc := 57) 1 S dX10_writes_57 rfl ?_
    refine g_iconst (pc := 58) (v := (4 : Int32)) S dX10_writes_58 (by decide) ?_
    refine g_iadd (pc := 59) S dX10_writes_59 ?_
    refine g_iload_n (pc := 60) 2 S dX10_writes_60 rfl ?_
    refine g_iadd (pc := 61) S dX10_writes_61 ?_
    refine g_aload_n (pc := 62) 0 S dX10_writes_62 rfl ?_
    refine g_getR (pc := 63) S dX10_writes_63 fl_X10_20 k0 ?_
    refine g_iload_n (pc := 66) 2 S dX10_writes_66 rfl ?_
    refine g_iald (pc := 67) S dX10_writes_67 (kf_10_3 k0) hyp (fun x5 hyp => ?_)
    refine g_iast (pc := 68) S dX10_writes_68 (kf_10_5 k0) hyp (fun h6 hyp => ?_)
    refine g_iinc (pc := 69) (v := (a2 + (1 : Int32))) (lv' := [(2, .int (a2 + (1 : Int32))), (0, .ref (ad K c0)), (1, .int a1)]) 2 S dX10_writes_69 rfl (by rfl) (by decide) rfl ?_
    refine g_lti (C := fun v2_7 => Go K (69 + 3) [(2, .int v2_7), (0, .ref (ad K c0)), (1, .int a1)] [] h6) hyp (fun v2_7 hyp => ?_)
    refine g_goto (pc := 72) (tgt := 48) S dX10_writes_72 (by decide) ?_
    have hyp := Option.some.inj hyp
    subst hyp
    exact g_sub [1, 2, 0] rfl (hin (v2_7, h6) rfl)
  · have hyp := Option.some.inj hyp
    subst hyp
    exact g_sub [0, 1] rfl (hex0 h rfl)
set_option maxRecDepth 100000 in
set_option maxHeartbeats 4000000 in
theorem o_X10_writes_l77 {K : gK} (S : Cx K RX10 cX10_writes 3 0 0) {c0 : Nat} (k0 : kd c0 (10 + 10, 0)) (a1 : Int32) (a2 : Int32) (h : Hp) {o : (Int32 × Hp) ⊕ (Hp)} (hyp : s_X10_writes_l77 c0 a1 a2 h = some o) (hin : ∀ s', o = .inl s' → Go K 77 [(0, .ref (ad K c0)), (1, .int a1), (2, .int s'.1)] [] s'.2) (hex0 : ∀ s', o = .inr (s') → Go K 106 [(0, .ref (ad K c0)), (1, .int a1)] [] s') : Go K 77 [(0, .ref (ad K c0)), (1, .int a1), (2, .int a2)] [] h := by
  unfold s_X10_writes_l77 at hyp
  refine g_iload_n (pc := 77) 2 S dX10_writes_77 rfl ?_
  refine g_bipush (pc := 78) (v := (24 : Int32)) S dX10_writes_78 (by decide) ?_
  refine g_icmp_ge (pc := 80) (tgt := 106) S dX10_writes_80 (by decide) hyp (fun hyp => ?_) (fun hyp => ?_)
  · refine g_aload_n (pc := 83) 0 S dX10_writes_83 rfl ?_
    refine g_getR (pc := 84) S dX10_writes_84 fl_X10_26 k0 ?_
    refine g_iload_n (pc := 87) 1 S dX10_writes_87 rfl ?_
    refine g_bipush (pc := 88) (v := (8 : Int32)) S dX10_writes_88 (by decide) ?_
    refine g_iadd (pc := 90) S dX10_writes_90 ?_
    refine g_iload_n (pc := 91) 2 S dX10_writes_91 rfl ?_
    refine g_iadd (pc := 92) S dX10_writes_92 ?_
    refine g_aload_n (pc := 93) 0 S dX10_writes_93 rfl ?_
    refine g_getR (pc := 94) S dX10_writes_94 fl_X10_13 k0 ?_
    refine g_iload_n (pc := 97) 2 S dX10_writes_97 rfl ?_
    refine g_iald (pc := 98) S dX10_writes_98 (kf_10_1 k0) hyp (fun x9 hyp => ?_)
    refine g_iast (pc := 99) S dX10_writes_99 (kf_10_5 k0) hyp (fun h10 hyp => ?_)
    refine g_iinc (pc := 100) (v := (a2 + (1 : Int32))) (lv' := [(2, .int (a2 + (1 : Int32))), (0, .ref (ad K c0)), (1, .int a1)]) 2 S dX10_writes_100 rfl (by rfl) (by decide) rfl ?_
    refine g_lti (C := fun v2_11 => Go K (100 + 3) [(2, .int v2_11), (0, .ref (ad K c0)), (1, .int a1)] [] h10) hyp (fun v2_11 hyp => ?_)
    refine g_goto (pc := 103) (tgt := 77) S dX10_writes_103 (by decide) ?_
    have hyp := Option.some.inj hyp
    subst hyp
    exact g_sub [1, 2, 0] rfl (hin (v2_11, h10) rfl)
  · have hyp := Option.some.inj hyp
    subst hyp
    exact g_sub [0, 1] rfl (hex0 h rfl)
set_option maxRecDepth 100000 in
set_option maxHeartbeats 4000000 in
theorem o_X10_writes_l108 {K : gK} (S : Cx K RX10 cX10_writes 3 0 0) {c0 : Nat} (k0 : kd c0 (10 + 10, 0)) (a1 : Int32) (a2 : Int32) (h : Hp) {o : (Int32 × Hp) ⊕ (Hp)} (hyp : s_X10_writes_l108 c0 a1 a2 h = some o) (hin : ∀ s', o = .inl s' → Go K 108 [(0, .ref (ad K c0)), (1, .int a1), (2, .int s'.1)] [] s'.2) (hex0 : ∀ s', o = .inr (s') → Go K 137 [] [] s') : Go K 108 [(0, .ref (ad K c0)), (1, .int a1), (2, .int a2)] [] h := by
  unfold s_X10_writes_l108 at hyp
  refine g_iload_n (pc := 108) 2 S dX10_writes_108 rfl ?_
  refine g_bipush (pc := 109) (v := (30 : Int32)) S dX10_writes_109 (by decide) ?_
  refine g_icmp_ge (pc := 111) (tgt := 137) S dX10_writes_111 (by decide) hyp (fun hyp => ?_) (fun hyp => ?_)
  · refine g_aload_n (pc := 114) 0 S dX10_writes_114 rfl ?_
    refine g_getR (pc := 115) S dX10_writes_115 fl_X10_26 k0 ?_
    refine g_iload_n (pc := 118) 1 S dX10_writes_118 rfl ?_
    refine g_bipush (pc := 119) (v := (32 : Int32)) S dX10_writes_119 (by decide) ?_
    refine g_iadd (pc := 121) S dX10_writes_121 ?_
    refine g_iload_n (pc := 122) 2 S dX10_writes_122 rfl ?_
    refine g_iadd (pc := 123) S dX10_writes_123 ?_
    refine g_aload_n (pc := 124) 0 S dX10_writes_124 rfl ?_
    refine g_getR (pc := 125) S dX10_writes_125 fl_X10_17 k0 ?_
    refine g_iload_n (pc := 128) 2 S dX10_writes_128 rfl ?_
    refine g_iald (pc := 129) S dX10_writes_129 (kf_10_2 k0) hyp (fun x13 hyp => ?_)
    refine g_iast (pc := 130) S dX10_writes_130 (kf_10_5 k0) hyp (fun h14 hyp => ?_)
    refine g_iinc (pc := 131) (v := (a2 + (1 : Int32))) (lv' := [(2, .int (a2 + (1 : Int32))), (0, .ref (ad K c0)), (1, .int a1)]) 2 S dX10_writes_131 rfl (by rfl) (by decide) rfl ?_
    refine g_lti (C := fun v2_15 => Go K (131 + 3) [(2, .int v2_15), (0, .ref (ad K c0)), (1, .int a1)] [] h14) hyp (fun v2_15 hyp => ?_)
    refine g_goto (pc := 134) (tgt := 108) S dX10_writes_134 (by decide) ?_
    have hyp := Option.some.inj hyp
    subst hyp
    exact g_sub [1, 2, 0] rfl (hin (v2_15, h14) rfl)
  · have hyp := Option.some.inj hyp
    subst hyp
    exact g_sub [] rfl (hex0 h rfl)
set_option maxRecDepth 100000 in
set_option maxHeartbeats 4000000 in
theorem o_X10_writes {K : gK} (S : Cx K RX10 cX10_writes 3 0 0) {c0 : Nat} (k0 : kd c0 (10 + 10, 0)) (a1 : Int32) (h : Hp) {o : Hp} (hyp : s_X10_writes c0 a1 h = some o) (F : Rt K none none o) : Go K 0 [(0, .ref (ad K c0)), (1, .int a1)] [] h := by
  unfold s_X10_writes at hyp
  refine g_aload_n (pc := 0) 0 S dX10_writes_0 rfl ?_
  refine g_getR (pc := 1) S dX10_writes_1 fl_X10_26 k0 ?_
  refine g_iload_n (pc := 4) 1 S dX10_writes_4 rfl ?_
  refine g_aload_n (pc := 5) 0 S dX10_writes_5 rfl ?_
  refine g_getI (pc := 6) S dX10_writes_6 fl_X10_7 k0 ?_
  refine g_iast (pc := 9) S dX10_writes_9 (kf_10_5 k0) hyp (fun h1 hyp => ?_)
  refine g_aload_n (pc := 10) 0 S dX10_writes_10 rfl ?_
  refine g_getR (pc := 11) S dX10_writes_11 fl_X10_26 k0 ?_
  refine g_iload_n (pc := 14) 1 S dX10_writes_14 rfl ?_
  refine g_iconst (pc := 15) (v := (1 : Int32)) S dX10_writes_15 (by decide) ?_
  refine g_iadd (pc := 16) S dX10_writes_16 ?_
  refine g_aload_n (pc := 17) 0 S dX10_writes_17 rfl ?_
  refine g_getI (pc := 18) S dX10_writes_18 fl_X10_94 k0 ?_
  refine g_iast (pc := 21) S dX10_writes_21 (kf_10_5 k0) hyp (fun h2 hyp => ?_)
  refine g_aload_n (pc := 22) 0 S dX10_writes_22 rfl ?_
  refine g_getR (pc := 23) S dX10_writes_23 fl_X10_26 k0 ?_
  refine g_iload_n (pc := 26) 1 S dX10_writes_26 rfl ?_
  refine g_iconst (pc := 27) (v := (2 : Int32)) S dX10_writes_27 (by decide) ?_
  refine g_iadd (pc := 28) S dX10_writes_28 ?_
  refine g_aload_n (pc := 29) 0 S dX10_writes_29 rfl ?_
  refine g_getI (pc := 30) S dX10_writes_30 fl_X10_97 k0 ?_
  refine g_iast (pc := 33) S dX10_writes_33 (kf_10_5 k0) hyp (fun h3 hyp => ?_)
  refine g_aload_n (pc := 34) 0 S dX10_writes_34 rfl ?_
  refine g_getR (pc := 35) S dX10_writes_35 fl_X10_26 k0 ?_
  refine g_iload_n (pc := 38) 1 S dX10_writes_38 rfl ?_
  refine g_iconst (pc := 39) (v := (3 : Int32)) S dX10_writes_39 (by decide) ?_
  refine g_iadd (pc := 40) S dX10_writes_40 ?_
  refine g_aload_n (pc := 41) 0 S dX10_writes_41 rfl ?_
  refine g_getI (pc := 42) S dX10_writes_42 fl_X10_100 k0 ?_
  refine g_iast (pc := 45) S dX10_writes_45 (kf_10_5 k0) hyp (fun h4 hyp => ?_)
  refine g_iconst (pc := 46) (v := (0 : Int32)) S dX10_writes_46 (by decide) ?_
  refine g_istore_n (pc := 47) (lv' := [(2, .int (0 : Int32)), (0, .ref (ad K c0)), (1, .int a1)]) S dX10_writes_47 rfl (by decide) rfl ?_
  refine g_bind hyp (fun e8 he8 hyp => ?_)
  refine g_sub [1, 2, 0] rfl (g_loop (f := fun s : Int32 × Hp => s_X10_writes_l48 c0 a1 s.1 s.2) (ρ := Hp) (Hd := fun s : Int32 × Hp => Go K 48 [(0, .ref (ad K c0)), (1, .int a1), (2, .int s.1)] [] s.2) (Ex := fun e8 => Go K 75 [(0, .ref (ad K c0)), (1, .int a1)] [] e8) (fun s o h1 h2 h3 => o_X10_writes_l48 S k0 a1 s.1 s.2 h1 h2 h3) FUEL _ e8 he8 ?_)
  refine g_iconst (pc := 75) (v := (0 : Int32)) S dX10_writes_75 (by decide) ?_
  refine g_istore_n (pc := 76) (lv' := [(2, .int (0 : Int32)), (0, .ref (ad K c0)), (1, .int a1)]) S dX10_writes_76 rfl (by decide) rfl ?_
  refine g_bind hyp (fun e12 he12 hyp => ?_)
  refine g_sub [1, 2, 0] rfl (g_loop (f := fun s : Int32 × Hp => s_X10_writes_l77 c0 a1 s.1 s.2) (ρ := Hp) (Hd := fun s : Int32 × Hp => Go K 77 [(0, .ref (ad K c0)), (1, .int a1), (2, .int s.1)] [] s.2) (Ex := fun e12 => Go K 106 [(0, .ref (ad K c0)), (1, .int a1)] [] e12) (fun s o h1 h2 h3 => o_X10_writes_l77 S k0 a1 s.1 s.2 h1 h2 h3) FUEL _ e12 he12 ?_)
  refine g_iconst (pc := 106) (v := (0 : Int32)) S dX10_writes_106 (by decide) ?_
  refine g_istore_n (pc := 107) (lv' := [(2, .int (0 : Int32)), (0, .ref (ad K c0)), (1, .int a1)]) S dX10_writes_107 rfl (by decide) rfl ?_
  refine g_bind hyp (fun e16 he16 hyp => ?_)
  refine g_sub [1, 2, 0] rfl (g_loop (f := fun s : Int32 × Hp => s_X10_writes_l108 c0 a1 s.1 s.2) (ρ := Hp) (Hd := fun s : Int32 × Hp => Go K 108 [(0, .ref (ad K c0)), (1, .int a1), (2, .int s.1)] [] s.2) (Ex := fun e16 => Go K 137 [] [] e16) (fun s o h1 h2 h3 => o_X10_writes_l108 S k0 a1 s.1 s.2 h1 h2 h3) FUEL _ e16 he16 ?_)
  have hyp := Option.some.inj hyp
  subst hyp
  exact g_vret (pc := 137) S F dX10_writes_137
theorem m_X10_writes {l : Launch} {D : va_G} {cT : Nat → ClassId} {aD : Nat → Nat} {c0 : Nat} (k0 : kd c0 (10 + 10, 0)) (a1 : Int32) (h : Hp) {o : Hp} (hyp : s_X10_writes c0 a1 h = some o) : Ok l D cT aD yX10_writes cX10_writes 3 none 0 0 [.ref (aD c0), .int a1] h none o :=
  Ok.of (by decide +kernel) rfl (Nat.le_of_ble_eq_true rfl) (fun K e1 e2 e3 e4 S F => by subst e1; exact o_X10_writes S k0 a1 h hyp F)
-- BoundProofsModel keep (I)I
noncomputable def s_X10_keep (c0 : Nat) (a1 : Int32) (h : Hp) : Option (Int32 × Hp) :=
  (s_X10_in  a1 (0 : Int32) (1 : Int32) h).bind fun y1 =>
  if y1 = 0 then (some ((-1 : Int32), h))
  else (stI h (c0 + 4) 2 a1 (1 : Int32) fun h2 =>
  (s_X10_writes c0 ((64 : Int32) * a1) h2).bind fun y3 =>
  some ((y3.1 c0 3), y3))
set_option maxRecDepth 100000 in
set_option maxHeartbeats 4000000 in
theorem o_X10_keep {K : gK} (S : Cx K RX10 cX10_keep 2 1 26) {c0 : Nat} (k0 : kd c0 (10 + 10, 0)) (a1 : Int32) (h : Hp) {o : Int32 × Hp} (hyp : s_X10_keep c0 a1 h = some o) (F : Rt K (some .int) (some (.int o.1)) o.2) : Go K 0 [(0, .ref (ad K c0)), (1, .int a1)] [] h := by
  unfold s_X10_keep at hyp
  refine g_iload_n (pc := 0) 1 S dX10_keep_0 rfl ?_
  refine g_iconst (pc := 1) (v := (0 : Int32)) S dX10_keep_1 (by decide) ?_
  refine g_iconst (pc := 2) (v := (1 : Int32)) S dX10_keep_2 (by decide) ?_
  refine g_bind hyp (fun y1 hy1 hyp => ?_)
  refine g_callS (pc := 3) (As := [.int a1, .int (0 : Int32), .int (1 : Int32)]) (rest := []) S dX10_keep_3 tw_990 tw_991 mw_X10_in (m_X10_in  a1 (0 : Int32) (1 : Int32) h hy1) rfl rfl (Nat.le_of_ble_eq_true rfl) (Nat.le_of_ble_eq_true rfl) (Nat.le_of_ble_eq_true rfl) ?_
  refine g_if_ne (pc := 6) (tgt := 11) S dX10_keep_6 (by decide) hyp (fun hyp => ?_) (fun hyp => ?_)
  · refine g_iconst (pc := 9) (v := (-1 : Int32)) S dX10_keep_9 (by decide) ?_
    have hyp := Option.some.inj hyp
    subst hyp
    exact g_iret (pc := 10) S F dX10_keep_10
  · refine g_aload_n (pc := 11) 0 S dX10_keep_11 rfl ?_
    refine g_getR (pc := 12) S dX10_keep_12 fl_X10_23 k0 ?_
    refine g_iload_n (pc := 15) 1 S dX10_keep_15 rfl ?_
    refine g_iconst (pc := 16) (v := (1 : Int32)) S dX10_keep_16 (by decide) ?_
    refine g_iast (pc := 17) S dX10_keep_17 (kf_10_4 k0) hyp (fun h2 hyp => ?_)
    refine g_aload_n (pc := 18) 0 S dX10_keep_18 rfl ?_
    refine g_bipush (pc := 19) (v := (64 : Int32)) S dX10_keep_19 (by decide) ?_
    refine g_iload_n (pc := 21) 1 S dX10_keep_21 rfl ?_
    refine g_imul (pc := 22) S dX10_keep_22 ?_
    refine g_bind hyp (fun y3 hy3 hyp => ?_)
    refine g_callV (pc := 23) (As := [.int ((64 : Int32) * a1)]) (rest := []) S dX10_keep_23 k0 rfl tw_993 tw_994 tw_31 mw_X10_writes (m_X10_writes k0 ((64 : Int32) * a1) h2 hy3) rfl rfl (Nat.le_of_ble_eq_true rfl) (Nat.le_of_ble_eq_true rfl) (Nat.le_of_ble_eq_true rfl) ?_
    refine g_aload_n (pc := 26) 0 S dX10_keep_26 rfl ?_
    refine g_getI (pc := 27) S dX10_keep_27 fl_X10_97 k0 ?_
    have hyp := Option.some.inj hyp
    subst hyp
    exact g_iret (pc := 30) S F dX10_keep_30
theorem m_X10_keep {l : Launch} {D : va_G} {cT : Nat → ClassId} {aD : Nat → Nat} {c0 : Nat} (k0 : kd c0 (10 + 10, 0)) (a1 : Int32) (h : Hp) {o : Int32 × Hp} (hyp : s_X10_keep c0 a1 h = some o) : Ok l D cT aD yX10_keep cX10_keep 2 (some .int) 1 26 [.ref (aD c0), .int a1] h (some (.int o.1)) o.2 :=
  Ok.of (by decide +kernel) rfl (Nat.le_of_ble_eq_true rfl) (fun K e1 e2 e3 e4 S F => by subst e1; exact o_X10_keep S k0 a1 h hyp F)
-- BoundProofsModel back (I)I
noncomputable def s_X10_back_l76 (c0 : Nat) (a2 : Int32) (a3 : Int32) (h : Hp) : Option ((Int32 × Hp) ⊕ (Hp)) :=
  if a3 < (4 : Int32) then (ldI h (c0 + 5) 128 ((a2 + (4 : Int32)) + a3) fun x12 =>
  stI h (c0 + 3) 4 a3 x12 fun h13 =>
  lt (a3 + (1 : Int32)) fun v3_14 =>
  some (.inl (v3_14, h13)))
  else (some (.inr (h)))
noncomputable def s_X10_back_l105 (c0 : Nat) (a2 : Int32) (a3 : Int32) (h : Hp) : Option ((Int32 × Hp) ⊕ (Hp)) :=
  if a3 < (24 : Int32) then (ldI h (c0 + 5) 128 ((a2 + (8 : Int32)) + a3) fun x16 =>
  stI h (c0 + 1) 24 a3 x16 fun h17 =>
  lt (a3 + (1 : Int32)) fun v3_18 =>
  some (.inl (v3_18, h17)))
  else (some (.inr (h)))
noncomputable def s_X10_back_l136 (c0 : Nat) (a2 : Int32) (a3 : Int32) (h : Hp) : Option ((Int32 × Hp) ⊕ (Hp)) :=
  if a3 < (30 : Int32) then (ldI h (c0 + 5) 128 ((a2 + (32 : Int32)) + a3) fun x20 =>
  stI h (c0 + 2) 30 a3 x20 fun h21 =>
  lt (a3 + (1 : Int32)) fun v3_22 =>
  some (.inl (v3_22, h21)))
  else (some (.inr (h)))
noncomputable def s_X10_back (c0 : Nat) (a1 : Int32) (h : Hp) : Option (Int32 × Hp) :=
  (s_X10_in  a1 (0 : Int32) (1 : Int32) h).bind fun y1 =>
  if y1 = 0 then (some ((-1 : Int32), h))
  else (ldI h (c0 + 4) 2 a1 fun x2 =>
  if x2 = 0 then (some ((-2 : Int32), h))
  else (lt ((64 : Int32) * a1) fun v2_3 =>
  ldI h (c0 + 5) 128 v2_3 fun x4 =>
  lt (sI h c0 0 x4) fun h5 =>
  ldI h5 (c0 + 5) 128 (v2_3 + (1 : Int32)) fun x6 =>
  lt (sI h5 c0 1 x6) fun h7 =>
  ldI h7 (c0 + 5) 128 (v2_3 + (2 : Int32)) fun x8 =>
  lt (sI h7 c0 3 x8) fun h9 =>
  ldI h9 (c0 + 5) 128 (v2_3 + (3 : Int32)) fun x10 =>
  lt (sI h9 c0 5 x10) fun h11 =>
  (iter (fun s : Int32 × Hp => s_X10_back_l76 c0 v2_3 s.1 s.2) FUEL ((0 : Int32), h11)).bind fun e15 =>
  (iter (fun s : Int32 × Hp => s_X10_back_l105 c0 v2_3 s.1 s.2) FUEL ((0 : Int32), e15)).bind fun e19 =>
  (iter (fun s : Int32 × Hp => s_X10_back_l136 c0 v2_3 s.1 s.2) FUEL ((0 : Int32), e19)).bind fun e23 =>
  some ((e23.1 c0 3), e23)))
set_option maxRecDepth 100000 in
set_option maxHeartbeats 4000000 in
theorem o_X10_back_l76 {K : gK} (S : Cx K RX10 cX10_back 4 1 26) {c0 : Nat} (k0 : kd c0 (10 + 10, 0)) (a2 : Int32) (a3 : Int32) (h : Hp) {o : (Int32 × Hp) ⊕ (Hp)} (hyp : s_X10_back_l76 c0 a2 a3 h = some o) (hin : ∀ s', o = .inl s' → Go K 76 [(0, .ref (ad K c0)), (2, .int a2), (3, .int s'.1)] [] s'.2) (hex0 : ∀ s', o = .inr (s') → Go K 103 [(0, .ref (ad K c0)), (2, .int a2)] [] s') : Go K 76 [(0, .ref (ad K c0)), (2, .int a2), (3, .int a3)] [] h := by
  unfold s_X10_back_l76 at hyp
  refine g_iload_n (pc := 76) 2 S dX10_back_76 rfl ?_
  refine g_iconst (pc := 77) (v := (4 : Int32)) S dX10_back_77 (by decide) ?_
  refine g_icmp_ge (pc := 78) (tgt := 103) S dX10_back_78 (by decide) hyp (fun hyp => ?_) (fun hyp => ?_)
  · refine g_aload_n (pc := 81) 0 S dX10_back_81 rfl ?_
    refine g_getR (pc := 82) S dX10_back_82 fl_X10_20 k0 ?_
    refine g_iload_n (pc := 85) 2 S dX10_back_85 rfl ?_
    refine g_aload_n (pc := 86) 0 S dX10_back_86 rfl ?_
    refine g_getR (pc := 87) S dX10_back_87 fl_X10_26 k0 ?_
    refine g_iload_n (pc := 90) 1 S dX10_back_90 rfl ?_
    refine g_iconst (pc := 91) (v := (4 : Int32)) S dX10_back_91 (by decide) ?_
    refine g_iadd (pc := 92) S dX10_back_92 ?_
    refine g_iload_n (pc := 93) 2 S dX10_back_93 rfl ?_
    refine g_iadd (pc := 94) S dX10_back_94 ?_
    refine g_iald (pc := 95) S dX10_back_95 (kf_10_5 k0) hyp (fun x12 hyp => ?_)
    refine g_iast (pc := 96) S dX10_back_96 (kf_10_3 k0) hyp (fun h13 hyp => ?_)
    refine g_iinc (pc := 97) (v := (a3 + (1 : Int32))) (lv' := [(3, .int (a3 + (1 : Int32))), (0, .ref (ad K c0)), (2, .int a2)]) 2 S dX10_back_97 rfl (by rfl) (by decide) rfl ?_
    refine g_lti (C := fun v3_14 => Go K (97 + 3) [(3, .int v3_14), (0, .ref (ad K c0)), (2, .int a2)] [] h13) hyp (fun v3_14 hyp => ?_)
    refine g_goto (pc := 100) (tgt := 76) S dX10_back_100 (by decide) ?_
    have hyp := Option.some.inj hyp
    subst hyp
    exact g_sub [1, 2, 0] rfl (hin (v3_14, h13) rfl)
  · have hyp := Option.some.inj hyp
    subst hyp
    exact g_sub [0, 1] rfl (hex0 h rfl)
set_option maxRecDepth 100000 in
set_option maxHeartbeats 4000000 in
theorem o_X10_back_l105 {K : gK} (S : Cx K RX10 cX10_back 4 1 26) {c0 : Nat} (k0 : kd c0 (10 + 10, 0)) (a2 : Int32) (a3 : Int32) (h : Hp) {o : (Int32 × Hp) ⊕ (Hp)} (hyp : s_X10_back_l105 c0 a2 a3 h = some o) (hin : ∀ s', o = .inl s' → Go K 105 [(0, .ref (ad K c0)), (2, .int a2), (3, .int s'.1)] [] s'.2) (hex0 : ∀ s', o = .inr (s') → Go K 134 [(0, .ref (ad K c0)), (2, .int a2)] [] s') : Go K 105 [(0, .ref (ad K c0)), (2, .int a2), (3, .int a3)] [] h := by
  unfold s_X10_back_l105 at hyp
  refine g_iload_n (pc := 105) 2 S dX10_back_105 rfl ?_
  refine g_bipush (pc := 106) (v := (24 : Int32)) S dX10_back_106 (by decide) ?_
  refine g_icmp_ge (pc := 108) (tgt := 134) S dX10_back_108 (by decide) hyp (fun hyp => ?_) (fun hyp => ?_)
  · refine g_aload_n (pc := 111) 0 S dX10_back_111 rfl ?_
    refine g_getR (pc := 112) S dX10_back_112 fl_X10_13 k0 ?_
    refine g_iload_n (pc := 115) 2 S dX10_back_115 rfl ?_
    refine g_aload_n (pc := 116) 0 S dX10_back_116 rfl ?_
    refine g_getR (pc := 117) S dX10_back_117 fl_X10_26 k0 ?_
    refine g_iload_n (pc := 120) 1 S dX10_back_120 rfl ?_
    refine g_bipush (pc := 121) (v := (8 : Int32)) S dX10_back_121 (by decide) ?_
    refine g_iadd (pc := 123) S dX10_back_123 ?_
    refine g_iload_n (pc := 124) 2 S dX10_back_124 rfl ?_
    refine g_iadd (pc := 125) S dX10_back_125 ?_
    refine g_iald (pc := 126) S dX10_back_126 (kf_10_5 k0) hyp (fun x16 hyp => ?_)
    refine g_iast (pc := 127) S dX10_back_127 (kf_10_1 k0) hyp (fun h17 hyp => ?_)
    refine g_iinc (pc := 128) (v := (a3 + (1 : Int32))) (lv' := [(3, .int (a3 + (1 : Int32))), (0, .ref (ad K c0)), (2, .int a2)]) 2 S dX10_back_128 rfl (by rfl) (by decide) rfl ?_
    refine g_lti (C := fun v3_18 => Go K (128 + 3) [(3, .int v3_18), (0, .ref (ad K c0)), (2, .int a2)] [] h17) hyp (fun v3_18 hyp => ?_)
    refine g_goto (pc := 131) (tgt := 105) S dX10_back_131 (by decide) ?_
    have hyp := Option.some.inj hyp
    subst hyp
    exact g_sub [1, 2, 0] rfl (hin (v3_18, h17) rfl)
  · have hyp := Option.some.inj hyp
    subst hyp
    exact g_sub [0, 1] rfl (hex0 h rfl)
set_option maxRecDepth 100000 in
set_option maxHeartbeats 4000000 in
theorem o_X10_back_l136 {K : gK} (S : Cx K RX10 cX10_back 4 1 26) {c0 : Nat} (k0 : kd c0 (10 + 10, 0)) (a2 : Int32) (a3 : Int32) (h : Hp) {o : (Int32 × Hp) ⊕ (Hp)} (hyp : s_X10_back_l136 c0 a2 a3 h = some o) (hin : ∀ s', o = .inl s' → Go K 136 [(0, .ref (ad K c0)), (2, .int a2), (3, .int s'.1)] [] s'.2) (hex0 : ∀ s', o = .inr (s') → Go K 165 [(0, .ref (ad K c0))] [] s') : Go K 136 [(0, .ref (ad K c0)), (2, .int a2), (3, .int a3)] [] h := by
  unfold s_X10_back_l136 at hyp
  refine g_iload_n (pc := 136) 2 S dX10_back_136 rfl ?_
  refine g_bipush (pc := 137) (v := (30 : Int32)) S dX10_back_137 (by decide) ?_
  refine g_icmp_ge (pc := 139) (tgt := 165) S dX10_back_139 (by decide) hyp (fun hyp => ?_) (fun hyp => ?_)
  · refine g_aload_n (pc := 142) 0 S dX10_back_142 rfl ?_
    refine g_getR (pc := 143) S dX10_back_143 fl_X10_17 k0 ?_
    refine g_iload_n (pc := 146) 2 S dX10_back_146 rfl ?_
    refine g_aload_n (pc := 147) 0 S dX10_back_147 rfl ?_
    refine g_getR (pc := 148) S dX10_back_148 fl_X10_26 k0 ?_
    refine g_iload_n (pc := 151) 1 S dX10_back_151 rfl ?_
    refine g_bipush (pc := 152) (v := (32 : Int32)) S dX10_back_152 (by decide) ?_
    refine g_iadd (pc := 154) S dX10_back_154 ?_
    refine g_iload_n (pc := 155) 2 S dX10_back_155 rfl ?_
    refine g_iadd (pc := 156) S dX10_back_156 ?_
    refine g_iald (pc := 157) S dX10_back_157 (kf_10_5 k0) hyp (fun x20 hyp => ?_)
    refine g_iast (pc := 158) S dX10_back_158 (kf_10_2 k0) hyp (fun h21 hyp => ?_)
    refine g_iinc (pc := 159) (v := (a3 + (1 : Int32))) (lv' := [(3, .int (a3 + (1 : Int32))), (0, .ref (ad K c0)), (2, .int a2)]) 2 S dX10_back_159 rfl (by rfl) (by decide) rfl ?_
    refine g_lti (C := fun v3_22 => Go K (159 + 3) [(3, .int v3_22), (0, .ref (ad K c0)), (2, .int a2)] [] h21) hyp (fun v3_22 hyp => ?_)
    refine g_goto (pc := 162) (tgt := 136) S dX10_back_162 (by decide) ?_
    have hyp := Option.some.inj hyp
    subst hyp
    exact g_sub [1, 2, 0] rfl (hin (v3_22, h21) rfl)
  · have hyp := Option.some.inj hyp
    subst hyp
    exact g_sub [0] rfl (hex0 h rfl)
set_option maxRecDepth 100000 in
set_option maxHeartbeats 4000000 in
theorem o_X10_back {K : gK} (S : Cx K RX10 cX10_back 4 1 26) {c0 : Nat} (k0 : kd c0 (10 + 10, 0)) (a1 : Int32) (h : Hp) {o : Int32 × Hp} (hyp : s_X10_back c0 a1 h = some o) (F : Rt K (some .int) (some (.int o.1)) o.2) : Go K 0 [(0, .ref (ad K c0)), (1, .int a1)] [] h := by
  unfold s_X10_back at hyp
  refine g_iload_n (pc := 0) 1 S dX10_back_0 rfl ?_
  refine g_iconst (pc := 1) (v := (0 : Int32)) S dX10_back_1 (by decide) ?_
  refine g_iconst (pc := 2) (v := (1 : Int32)) S dX10_back_2 (by decide) ?_
  refine g_bind hyp (fun y1 hy1 hyp => ?_)
  refine g_callS (pc := 3) (As := [.int a1, .int (0 : Int32), .int (1 : Int32)]) (rest := []) S dX10_back_3 tw_990 tw_991 mw_X10_in (m_X10_in  a1 (0 : Int32) (1 : Int32) h hy1) rfl rfl (Nat.le_of_ble_eq_true rfl) (Nat.le_of_ble_eq_true rfl) (Nat.le_of_ble_eq_true rfl) ?_
  refine g_if_ne (pc := 6) (tgt := 11) S dX10_back_6 (by decide) hyp (fun hyp => ?_) (fun hyp => ?_)
  · refine g_iconst (pc := 9) (v := (-1 : Int32)) S dX10_back_9 (by decide) ?_
    have hyp := Option.some.inj hyp
    subst hyp
    exact g_iret (pc := 10) S F dX10_back_10
  · refine g_aload_n (pc := 11) 0 S dX10_back_11 rfl ?_
    refine g_getR (pc := 12) S dX10_back_12 fl_X10_23 k0 ?_
    refine g_iload_n (pc := 15) 1 S dX10_back_15 rfl ?_
    refine g_iald (pc := 16) S dX10_back_16 (kf_10_4 k0) hyp (fun x2 hyp => ?_)
    refine g_if_ne (pc := 17) (tgt := 23) S dX10_back_17 (by decide) hyp (fun hyp => ?_) (fun hyp => ?_)
    · refine g_bipush (pc := 20) (v := (-2 : Int32)) S dX10_back_20 (by decide) ?_
      have hyp := Option.some.inj hyp
      subst hyp
      exact g_iret (pc := 22) S F dX10_back_22
    · refine g_bipush (pc := 23) (v := (64 : Int32)) S dX10_back_23 (by decide) ?_
      refine g_iload_n (pc := 25) 1 S dX10_back_25 rfl ?_
      refine g_imul (pc := 26) S dX10_back_26 ?_
      refine g_lti (C := fun v2_3 => Go K 27 [(0, .ref (ad K c0)), (1, .int a1)] [.int v2_3] h) hyp (fun v2_3 hyp => ?_)
      refine g_istore_n (pc := 27) (lv' := [(2, .int v2_3), (0, .ref (ad K c0)), (1, .int a1)]) S dX10_back_27 rfl (by decide) rfl ?_
      refine g_aload_n (pc := 28) 1 S dX10_back_28 rfl ?_
      refine g_aload_n (pc := 29) 1 S dX10_back_29 rfl ?_
      refine g_getR (pc := 30) S dX10_back_30 fl_X10_26 k0 ?_
      refine g_iload_n (pc := 33) 0 S dX10_back_33 rfl ?_
      refine g_iald (pc := 34) S dX10_back_34 (kf_10_5 k0) hyp (fun x4 hyp => ?_)
      refine g_putI (pc := 35) S dX10_back_35 fl_X10_7 k0 hyp (fun h5 hyp => ?_)
      refine g_aload_n (pc := 38) 1 S dX10_back_38 rfl ?_
      refine g_aload_n (pc := 39) 1 S dX10_back_39 rfl ?_
      refine g_getR (pc := 40) S dX10_back_40 fl_X10_26 k0 ?_
      refine g_iload_n (pc := 43) 0 S dX10_back_43 rfl ?_
      refine g_iconst (pc := 44) (v := (1 : Int32)) S dX10_back_44 (by decide) ?_
      refine g_iadd (pc := 45) S dX10_back_45 ?_
      refine g_iald (pc := 46) S dX10_back_46 (kf_10_5 k0) hyp (fun x6 hyp => ?_)
      refine g_putI (pc := 47) S dX10_back_47 fl_X10_94 k0 hyp (fun h7 hyp => ?_)
      refine g_aload_n (pc := 50) 1 S dX10_back_50 rfl ?_
      refine g_aload_n (pc := 51) 1 S dX10_back_51 rfl ?_
      refine g_getR (pc := 52) S dX10_back_52 fl_X10_26 k0 ?_
      refine g_iload_n (pc := 55) 0 S dX10_back_55 rfl ?_
      refine g_iconst (pc := 56) (v := (2 : Int32)) S dX10_back_56 (by decide) ?_
      refine g_iadd (pc := 57) S dX10_back_57 ?_
      refine g_iald (pc := 58) S dX10_back_58 (kf_10_5 k0) hyp (fun x8 hyp => ?_)
      refine g_putI (pc := 59) S dX10_back_59 fl_X10_97 k0 hyp (fun h9 hyp => ?_)
      refine g_aload_n (pc := 62) 1 S dX10_back_62 rfl ?_
      refine g_aload_n (pc := 63) 1 S dX10_back_63 rfl ?_
      refine g_getR (pc := 64) S dX10_back_64 fl_X10_26 k0 ?_
      refine g_iload_n (pc := 67) 0 S dX10_back_67 rfl ?_
      refine g_iconst (pc := 68) (v := (3 : Int32)) S dX10_back_68 (by decide) ?_
      refine g_iadd (pc := 69) S dX10_back_69 ?_
      refine g_iald (pc := 70) S dX10_back_70 (kf_10_5 k0) hyp (fun x10 hyp => ?_)
      refine g_putI (pc := 71) S dX10_back_71 fl_X10_100 k0 hyp (fun h11 hyp => ?_)
      refine g_iconst (pc := 74) (v := (0 : Int32)) S dX10_back_74 (by decide) ?_
      refine g_istore_n (pc := 75) (lv' := [(3, .int (0 : Int32)), (2, .int v2_3), (0, .ref (ad K c0)), (1, .int a1)]) S dX10_back_75 rfl (by decide) rfl ?_
      refine g_bind hyp (fun e15 he15 hyp => ?_)
      refine g_sub [2, 1, 0] rfl (g_loop (f := fun s : Int32 × Hp => s_X10_back_l76 c0 v2_3 s.1 s.2) (ρ := Hp) (Hd := fun s : Int32 × Hp => Go K 76 [(0, .ref (ad K c0)), (2, .int v2_3), (3, .int s.1)] [] s.2) (Ex := fun e15 => Go K 103 [(0, .ref (ad K c0)), (2, .int v2_3)] [] e15) (fun s o h1 h2 h3 => o_X10_back_l76 S k0 v2_3 s.1 s.2 h1 h2 h3) FUEL _ e15 he15 ?_)
      refine g_iconst (pc := 103) (v := (0 : Int32)) S dX10_back_103 (by decide) ?_
      refine g_istore_n (pc := 104) (lv' := [(3, .int (0 : Int32)), (0, .ref (ad K c0)), (2, .int v2_3)]) S dX10_back_104 rfl (by decide) rfl ?_
      refine g_bind hyp (fun e19 he19 hyp => ?_)
      refine g_sub [1, 2, 0] rfl (g_loop (f := fun s : Int32 × Hp => s_X10_back_l105 c0 v2_3 s.1 s.2) (ρ := Hp) (Hd := fun s : Int32 × Hp => Go K 105 [(0, .ref (ad K c0)), (2, .int v2_3), (3, .int s.1)] [] s.2) (Ex := fun e19 => Go K 134 [(0, .ref (ad K c0)), (2, .int v2_3)] [] e19) (fun s o h1 h2 h3 => o_X10_back_l105 S k0 v2_3 s.1 s.2 h1 h2 h3) FUEL _ e19 he19 ?_)
      refine g_iconst (pc := 134) (v := (0 : Int32)) S dX10_back_134 (by decide) ?_
      refine g_istore_n (pc := 135) (lv' := [(3, .int (0 : Int32)), (0, .ref (ad K c0)), (2, .int v2_3)]) S dX10_back_135 rfl (by decide) rfl ?_
      refine g_bind hyp (fun e23 he23 hyp => ?_)
      refine g_sub [1, 2, 0] rfl (g_loop (f := fun s : Int32 × Hp => s_X10_back_l136 c0 v2_3 s.1 s.2) (ρ := Hp) (Hd := fun s : Int32 × Hp => Go K 136 [(0, .ref (ad K c0)), (2, .int v2_3), (3, .int s.1)] [] s.2) (Ex := fun e23 => Go K 165 [(0, .ref (ad K c0))] [] e23) (fun s o h1 h2 h3 => o_X10_back_l136 S k0 v2_3 s.1 s.2 h1 h2 h3) FUEL _ e23 he23 ?_)
      refine g_aload_n (pc := 165) 0 S dX10_back_165 rfl ?_
      refine g_getI (pc := 166) S dX10_back_166 fl_X10_97 k0 ?_
      have hyp := Option.some.inj hyp
      subst hyp
      exact g_iret (pc := 169) S F dX10_back_169
theorem m_X10_back {l : Launch} {D : va_G} {cT : Nat → ClassId} {aD : Nat → Nat} {c0 : Nat} (k0 : kd c0 (10 + 10, 0)) (a1 : Int32) (h : Hp) {o : Int32 × Hp} (hyp : s_X10_back c0 a1 h = some o) : Ok l D cT aD yX10_back cX10_back 4 (some .int) 1 26 [.ref (aD c0), .int a1] h (some (.int o.1)) o.2 :=
  Ok.of (by decide +kernel) rfl (Nat.le_of_ble_eq_true rfl) (fun K e1 e2 e3 e4 S F => by subst e1; exact o_X10_back S k0 a1 h hyp F)
-- BoundProofsModel isForm (I)Z
noncomputable def s_X10_isForm (c0 : Nat) (a1 : Int32) (h : Hp) : Option (Int32) :=
  (s_X10_in  a1 (0 : Int32) ((h.1 c0 1) - (1 : Int32)) h).bind fun y1 =>
  ckB y1 <|
  some y1
set_option maxRecDepth 100000 in
set_option maxHeartbeats 4000000 in
theorem o_X10_isForm {K : gK} (S : Cx K RX10 cX10_isForm 2 1 26) {c0 : Nat} (k0 : kd c0 (10 + 10, 0)) (a1 : Int32) (h : Hp) {o : Int32} (hyp : s_X10_isForm c0 a1 h = some o) (F : Rt K (some .boolean) (some (.int o)) h) : Go K 0 [(0, .ref (ad K c0)), (1, .int a1)] [] h := by
  unfold s_X10_isForm at hyp
  refine g_iload_n (pc := 0) 1 S dX10_isForm_0 rfl ?_
  refine g_iconst (pc := 1) (v := (0 : Int32)) S dX10_isForm_1 (by decide) ?_
  refine g_aload_n (pc := 2) 0 S dX10_isForm_2 rfl ?_
  refine g_getI (pc := 3) S dX10_isForm_3 fl_X10_94 k0 ?_
  refine g_iconst (pc := 6) (v := (1 : Int32)) S dX10_isForm_6 (by decide) ?_
  refine g_isub (pc := 7) S dX10_isForm_7 ?_
  refine g_bind hyp (fun y1 hy1 hyp => ?_)
  refine g_callS (pc := 8) (As := [.int a1, .int (0 : Int32), .int ((h.1 c0 1) - (1 : Int32))]) (rest := []) S dX10_isForm_8 tw_990 tw_991 mw_X10_in (m_X10_in  a1 (0 : Int32) ((h.1 c0 1) - (1 : Int32)) h hy1) rfl rfl (Nat.le_of_ble_eq_true rfl) (Nat.le_of_ble_eq_true rfl) (Nat.le_of_ble_eq_true rfl) ?_
  refine g_ckB hyp (fun hz hyp => ?_)
  have hyp := Option.some.inj hyp
  subst hyp
  exact g_zret (pc := 11) S F dX10_isForm_11 hz
theorem m_X10_isForm {l : Launch} {D : va_G} {cT : Nat → ClassId} {aD : Nat → Nat} {c0 : Nat} (k0 : kd c0 (10 + 10, 0)) (a1 : Int32) (h : Hp) {o : Int32} (hyp : s_X10_isForm c0 a1 h = some o) : Ok l D cT aD yX10_isForm cX10_isForm 2 (some .boolean) 1 26 [.ref (aD c0), .int a1] h (some (.int o)) h :=
  Ok.of (by decide +kernel) rfl (Nat.le_of_ble_eq_true rfl) (fun K e1 e2 e3 e4 S F => by subst e1; exact o_X10_isForm S k0 a1 h hyp F)
-- BoundProofsModel isVariable (I)Z
noncomputable def s_X10_isVariable (c0 : Nat) (a1 : Int32) (h : Hp) : Option (Int32) :=
  (s_X10_in  a1 (0 : Int32) ((h.1 c0 0) - (1 : Int32)) h).bind fun y1 =>
  ckB y1 <|
  some y1
set_option maxRecDepth 100000 in
set_option maxHeartbeats 4000000 in
theorem o_X10_isVariable {K : gK} (S : Cx K RX10 cX10_isVariable 2 1 26) {c0 : Nat} (k0 : kd c0 (10 + 10, 0)) (a1 : Int32) (h : Hp) {o : Int32} (hyp : s_X10_isVariable c0 a1 h = some o) (F : Rt K (some .boolean) (some (.int o)) h) : Go K 0 [(0, .ref (ad K c0)), (1, .int a1)] [] h := by
  unfold s_X10_isVariable at hyp
  refine g_iload_n (pc := 0) 1 S dX10_isVariable_0 rfl ?_
  refine g_iconst (pc := 1) (v := (0 : Int32)) S dX10_isVariable_1 (by decide) ?_
  refine g_aload_n (pc := 2) 0 S dX10_isVariable_2 rfl ?_
  refine g_getI (pc := 3) S dX10_isVariable_3 fl_X10_7 k0 ?_
  refine g_iconst (pc := 6) (v := (1 : Int32)) S dX10_isVariable_6 (by decide) ?_
  refine g_isub (pc := 7) S dX10_isVariable_7 ?_
  refine g_bind hyp (fun y1 hy1 hyp => ?_)
  refine g_callS (pc := 8) (As := [.int a1, .int (0 : Int32), .int ((h.1 c0 0) - (1 : Int32))]) (rest := []) S dX10_isVariable_8 tw_990 tw_991 mw_X10_in (m_X10_in  a1 (0 : Int32) ((h.1 c0 0) - (1 : Int32)) h hy1) rfl rfl (Nat.le_of_ble_eq_true rfl) (Nat.le_of_ble_eq_true rfl) (Nat.le_of_ble_eq_true rfl) ?_
  refine g_ckB hyp (fun hz hyp => ?_)
  have hyp := Option.some.inj hyp
  subst hyp
  exact g_zret (pc := 11) S F dX10_isVariable_11 hz
theorem m_X10_isVariable {l : Launch} {D : va_G} {cT : Nat → ClassId} {aD : Nat → Nat} {c0 : Nat} (k0 : kd c0 (10 + 10, 0)) (a1 : Int32) (h : Hp) {o : Int32} (hyp : s_X10_isVariable c0 a1 h = some o) : Ok l D cT aD yX10_isVariable cX10_isVariable 2 (some .boolean) 1 26 [.ref (aD c0), .int a1] h (some (.int o)) h :=
  Ok.of (by decide +kernel) rfl (Nat.le_of_ble_eq_true rfl) (fun K e1 e2 e3 e4 S F => by subst e1; exact o_X10_isVariable S k0 a1 h hyp F)
-- BoundProofsModel isBound (I)Z
noncomputable def s_X10_isBound (c0 : Nat) (a1 : Int32) (h : Hp) : Option (Int32) :=
  (s_X10_in  a1 (0 : Int32) ((h.1 c0 3) - (1 : Int32)) h).bind fun y1 =>
  ckB y1 <|
  some y1
set_option maxRecDepth 100000 in
set_option maxHeartbeats 4000000 in
theorem o_X10_isBound {K : gK} (S : Cx K RX10 cX10_isBound 2 1 26) {c0 : Nat} (k0 : kd c0 (10 + 10, 0)) (a1 : Int32) (h : Hp) {o : Int32} (hyp : s_X10_isBound c0 a1 h = some o) (F : Rt K (some .boolean) (some (.int o)) h) : Go K 0 [(0, .ref (ad K c0)), (1, .int a1)] [] h := by
  unfold s_X10_isBound at hyp
  refine g_iload_n (pc := 0) 1 S dX10_isBound_0 rfl ?_
  refine g_iconst (pc := 1) (v := (0 : Int32)) S dX10_isBound_1 (by decide) ?_
  refine g_aload_n (pc := 2) 0 S dX10_isBound_2 rfl ?_
  refine g_getI (pc := 3) S dX10_isBound_3 fl_X10_97 k0 ?_
  refine g_iconst (pc := 6) (v := (1 : Int32)) S dX10_isBound_6 (by decide) ?_
  refine g_isub (pc := 7) S dX10_isBound_7 ?_
  refine g_bind hyp (fun y1 hy1 hyp => ?_)
  refine g_callS (pc := 8) (As := [.int a1, .int (0 : Int32), .int ((h.1 c0 3) - (1 : Int32))]) (rest := []) S dX10_isBound_8 tw_990 tw_991 mw_X10_in (m_X10_in  a1 (0 : Int32) ((h.1 c0 3) - (1 : Int32)) h hy1) rfl rfl (Nat.le_of_ble_eq_true rfl) (Nat.le_of_ble_eq_true rfl) (Nat.le_of_ble_eq_true rfl) ?_
  refine g_ckB hyp (fun hz hyp => ?_)
  have hyp := Option.some.inj hyp
  subst hyp
  exact g_zret (pc := 11) S F dX10_isBound_11 hz
theorem m_X10_isBound {l : Launch} {D : va_G} {cT : Nat → ClassId} {aD : Nat → Nat} {c0 : Nat} (k0 : kd c0 (10 + 10, 0)) (a1 : Int32) (h : Hp) {o : Int32} (hyp : s_X10_isBound c0 a1 h = some o) : Ok l D cT aD yX10_isBound cX10_isBound 2 (some .boolean) 1 26 [.ref (aD c0), .int a1] h (some (.int o)) h :=
  Ok.of (by decide +kernel) rfl (Nat.le_of_ble_eq_true rfl) (fun K e1 e2 e3 e4 S F => by subst e1; exact o_X10_isBound S k0 a1 h hyp F)
-- BoundProofsModel isTold (III)Z
noncomputable def s_X10_isTold (c0 : Nat) (a1 : Int32) (a2 : Int32) (a3 : Int32) (h : Hp) : Option (Int32) :=
  (s_X10_isForm c0 a1 h).bind fun y1 =>
  if y1 = 0 then (some (0 : Int32))
  else ((s_X10_in  a2 (0 : Int32) (4 : Int32) h).bind fun y2 =>
  if y2 = 0 then (some (0 : Int32))
  else ((s_X10_in  a3 (-50 : Int32) (50 : Int32) h).bind fun y3 =>
  if y3 = 0 then (some (0 : Int32))
  else (some (1 : Int32))))
set_option maxRecDepth 100000 in
set_option maxHeartbeats 4000000 in
theorem o_X10_isTold {K : gK} (S : Cx K RX10 cX10_isTold 4 2 51) {c0 : Nat} (k0 : kd c0 (10 + 10, 0)) (a1 : Int32) (a2 : Int32) (a3 : Int32) (h : Hp) {o : Int32} (hyp : s_X10_isTold c0 a1 a2 a3 h = some o) (F : Rt K (some .boolean) (some (.int o)) h) : Go K 0 [(0, .ref (ad K c0)), (1, .int a1), (2, .int a2), (3, .int a3)] [] h := by
  unfold s_X10_isTold at hyp
  refine g_aload_n (pc := 0) 0 S dX10_isTold_0 rfl ?_
  refine g_iload_n (pc := 1) 1 S dX10_isTold_1 rfl ?_
  refine g_bind hyp (fun y1 hy1 hyp => ?_)
  refine g_callV (pc := 2) (As := [.int a1]) (rest := []) S dX10_isTold_2 k0 rfl tw_1014 tw_1015 tw_34 mw_X10_isForm (m_X10_isForm k0 a1 h hy1) rfl rfl (Nat.le_of_ble_eq_true rfl) (Nat.le_of_ble_eq_true rfl) (Nat.le_of_ble_eq_true rfl) ?_
  refine g_if_eq (pc := 5) (tgt := 32) S dX10_isTold_5 (by decide) hyp (fun hyp => ?_) (fun hyp => ?_)
  · refine g_iconst (pc := 32) (v := (0 : Int32)) S dX10_isTold_32 (by decide) ?_
    have hyp := Option.some.inj hyp
    subst hyp
    exact g_zret (pc := 33) S F dX10_isTold_33 (Or.inl rfl)
  · refine g_iload_n (pc := 8) 2 S dX10_isTold_8 rfl ?_
    refine g_iconst (pc := 9) (v := (0 : Int32)) S dX10_isTold_9 (by decide) ?_
    refine g_iconst (pc := 10) (v := (4 : Int32)) S dX10_isTold_10 (by decide) ?_
    refine g_bind hyp (fun y2 hy2 hyp => ?_)
    refine g_callS (pc := 11) (As := [.int a2, .int (0 : Int32), .int (4 : Int32)]) (rest := []) S dX10_isTold_11 tw_990 tw_991 mw_X10_in (m_X10_in  a2 (0 : Int32) (4 : Int32) h hy2) rfl rfl (Nat.le_of_ble_eq_true rfl) (Nat.le_of_ble_eq_true rfl) (Nat.le_of_ble_eq_true rfl) ?_
    refine g_if_eq (pc := 14) (tgt := 32) S dX10_isTold_14 (by decide) hyp (fun hyp => ?_) (fun hyp => ?_)
    · refine g_iconst (pc := 32) (v := (0 : Int32)) S dX10_isTold_32 (by decide) ?_
      have hyp := Option.some.inj hyp
      subst hyp
      exact g_zret (pc := 33) S F dX10_isTold_33 (Or.inl rfl)
    · refine g_iload_n (pc := 17) 3 S dX10_isTold_17 rfl ?_
      refine g_bipush (pc := 18) (v := (-50 : Int32)) S dX10_isTold_18 (by decide) ?_
      refine g_bipush (pc := 20) (v := (50 : Int32)) S dX10_isTold_20 (by decide) ?_
      refine g_bind hyp (fun y3 hy3 hyp => ?_)
      refine g_callS (pc := 22) (As := [.int a3, .int (-50 : Int32), .int (50 : Int32)]) (rest := []) S dX10_isTold_22 tw_990 tw_991 mw_X10_in (m_X10_in  a3 (-50 : Int32) (50 : Int32) h hy3) rfl rfl (Nat.le_of_ble_eq_true rfl) (Nat.le_of_ble_eq_true rfl) (Nat.le_of_ble_eq_true rfl) ?_
      refine g_if_eq (pc := 25) (tgt := 32) S dX10_isTold_25 (by decide) hyp (fun hyp => ?_) (fun hyp => ?_)
      · refine g_iconst (pc := 32) (v := (0 : Int32)) S dX10_isTold_32 (by decide) ?_
        have hyp := Option.some.inj hyp
        subst hyp
        exact g_zret (pc := 33) S F dX10_isTold_33 (Or.inl rfl)
      · refine g_iconst (pc := 28) (v := (1 : Int32)) S dX10_isTold_28 (by decide) ?_
        refine g_goto (pc := 29) (tgt := 33) S dX10_isTold_29 (by decide) ?_
        have hyp := Option.some.inj hyp
        subst hyp
        exact g_zret (pc := 33) S F dX10_isTold_33 (Or.inr rfl)
theorem m_X10_isTold {l : Launch} {D : va_G} {cT : Nat → ClassId} {aD : Nat → Nat} {c0 : Nat} (k0 : kd c0 (10 + 10, 0)) (a1 : Int32) (a2 : Int32) (a3 : Int32) (h : Hp) {o : Int32} (hyp : s_X10_isTold c0 a1 a2 a3 h = some o) : Ok l D cT aD yX10_isTold cX10_isTold 4 (some .boolean) 2 51 [.ref (aD c0), .int a1, .int a2, .int a3] h (some (.int o)) h :=
  Ok.of (by decide +kernel) rfl (Nat.le_of_ble_eq_true rfl) (fun K e1 e2 e3 e4 S F => by subst e1; exact o_X10_isTold S k0 a1 a2 a3 h hyp F)
-- BoundProofsModel isCoefficient (II)Z
noncomputable def s_X10_isCoefficient (c0 : Nat) (a1 : Int32) (a2 : Int32) (h : Hp) : Option (Int32) :=
  (s_X10_in  a2 (-3 : Int32) (3 : Int32) h).bind fun y1 =>
  if y1 = 0 then (some (0 : Int32))
  else (if a2 = 0 then (some (1 : Int32))
  else (if a1 < (h.1 c0 0) then (some (1 : Int32))
  else (some (0 : Int32))))
set_option maxRecDepth 100000 in
set_option maxHeartbeats 4000000 in
theorem o_X10_isCoefficient {K : gK} (S : Cx K RX10 cX10_isCoefficient 3 1 26) {c0 : Nat} (k0 : kd c0 (10 + 10, 0)) (a1 : Int32) (a2 : Int32) (h : Hp) {o : Int32} (hyp : s_X10_isCoefficient c0 a1 a2 h = some o) (F : Rt K (some .boolean) (some (.int o)) h) : Go K 0 [(0, .ref (ad K c0)), (1, .int a1), (2, .int a2)] [] h := by
  unfold s_X10_isCoefficient at hyp
  refine g_iload_n (pc := 0) 2 S dX10_isCoefficient_0 rfl ?_
  refine g_bipush (pc := 1) (v := (-3 : Int32)) S dX10_isCoefficient_1 (by decide) ?_
  refine g_iconst (pc := 3) (v := (3 : Int32)) S dX10_isCoefficient_3 (by decide) ?_
  refine g_bind hyp (fun y1 hy1 hyp => ?_)
  refine g_callS (pc := 4) (As := [.int a2, .int (-3 : Int32), .int (3 : Int32)]) (rest := []) S dX10_isCoefficient_4 tw_990 tw_991 mw_X10_in (m_X10_in  a2 (-3 : Int32) (3 : Int32) h hy1) rfl rfl (Nat.le_of_ble_eq_true rfl) (Nat.le_of_ble_eq_true rfl) (Nat.le_of_ble_eq_true rfl) ?_
  refine g_if_eq (pc := 7) (tgt := 26) S dX10_isCoefficient_7 (by decide) hyp (fun hyp => ?_) (fun hyp => ?_)
  · refine g_iconst (pc := 26) (v := (0 : Int32)) S dX10_isCoefficient_26 (by decide) ?_
    have hyp := Option.some.inj hyp
    subst hyp
    exact g_zret (pc := 27) S F dX10_isCoefficient_27 (Or.inl rfl)
  · refine g_iload_n (pc := 10) 2 S dX10_isCoefficient_10 rfl ?_
    refine g_if_eq (pc := 11) (tgt := 22) S dX10_isCoefficient_11 (by decide) hyp (fun hyp => ?_) (fun hyp => ?_)
    · refine g_iconst (pc := 22) (v := (1 : Int32)) S dX10_isCoefficient_22 (by decide) ?_
      refine g_goto (pc := 23) (tgt := 27) S dX10_isCoefficient_23 (by decide) ?_
      have hyp := Option.some.inj hyp
      subst hyp
      exact g_zret (pc := 27) S F dX10_isCoefficient_27 (Or.inr rfl)
    · refine g_iload_n (pc := 14) 1 S dX10_isCoefficient_14 rfl ?_
      refine g_aload_n (pc := 15) 0 S dX10_isCoefficient_15 rfl ?_
      refine g_getI (pc := 16) S dX10_isCoefficient_16 fl_X10_7 k0 ?_
      refine g_icmp_ge (pc := 19) (tgt := 26) S dX10_isCoefficient_19 (by decide) hyp (fun hyp => ?_) (fun hyp => ?_)
      · refine g_iconst (pc := 22) (v := (1 : Int32)) S dX10_isCoefficient_22 (by decide) ?_
        refine g_goto (pc := 23) (tgt := 27) S dX10_isCoefficient_23 (by decide) ?_
        have hyp := Option.some.inj hyp
        subst hyp
        exact g_zret (pc := 27) S F dX10_isCoefficient_27 (Or.inr rfl)
      · refine g_iconst (pc := 26) (v := (0 : Int32)) S dX10_isCoefficient_26 (by decide) ?_
        have hyp := Option.some.inj hyp
        subst hyp
        exact g_zret (pc := 27) S F dX10_isCoefficient_27 (Or.inl rfl)
theorem m_X10_isCoefficient {l : Launch} {D : va_G} {cT : Nat → ClassId} {aD : Nat → Nat} {c0 : Nat} (k0 : kd c0 (10 + 10, 0)) (a1 : Int32) (a2 : Int32) (h : Hp) {o : Int32} (hyp : s_X10_isCoefficient c0 a1 a2 h = some o) : Ok l D cT aD yX10_isCoefficient cX10_isCoefficient 3 (some .boolean) 1 26 [.ref (aD c0), .int a1, .int a2] h (some (.int o)) h :=
  Ok.of (by decide +kernel) rfl (Nat.le_of_ble_eq_true rfl) (fun K e1 e2 e3 e4 S F => by subst e1; exact o_X10_isCoefficient S k0 a1 a2 h hyp F)
-- BoundProofsModel comesForm (III)V
noncomputable def s_X10_comesForm (c0 : Nat) (a1 : Int32) (a2 : Int32) (a3 : Int32) (h : Hp) : Option (Hp) :=
  stI h (c0 + 1) 24 ((3 : Int32) * (h.1 c0 1)) a1 fun h1 =>
  stI h1 (c0 + 1) 24 (((3 : Int32) * (h1.1 c0 1)) + (1 : Int32)) a2 fun h2 =>
  stI h2 (c0 + 1) 24 (((3 : Int32) * (h2.1 c0 1)) + (2 : Int32)) a3 fun h3 =>
  lt (sI h3 c0 1 ((h3.1 c0 1) + (1 : Int32))) fun h4 =>
  some h4
set_option maxRecDepth 100000 in
set_option maxHeartbeats 4000000 in
theorem o_X10_comesForm {K : gK} (S : Cx K RX10 cX10_comesForm 4 0 0) {c0 : Nat} (k0 : kd c0 (10 + 10, 0)) (a1 : Int32) (a2 : Int32) (a3 : Int32) (h : Hp) {o : Hp} (hyp : s_X10_comesForm c0 a1 a2 a3 h = some o) (F : Rt K none none o) : Go K 0 [(0, .ref (ad K c0)), (1, .int a1), (2, .int a2), (3, .int a3)] [] h := by
  unfold s_X10_comesForm at hyp
  refine g_aload_n (pc := 0) 0 S dX10_comesForm_0 rfl ?_
  refine g_getR (pc := 1) S dX10_comesForm_1 fl_X10_13 k0 ?_
  refine g_iconst (pc := 4) (v := (3 : Int32)) S dX10_comesForm_4 (by decide) ?_
  refine g_aload_n (pc := 5) 0 S dX10_comesForm_5 rfl ?_
  refine g_getI (pc := 6) S dX10_comesForm_6 fl_X10_94 k0 ?_
  refine g_imul (pc := 9) S dX10_comesForm_9 ?_
  refine g_iload_n (pc := 10) 1 S dX10_comesForm_10 rfl ?_
  refine g_iast (pc := 11) S dX10_comesForm_11 (kf_10_1 k0) hyp (fun h1 hyp => ?_)
  refine g_aload_n (pc := 12) 0 S dX10_comesForm_12 rfl ?_
  refine g_getR (pc := 13) S dX10_comesForm_13 fl_X10_13 k0 ?_
  refine g_iconst (pc := 16) (v := (3 : Int32)) S dX10_comesForm_16 (by decide) ?_
  refine g_aload_n (pc := 17) 0 S dX10_comesForm_17 rfl ?_
  refine g_getI (pc := 18) S dX10_comesForm_18 fl_X10_94 k0 ?_
  refine g_imul (pc := 21) S dX10_comesForm_21 ?_
  refine g_iconst (pc := 22) (v := (1 : Int32)) S dX10_comesForm_22 (by decide) ?_
  refine g_iadd (pc := 23) S dX10_comesForm_23 ?_
  refine g_iload_n (pc := 24) 2 S dX10_comesForm_24 rfl ?_
  refine g_iast (pc := 25) S dX10_comesForm_25 (kf_10_1 k0) hyp (fun h2 hyp => ?_)
  refine g_aload_n (pc := 26) 0 S dX10_comesForm_26 rfl ?_
  refine g_getR (pc := 27) S dX10_comesForm_27 fl_X10_13 k0 ?_
  refine g_iconst (pc := 30) (v := (3 : Int32)) S dX10_comesForm_30 (by decide) ?_
  refine g_aload_n (pc := 31) 0 S dX10_comesForm_31 rfl ?_
  refine g_getI (pc := 32) S dX10_comesForm_32 fl_X10_94 k0 ?_
  refine g_imul (pc := 35) S dX10_comesForm_35 ?_
  refine g_iconst (pc := 36) (v := (2 : Int32)) S dX10_comesForm_36 (by decide) ?_
  refine g_iadd (pc := 37) S dX10_comesForm_37 ?_
  refine g_iload_n (pc := 38) 3 S dX10_comesForm_38 rfl ?_
  refine g_iast (pc := 39) S dX10_comesForm_39 (kf_10_1 k0) hyp (fun h3 hyp => ?_)
  refine g_aload_n (pc := 40) 0 S dX10_comesForm_40 rfl ?_
  refine g_dup (pc := 41) S dX10_comesForm_41 rfl ?_
  refine g_getI (pc := 42) S dX10_comesForm_42 fl_X10_94 k0 ?_
  refine g_iconst (pc := 45) (v := (1 : Int32)) S dX10_comesForm_45 (by decide) ?_
  refine g_iadd (pc := 46) S dX10_comesForm_46 ?_
  refine g_putI (pc := 47) S dX10_comesForm_47 fl_X10_94 k0 hyp (fun h4 hyp => ?_)
  have hyp := Option.some.inj hyp
  subst hyp
  exact g_vret (pc := 50) S F dX10_comesForm_50
theorem m_X10_comesForm {l : Launch} {D : va_G} {cT : Nat → ClassId} {aD : Nat → Nat} {c0 : Nat} (k0 : kd c0 (10 + 10, 0)) (a1 : Int32) (a2 : Int32) (a3 : Int32) (h : Hp) {o : Hp} (hyp : s_X10_comesForm c0 a1 a2 a3 h = some o) : Ok l D cT aD yX10_comesForm cX10_comesForm 4 none 0 0 [.ref (aD c0), .int a1, .int a2, .int a3] h none o :=
  Ok.of (by decide +kernel) rfl (Nat.le_of_ble_eq_true rfl) (fun K e1 e2 e3 e4 S F => by subst e1; exact o_X10_comesForm S k0 a1 a2 a3 h hyp F)
-- BoundProofsModel form (III)I
noncomputable def s_X10_form_b41 (c0 : Nat) (a1 : Int32) (a2 : Int32) (a3 : Int32) (h : Hp) : Option (Int32 × Hp) :=
  if (h.1 c0 1) = (8 : Int32) then (some ((-3 : Int32), h))
  else ((s_X10_comesForm c0 a1 a2 a3 h).bind fun y4 =>
  some (((y4.1 c0 1) - (1 : Int32)), y4))
noncomputable def s_X10_form (c0 : Nat) (a1 : Int32) (a2 : Int32) (a3 : Int32) (h : Hp) : Option (Int32 × Hp) :=
  (s_X10_isCoefficient c0 (0 : Int32) a1 h).bind fun y1 =>
  if y1 = 0 then (some ((-1 : Int32), h))
  else ((s_X10_isCoefficient c0 (1 : Int32) a2 h).bind fun y2 =>
  if y2 = 0 then (some ((-1 : Int32), h))
  else ((s_X10_isCoefficient c0 (2 : Int32) a3 h).bind fun y3 =>
  if y3 = 0 then (some ((-1 : Int32), h))
  else (if a1 = 0 then (if a2 = 0 then (if a3 = 0 then (some ((-1 : Int32), h))
  else (s_X10_form_b41 c0 a1 a2 a3 h))
  else (s_X10_form_b41 c0 a1 a2 a3 h))
  else (s_X10_form_b41 c0 a1 a2 a3 h))))
set_option maxRecDepth 100000 in
set_option maxHeartbeats 4000000 in
theorem o_X10_form_b41 {K : gK} (S : Cx K RX10 cX10_form 4 2 52) {c0 : Nat} (k0 : kd c0 (10 + 10, 0)) (a1 : Int32) (a2 : Int32) (a3 : Int32) (h : Hp) {o : Int32 × Hp} (hyp : s_X10_form_b41 c0 a1 a2 a3 h = some o) (F : Rt K (some .int) (some (.int o.1)) o.2) : Go K 41 [(0, .ref (ad K c0)), (1, .int a1), (2, .int a2), (3, .int a3)] [] h := by
  unfold s_X10_form_b41 at hyp
  refine g_aload_n (pc := 41) 0 S dX10_form_41 rfl ?_
  refine g_getI (pc := 42) S dX10_form_42 fl_X10_94 k0 ?_
  refine g_bipush (pc := 45) (v := (8 : Int32)) S dX10_form_45 (by decide) ?_
  refine g_icmp_ne (pc := 47) (tgt := 53) S dX10_form_47 (by decide) hyp (fun hyp => ?_) (fun hyp => ?_)
  · refine g_bipush (pc := 50) (v := (-3 : Int32)) S dX10_form_50 (by decide) ?_
    have hyp := Option.some.inj hyp
    subst hyp
    exact g_iret (pc := 52) S F dX10_form_52
  · refine g_aload_n (pc := 53) 0 S dX10_form_53 rfl ?_
    refine g_iload_n (pc := 54) 1 S dX10_form_54 rfl ?_
    refine g_iload_n (pc := 55) 2 S dX10_form_55 rfl ?_
    refine g_iload_n (pc := 56) 3 S dX10_form_56 rfl ?_
    refine g_bind hyp (fun y4 hy4 hyp => ?_)
    refine g_callV (pc := 57) (As := [.int a1, .int a2, .int a3]) (rest := []) S dX10_form_57 k0 rfl tw_1007 tw_1008 tw_33 mw_X10_comesForm (m_X10_comesForm k0 a1 a2 a3 h hy4) rfl rfl (Nat.le_of_ble_eq_true rfl) (Nat.le_of_ble_eq_true rfl) (Nat.le_of_ble_eq_true rfl) ?_
    refine g_aload_n (pc := 60) 0 S dX10_form_60 rfl ?_
    refine g_getI (pc := 61) S dX10_form_61 fl_X10_94 k0 ?_
    refine g_iconst (pc := 64) (v := (1 : Int32)) S dX10_form_64 (by decide) ?_
    refine g_isub (pc := 65) S dX10_form_65 ?_
    have hyp := Option.some.inj hyp
    subst hyp
    exact g_iret (pc := 66) S F dX10_form_66
set_option maxRecDepth 100000 in
set_option maxHeartbeats 4000000 in
theorem o_X10_form {K : gK} (S : Cx K RX10 cX10_form 4 2 52) {c0 : Nat} (k0 : kd c0 (10 + 10, 0)) (a1 : Int32) (a2 : Int32) (a3 : Int32) (h : Hp) {o : Int32 × Hp} (hyp : s_X10_form c0 a1 a2 a3 h = some o) (F : Rt K (some .int) (some (.int o.1)) o.2) : Go K 0 [(0, .ref (ad K c0)), (1, .int a1), (2, .int a2), (3, .int a3)] [] h := by
  unfold s_X10_form at hyp
  refine g_aload_n (pc := 0) 0 S dX10_form_0 rfl ?_
  refine g_iconst (pc := 1) (v := (0 : Int32)) S dX10_form_1 (by decide) ?_
  refine g_iload_n (pc := 2) 1 S dX10_form_2 rfl ?_
  refine g_bind hyp (fun y1 hy1 hyp => ?_)
  refine g_callV (pc := 3) (As := [.int (0 : Int32), .int a1]) (rest := []) S dX10_form_3 k0 rfl tw_1004 tw_1005 tw_32 mw_X10_isCoefficient (m_X10_isCoefficient k0 (0 : Int32) a1 h hy1) rfl rfl (Nat.le_of_ble_eq_true rfl) (Nat.le_of_ble_eq_true rfl) (Nat.le_of_ble_eq_true rfl) ?_
  refine g_if_eq (pc := 6) (tgt := 39) S dX10_form_6 (by decide) hyp (fun hyp => ?_) (fun hyp => ?_)
  · refine g_iconst (pc := 39) (v := (-1 : Int32)) S dX10_form_39 (by decide) ?_
    have hyp := Option.some.inj hyp
    subst hyp
    exact g_iret (pc := 40) S F dX10_form_40
  · refine g_aload_n (pc := 9) 0 S dX10_form_9 rfl ?_
    refine g_iconst (pc := 10) (v := (1 : Int32)) S dX10_form_10 (by decide) ?_
    refine g_iload_n (pc := 11) 2 S dX10_form_11 rfl ?_
    refine g_bind hyp (fun y2 hy2 hyp => ?_)
    refine g_callV (pc := 12) (As := [.int (1 : Int32), .int a2]) (rest := []) S dX10_form_12 k0 rfl tw_1004 tw_1005 tw_32 mw_X10_isCoefficient (m_X10_isCoefficient k0 (1 : Int32) a2 h hy2) rfl rfl (Nat.le_of_ble_eq_true rfl) (Nat.le_of_ble_eq_true rfl) (Nat.le_of_ble_eq_true rfl) ?_
    refine g_if_eq (pc := 15) (tgt := 39) S dX10_form_15 (by decide) hyp (fun hyp => ?_) (fun hyp => ?_)
    · refine g_iconst (pc := 39) (v := (-1 : Int32)) S dX10_form_39 (by decide) ?_
      have hyp := Option.some.inj hyp
      subst hyp
      exact g_iret (pc := 40) S F dX10_form_40
    · refine g_aload_n (pc := 18) 0 S dX10_form_18 rfl ?_
      refine g_iconst (pc := 19) (v := (2 : Int32)) S dX10_form_19 (by decide) ?_
      refine g_iload_n (pc := 20) 3 S dX10_form_20 rfl ?_
      refine g_bind hyp (fun y3 hy3 hyp => ?_)
      refine g_callV (pc := 21) (As := [.int (2 : Int32), .int a3]) (rest := []) S dX10_form_21 k0 rfl tw_1004 tw_1005 tw_32 mw_X10_isCoefficient (m_X10_isCoefficient k0 (2 : Int32) a3 h hy3) rfl rfl (Nat.le_of_ble_eq_true rfl) (Nat.le_of_ble_eq_true rfl) (Nat.le_of_ble_eq_true rfl) ?_
      refine g_if_eq (pc := 24) (tgt := 39) S dX10_form_24 (by decide) hyp (fun hyp => ?_) (fun hyp => ?_)
      · refine g_iconst (pc := 39) (v := (-1 : Int32)) S dX10_form_39 (by decide) ?_
        have hyp := Option.some.inj hyp
        subst hyp
        exact g_iret (pc := 40) S F dX10_form_40
      · refine g_iload_n (pc := 27) 1 S dX10_form_27 rfl ?_
        refine g_if_ne (pc := 28) (tgt := 41) S dX10_form_28 (by decide) hyp (fun hyp => ?_) (fun hyp => ?_)
        · refine g_iload_n (pc := 31) 2 S dX10_form_31 rfl ?_
          refine g_if_ne (pc := 32) (tgt := 41) S dX10_form_32 (by decide) hyp (fun hyp => ?_) (fun hyp => ?_)
          · refine g_iload_n (pc := 35) 3 S dX10_form_35 rfl ?_
            refine g_if_ne (pc := 36) (tgt := 41) S dX10_form_36 (by decide) hyp (fun hyp => ?_) (fun hyp => ?_)
            · refine g_iconst (pc := 39) (v := (-1 : Int32)) S dX10_form_39 (by decide) ?_
              have hyp := Option.some.inj hyp
              subst hyp
              exact g_iret (pc := 40) S F dX10_form_40
            · exact g_sub [0, 1, 2, 3] rfl (o_X10_form_b41 S k0 a1 a2 a3 h hyp F)
          · exact g_sub [0, 1, 2, 3] rfl (o_X10_form_b41 S k0 a1 a2 a3 h hyp F)
        · exact g_sub [0, 1, 2, 3] rfl (o_X10_form_b41 S k0 a1 a2 a3 h hyp F)
theorem m_X10_form {l : Launch} {D : va_G} {cT : Nat → ClassId} {aD : Nat → Nat} {c0 : Nat} (k0 : kd c0 (10 + 10, 0)) (a1 : Int32) (a2 : Int32) (a3 : Int32) (h : Hp) {o : Int32 × Hp} (hyp : s_X10_form c0 a1 a2 a3 h = some o) : Ok l D cT aD yX10_form cX10_form 4 (some .int) 2 52 [.ref (aD c0), .int a1, .int a2, .int a3] h (some (.int o.1)) o.2 :=
  Ok.of (by decide +kernel) rfl (Nat.le_of_ble_eq_true rfl) (fun K e1 e2 e3 e4 S F => by subst e1; exact o_X10_form S k0 a1 a2 a3 h hyp F)
-- BoundProofsModel coefficient (II)I
noncomputable def s_X10_coefficient (c0 : Nat) (a1 : Int32) (a2 : Int32) (h : Hp) : Option (Int32) :=
  (s_X10_isForm c0 a1 h).bind fun y1 =>
  if y1 = 0 then (some (-1 : Int32))
  else ((s_X10_isVariable c0 a2 h).bind fun y2 =>
  if y2 = 0 then (some (-1 : Int32))
  else (ldI h (c0 + 1) 24 (((3 : Int32) * a1) + a2) fun x3 =>
  some (x3 + (10 : Int32))))
set_option maxRecDepth 100000 in
set_option maxHeartbeats 4000000 in
theorem o_X10_coefficient {K : gK} (S : Cx K RX10 cX10_coefficient 3 2 51) {c0 : Nat} (k0 : kd c0 (10 + 10, 0)) (a1 : Int32) (a2 : Int32) (h : Hp) {o : Int32} (hyp : s_X10_coefficient c0 a1 a2 h = some o) (F : Rt K (some .int) (some (.int o)) h) : Go K 0 [(0, .ref (ad K c0)), (1, .int a1), (2, .int a2)] [] h := by
  unfold s_X10_coefficient at hyp
  refine g_aload_n (pc := 0) 0 S dX10_coefficient_0 rfl ?_
  refine g_iload_n (pc := 1) 1 S dX10_coefficient_1 rfl ?_
  refine g_bind hyp (fun y1 hy1 hyp => ?_)
  refine g_callV (pc := 2) (As := [.int a1]) (rest := []) S dX10_coefficient_2 k0 rfl tw_1014 tw_1015 tw_34 mw_X10_isForm (m_X10_isForm k0 a1 h hy1) rfl rfl (Nat.le_of_ble_eq_true rfl) (Nat.le_of_ble_eq_true rfl) (Nat.le_of_ble_eq_true rfl) ?_
  refine g_if_eq (pc := 5) (tgt := 32) S dX10_coefficient_5 (by decide) hyp (fun hyp => ?_) (fun hyp => ?_)
  · refine g_iconst (pc := 32) (v := (-1 : Int32)) S dX10_coefficient_32 (by decide) ?_
    have hyp := Option.some.inj hyp
    subst hyp
    exact g_iret (pc := 33) S F dX10_coefficient_33
  · refine g_aload_n (pc := 8) 0 S dX10_coefficient_8 rfl ?_
    refine g_iload_n (pc := 9) 2 S dX10_coefficient_9 rfl ?_
    refine g_bind hyp (fun y2 hy2 hyp => ?_)
    refine g_callV (pc := 10) (As := [.int a2]) (rest := []) S dX10_coefficient_10 k0 rfl tw_1017 tw_1018 tw_35 mw_X10_isVariable (m_X10_isVariable k0 a2 h hy2) rfl rfl (Nat.le_of_ble_eq_true rfl) (Nat.le_of_ble_eq_true rfl) (Nat.le_of_ble_eq_true rfl) ?_
    refine g_if_eq (pc := 13) (tgt := 32) S dX10_coefficient_13 (by decide) hyp (fun hyp => ?_) (fun hyp => ?_)
    · refine g_iconst (pc := 32) (v := (-1 : Int32)) S dX10_coefficient_32 (by decide) ?_
      have hyp := Option.some.inj hyp
      subst hyp
      exact g_iret (pc := 33) S F dX10_coefficient_33
    · refine g_aload_n (pc := 16) 0 S dX10_coefficient_16 rfl ?_
      refine g_getR (pc := 17) S dX10_coefficient_17 fl_X10_13 k0 ?_
      refine g_iconst (pc := 20) (v := (3 : Int32)) S dX10_coefficient_20 (by decide) ?_
      refine g_iload_n (pc := 21) 1 S dX10_coefficient_21 rfl ?_
      refine g_imul (pc := 22) S dX10_coefficient_22 ?_
      refine g_iload_n (pc := 23) 2 S dX10_coefficient_23 rfl ?_
      refine g_iadd (pc := 24) S dX10_coefficient_24 ?_
      refine g_iald (pc := 25) S dX10_coefficient_25 (kf_10_1 k0) hyp (fun x3 hyp => ?_)
      refine g_bipush (pc := 26) (v := (10 : Int32)) S dX10_coefficient_26 (by decide) ?_
      refine g_iadd (pc := 28) S dX10_coefficient_28 ?_
      refine g_goto (pc := 29) (tgt := 33) S dX10_coefficient_29 (by decide) ?_
      have hyp := Option.some.inj hyp
      subst hyp
      exact g_iret (pc := 33) S F dX10_coefficient_33
theorem m_X10_coefficient {l : Launch} {D : va_G} {cT : Nat → ClassId} {aD : Nat → Nat} {c0 : Nat} (k0 : kd c0 (10 + 10, 0)) (a1 : Int32) (a2 : Int32) (h : Hp) {o : Int32} (hyp : s_X10_coefficient c0 a1 a2 h = some o) : Ok l D cT aD yX10_coefficient cX10_coefficient 3 (some .int) 2 51 [.ref (aD c0), .int a1, .int a2] h (some (.int o)) h :=
  Ok.of (by decide +kernel) rfl (Nat.le_of_ble_eq_true rfl) (fun K e1 e2 e3 e4 S F => by subst e1; exact o_X10_coefficient S k0 a1 a2 h hyp F)
