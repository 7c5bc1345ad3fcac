-- BoundProofs$Corners insert ()V
noncomputable def s_X2_insert_l5 (c0 : Nat) (a1 : Int32) (h : Hp) : Option ((Int32) ⊕ (Int32)) :=
  if 0 < a1 then ((s_X2_compareWith c0 (a1 - (1 : Int32)) h).bind fun y2 =>
  if y2 < 0 then (lt (a1 + (-1 : Int32)) fun v1_3 =>
  some (.inl v1_3))
  else (some (.inr (a1))))
  else (some (.inr (a1)))
noncomputable def s_X2_insert_l75 (c0 : Nat) (a1 : Int32) (a2 : Int32) (a3 : Int32) (h : Hp) : Option ((Int32 × Hp) ⊕ (Hp)) :=
  if a3 < (3 : Int32) then (ldJ h (c0 + 1) 360 (((a2 - (1 : Int32)) * (3 : Int32)) + a3) fun x9 =>
  stJ h (c0 + 1) 360 ((a2 * (3 : Int32)) + a3) x9 fun h10 =>
  lt (a3 + (1 : Int32)) fun v3_11 =>
  some (.inl (v3_11, h10)))
  else (some (.inr (h)))
noncomputable def s_X2_insert_l54 (c0 : Nat) (a1 : Int32) (a2 : Int32) (h : Hp) : Option ((Int32 × Hp) ⊕ (Hp)) :=
  if a1 < a2 then (ldJ h (c0 + 2) 120 (a2 - (1 : Int32)) fun x7 =>
  stJ h (c0 + 2) 120 a2 x7 fun h8 =>
  (iter (fun s : Int32 × Hp => s_X2_insert_l75 c0 a1 a2 s.1 s.2) FUEL ((0 : Int32), h8)).bind fun e12 =>
  lt (a2 + (-1 : Int32)) fun v2_13 =>
  some (.inl (v2_13, e12)))
  else (some (.inr (h)))
noncomputable def s_X2_insert_b49 (c0 : Nat) (a1 : Int32) (h : Hp) : Option (Hp) :=
  lt (h.1 c0 0) fun v2_6 =>
  (iter (fun s : Int32 × Hp => s_X2_insert_l54 c0 a1 s.1 s.2) FUEL (v2_6, h)).bind fun e14 =>
  stJ e14 (c0 + 2) 120 a1 (e14.2 c0 5) fun h15 =>
  cpyJ h15 (c0 + 8) 3 (0 : Int32) (c0 + 1) 360 (a1 * (3 : Int32)) (3 : Int32) fun h16 =>
  lt (sI h16 c0 0 ((h16.1 c0 0) + (1 : Int32))) fun h17 =>
  some h17
noncomputable def s_X2_insert (c0 : Nat)  (h : Hp) : Option (Hp) :=
  lt (h.1 c0 0) fun v1_1 =>
  (iter (fun s : Int32 => s_X2_insert_l5 c0 s h) FUEL v1_1).bind fun e4 =>
  if (h.1 c0 0) < (120 : Int32) then (if 0 < e4 then ((s_X2_compareWith c0 (e4 - (1 : Int32)) h).bind fun y5 =>
  if y5 = 0 then (some h)
  else (s_X2_insert_b49 c0 e4 h))
  else (s_X2_insert_b49 c0 e4 h))
  else (some h)
set_option maxRecDepth 100000 in
set_option maxHeartbeats 4000000 in
theorem o_X2_insert_l5 {K : gK} (S : Cx K RX2 cX2_insert 4 2 60) {c0 : Nat} (k0 : kd c0 (10 + 2, 0)) (a1 : Int32) (h : Hp) {o : (Int32) ⊕ (Int32)} (hyp : s_X2_insert_l5 c0 a1 h = some o) (hin : ∀ s', o = .inl s' → Go K 5 [(0, .ref (ad K c0)), (1, .int s')] [] h) (hex0 : ∀ s', o = .inr (s') → Go K 25 [(0, .ref (ad K c0)), (1, .int s')] [] h) : Go K 5 [(0, .ref (ad K c0)), (1, .int a1)] [] h := by
  unfold s_X2_insert_l5 at hyp
  refine g_iload_n (pc := 5) 1 S dX2_insert_5 rfl ?_
  refine g_if_le (pc := 6) (tgt := 25) S dX2_insert_6 (by decide) hyp (fun hyp => ?_) (fun hyp => ?_)
  · refine g_aload_n (pc := 9) 0 S dX2_insert_9 rfl ?_
    refine g_iload_n (pc := 10) 1 S dX2_insert_10 rfl ?_
    refine g_iconst (pc := 11) (v := (1 : Int32)) S dX2_insert_11 (by decide) ?_
    refine g_isub (pc := 12) S dX2_insert_12 ?_
    refine g_bind hyp (fun y2 hy2 hyp => ?_)
    refine g_callV (pc := 13) (As := [.int (a1 - (1 : Int32))]) (rest := []) S dX2_insert_13 k0 rfl tw_785 tw_786 tw_30 mw_X2_compareWith (m_X2_compareWith k0 (a1 - (1 : Int32)) h hy2) rfl rfl (Nat.le_of_ble_eq_true rfl) (Nat.le_of_ble_eq_true rfl) (Nat.le_of_ble_eq_true rfl) ?_
    refine g_if_ge (pc := 16) (tgt := 25) S dX2_insert_16 (by decide) hyp (fun hyp => ?_) (fun hyp => ?_)
    · refine g_iinc (pc := 19) (v := (a1 + (-1 : Int32))) (lv' := [(1, .int (a1 + (-1 : Int32))), (0, .ref (ad K c0))]) 1 S dX2_insert_19 rfl (by rfl) (by decide) rfl ?_
      refine g_lti (C := fun v1_3 => Go K (19 + 3) [(1, .int v1_3), (0, .ref (ad K c0))] [] h) hyp (fun v1_3 hyp => ?_)
      refine g_goto (pc := 22) (tgt := 5) S dX2_insert_22 (by decide) ?_
      have hyp := Option.some.inj hyp
      subst hyp
      exact g_sub [1, 0] rfl (hin v1_3 rfl)
    · have hyp := Option.some.inj hyp
      subst hyp
      exact g_sub [0, 1] rfl (hex0 a1 rfl)
  · have hyp := Option.some.inj hyp
    subst hyp
    exact g_sub [0, 1] rfl (hex0 a1 rfl)
set_option maxRecDepth 100000 in
set_option maxHeartbeats 4000000 in
theorem o_X2_insert_l75 {K : gK} (S : Cx K RX2 cX2_insert 4 2 60) {c0 : Nat} (k0 : kd c0 (10 + 2, 0)) (a1 : Int32) (a2 : Int32) (a3 : Int32) (h : Hp) {o : (Int32 × Hp) ⊕ (Hp)} (hyp : s_X2_insert_l75 c0 a1 a2 a3 h = some o) (hin : ∀ s', o = .inl s' → Go K 75 [(0, .ref (ad K c0)), (1, .int a1), (2, .int a2), (3, .int s'.1)] [] s'.2) (hex0 : ∀ s', o = .inr (s') → Go K 108 [(0, .ref (ad K c0)), (1, .int a1), (2, .int a2)] [] s') : Go K 75 [(0, .ref (ad K c0)), (1, .int a1), (2, .int a2), (3, .int a3)] [] h := by
  unfold s_X2_insert_l75 at hyp
  refine g_iload_n (pc := 75) 3 S dX2_insert_75 rfl ?_
  refine g_iconst (pc := 76) (v := (3 : Int32)) S dX2_insert_76 (by decide) ?_
  refine g_icmp_ge (pc := 77) (tgt := 108) S dX2_insert_77 (by decide) hyp (fun hyp => ?_) (fun hyp => ?_)
  · refine g_aload_n (pc := 80) 0 S dX2_insert_80 rfl ?_
    refine g_getR (pc := 81) S dX2_insert_81 fl_X2_15 k0 ?_
    refine g_iload_n (pc := 84) 2 S dX2_insert_84 rfl ?_
    refine g_iconst (pc := 85) (v := (3 : Int32)) S dX2_insert_85 (by decide) ?_
    refine g_imul (pc := 86) S dX2_insert_86 ?_
    refine g_iload_n (pc := 87) 3 S dX2_insert_87 rfl ?_
    refine g_iadd (pc := 88) S dX2_insert_88 ?_
    refine g_aload_n (pc := 89) 0 S dX2_insert_89 rfl ?_
    refine g_getR (pc := 90) S dX2_insert_90 fl_X2_15 k0 ?_
    refine g_iload_n (pc := 93) 2 S dX2_insert_93 rfl ?_
    refine g_iconst (pc := 94) (v := (1 : Int32)) S dX2_insert_94 (by decide) ?_
    refine g_isub (pc := 95) S dX2_insert_95 ?_
    refine g_iconst (pc := 96) (v := (3 : Int32)) S dX2_insert_96 (by decide) ?_
    refine g_imul (pc := 97) S dX2_insert_97 ?_
    refine g_iload_n (pc := 98) 3 S dX2_insert_98 rfl ?_
    refine g_iadd (pc := 99) S dX2_insert_99 ?_
    refine g_lald (pc := 100) S dX2_insert_100 (kf_2_1 k0) hyp (fun x9 hyp => ?_)
    refine g_last (pc := 101) S dX2_insert_101 (kf_2_1 k0) hyp (fun h10 hyp => ?_)
    refine g_iinc (pc := 102) (v := (a3 + (1 : Int32))) (lv' := [(3, .int (a3 + (1 : Int32))), (0, .ref (ad K c0)), (1, .int a1), (2, .int a2)]) 3 S dX2_insert_102 rfl (by rfl) (by decide) rfl ?_
    refine g_lti (C := fun v3_11 => Go K (102 + 3) [(3, .int v3_11), (0, .ref (ad K c0)), (1, .int a1), (2, .int a2)] [] h10) hyp (fun v3_11 hyp => ?_)
    refine g_goto (pc := 105) (tgt := 75) S dX2_insert_105 (by decide) ?_
    have hyp := Option.some.inj hyp
    subst hyp
    exact g_sub [1, 2, 3, 0] rfl (hin (v3_11, h10) rfl)
  · have hyp := Option.some.inj hyp
    subst hyp
    exact g_sub [0, 1, 2] rfl (hex0 h rfl)
set_option maxRecDepth 100000 in
set_option maxHeartbeats 4000000 in
theorem o_X2_insert_l54 {K : gK} (S : Cx K RX2 cX2_insert 4 2 60) {c0 : Nat} (k0 : kd c0 (10 + 2, 0)) (a1 : Int32) (a2 : Int32) (h : Hp) {o : (Int32 × Hp) ⊕ (Hp)} (hyp : s_X2_insert_l54 c0 a1 a2 h = some o) (hin : ∀ s', o = .inl s' → Go K 54 [(0, .ref (ad K c0)), (1, .int a1), (2, .int s'.1)] [] s'.2) (hex0 : ∀ s', o = .inr (s') → Go K 114 [(0, .ref (ad K c0)), (1, .int a1)] [] s') : Go K 54 [(0, .ref (ad K c0)), (1, .int a1), (2, .int a2)] [] h := by
  unfold s_X2_insert_l54 at hyp
  refine g_iload_n (pc := 54) 2 S dX2_insert_54 rfl ?_
  refine g_iload_n (pc := 55) 1 S dX2_insert_55 rfl ?_
  refine g_icmp_le (pc := 56) (tgt := 114) S dX2_insert_56 (by decide) hyp (fun hyp => ?_) (fun hyp => ?_)
  · refine g_aload_n (pc := 59) 0 S dX2_insert_59 rfl ?_
    refine g_getR (pc := 60) S dX2_insert_60 fl_X2_19 k0 ?_
    refine g_iload_n (pc := 63) 2 S dX2_insert_63 rfl ?_
    refine g_aload_n (pc := 64) 0 S dX2_insert_64 rfl ?_
    refine g_getR (pc := 65) S dX2_insert_65 fl_X2_19 k0 ?_
    refine g_iload_n (pc := 68) 2 S dX2_insert_68 rfl ?_
    refine g_iconst (pc := 69) (v := (1 : Int32)) S dX2_insert_69 (by decide) ?_
    refine g_isub (pc := 70) S dX2_insert_70 ?_
    refine g_lald (pc := 71) S dX2_insert_71 (kf_2_2 k0) hyp (fun x7 hyp => ?_)
    refine g_last (pc := 72) S dX2_insert_72 (kf_2_2 k0) hyp (fun h8 hyp => ?_)
    refine g_iconst (pc := 73) (v := (0 : Int32)) S dX2_insert_73 (by decide) ?_
    refine g_istore_n (pc := 74) (lv' := [(3, .int (0 : Int32)), (0, .ref (ad K c0)), (1, .int a1), (2, .int a2)]) S dX2_insert_74 rfl (by decide) rfl ?_
    refine g_bind hyp (fun e12 he12 hyp => ?_)
    refine g_sub [1, 2, 3, 0] rfl (g_loop (f := fun s : Int32 × Hp => s_X2_insert_l75 c0 a1 a2 s.1 s.2) (ρ := Hp) (Hd := fun s : Int32 × Hp => Go K 75 [(0, .ref (ad K c0)), (1, .int a1), (2, .int a2), (3, .int s.1)] [] s.2) (Ex := fun e12 => Go K 108 [(0, .ref (ad K c0)), (1, .int a1), (2, .int a2)] [] e12) (fun s o h1 h2 h3 => o_X2_insert_l75 S k0 a1 a2 s.1 s.2 h1 h2 h3) FUEL _ e12 he12 ?_)
    refine g_iinc (pc := 108) (v := (a2 + (-1 : Int32))) (lv' := [(2, .int (a2 + (-1 : Int32))), (0, .ref (ad K c0)), (1, .int a1)]) 2 S dX2_insert_108 rfl (by rfl) (by decide) rfl ?_
    refine g_lti (C := fun v2_13 => Go K (108 + 3) [(2, .int v2_13), (0, .ref (ad K c0)), (1, .int a1)] [] e12) hyp (fun v2_13 hyp => ?_)
    refine g_goto (pc := 111) (tgt := 54) S dX2_insert_111 (by decide) ?_
    have hyp := Option.some.inj hyp
    subst hyp
    exact g_sub [1, 2, 0] rfl (hin (v2_13, e12) rfl)
  · have hyp := Option.some.inj hyp
    subst hyp
    exact g_sub [0, 1] rfl (hex0 h rfl)
set_option maxRecDepth 100000 in
set_option maxHeartbeats 4000000 in
theorem o_X2_insert_b49 {K : gK} (S : Cx K RX2 cX2_insert 4 2 60) {c0 : Nat} (k0 : kd c0 (10 + 2, 0)) (a1 : Int32) (h : Hp) {o : Hp} (hyp : s_X2_insert_b49 c0 a1 h = some o) (F : Rt K none none o) : Go K 49 [(0, .ref (ad K c0)), (1, .int a1)] [] h := by
  unfold s_X2_insert_b49 at hyp
  refine g_aload_n (pc := 49) 0 S dX2_insert_49 rfl ?_
  refine g_getI (pc := 50) S dX2_insert_50 fl_X2_9 k0 ?_
  refine g_lti (C := fun v2_6 => Go K 53 [(0, .ref (ad K c0)), (1, .int a1)] [.int v2_6] h) hyp (fun v2_6 hyp => ?_)
  refine g_istore_n (pc := 53) (lv' := [(2, .int v2_6), (0, .ref (ad K c0)), (1, .int a1)]) S dX2_insert_53 rfl (by decide) rfl ?_
  refine g_bind hyp (fun e14 he14 hyp => ?_)
  refine g_sub [1, 2, 0] rfl (g_loop (f := fun s : Int32 × Hp => s_X2_insert_l54 c0 a1 s.1 s.2) (ρ := Hp) (Hd := fun s : Int32 × Hp => Go K 54 [(0, .ref (ad K c0)), (1, .int a1), (2, .int s.1)] [] s.2) (Ex := fun e14 => Go K 114 [(0, .ref (ad K c0)), (1, .int a1)] [] e14) (fun s o h1 h2 h3 => o_X2_insert_l54 S k0 a1 s.1 s.2 h1 h2 h3) FUEL _ e14 he14 ?_)
  refine g_aload_n (pc := 114) 0 S dX2_insert_114 rfl ?_
  refine g_getR (pc := 115) S dX2_insert_115 fl_X2_19 k0 ?_
  refine g_iload_n (pc := 118) 1 S dX2_insert_118 rfl ?_
  refine g_aload_n (pc := 119) 0 S dX2_insert_119 rfl ?_
  refine g_getJ (pc := 120) S dX2_insert_120 fl_X2_32 k0 ?_
  refine g_last (pc := 123) S dX2_insert_123 (kf_2_2 k0) hyp (fun h15 hyp => ?_)
  refine g_aload_n (pc := 124) 0 S dX2_insert_124 rfl ?_
  refine g_getR (pc := 125) S dX2_insert_125 fl_X2_29 k0 ?_
  refine g_iconst (pc := 128) (v := (0 : Int32)) S dX2_insert_128 (by decide) ?_
  refine g_aload_n (pc := 129) 0 S dX2_insert_129 rfl ?_
  refine g_getR (pc := 130) S dX2_insert_130 fl_X2_15 k0 ?_
  refine g_iload_n (pc := 133) 1 S dX2_insert_133 rfl ?_
  refine g_iconst (pc := 134) (v := (3 : Int32)) S dX2_insert_134 (by decide) ?_
  refine g_imul (pc := 135) S dX2_insert_135 ?_
  refine g_iconst (pc := 136) (v := (3 : Int32)) S dX2_insert_136 (by decide) ?_
  refine g_cpJ (pc := 137) S dX2_insert_137 tw_791 tw_505 tw_504 tw_99 (kf_2_8 k0) (kf_2_1 k0) (Nat.le_of_ble_eq_true rfl) (Nat.le_of_ble_eq_true rfl) hyp (fun h16 hyp => ?_)
  refine g_aload_n (pc := 140) 0 S dX2_insert_140 rfl ?_
  refine g_dup (pc := 141) S dX2_insert_141 rfl ?_
  refine g_getI (pc := 142) S dX2_insert_142 fl_X2_9 k0 ?_
  refine g_iconst (pc := 145) (v := (1 : Int32)) S dX2_insert_145 (by decide) ?_
  refine g_iadd (pc := 146) S dX2_insert_146 ?_
  refine g_putI (pc := 147) S dX2_insert_147 fl_X2_9 k0 hyp (fun h17 hyp => ?_)
  have hyp := Option.some.inj hyp
  subst hyp
  exact g_vret (pc := 150) S F dX2_insert_150
set_option maxRecDepth 100000 in
set_option maxHeartbeats 4000000 in
theorem o_X2_insert {K : gK} (S : Cx K RX2 cX2_insert 4 2 60) {c0 : Nat} (k0 : kd c0 (10 + 2, 0))  (h : Hp) {o : Hp} (hyp : s_X2_insert c0  h = some o) (F : Rt K none none o) : Go K 0 [(0, .ref (ad K c0))] [] h := by
  unfold s_X2_insert at hyp
  refine g_aload_n (pc := 0) 0 S dX2_insert_0 rfl ?_
  refine g_getI (pc := 1) S dX2_insert_1 fl_X2_9 k0 ?_
  refine g_lti (C := fun v1_1 => Go K 4 [(0, .ref (ad K c0))] [.int v1_1] h) hyp (fun v1_1 hyp => ?_)
  refine g_istore_n (pc := 4) (lv' := [(1, .int v1_1), (0, .ref (ad K c0))]) S dX2_insert_4 rfl (by decide) rfl ?_
  refine g_bind hyp (fun e4 he4 hyp => ?_)
  refine g_sub [1, 0] rfl (g_loop (f := fun s : Int32 => s_X2_insert_l5 c0 s h) (ρ := Int32) (Hd := fun s : Int32 => Go K 5 [(0, .ref (ad K c0)), (1, .int s)] [] h) (Ex := fun e4 => Go K 25 [(0, .ref (ad K c0)), (1, .int e4)] [] h) (fun s o h1 h2 h3 => o_X2_insert_l5 S k0 s h h1 h2 h3) FUEL _ e4 he4 ?_)
  refine g_aload_n (pc := 25) 0 S dX2_insert_25 rfl ?_
  refine g_getI (pc := 26) S dX2_insert_26 fl_X2_9 k0 ?_
  refine g_bipush (pc := 29) (v := (120 : Int32)) S dX2_insert_29 (by decide) ?_
  refine g_icmp_ge (pc := 31) (tgt := 48) S dX2_insert_31 (by decide) hyp (fun hyp => ?_) (fun hyp => ?_)
  · refine g_iload_n (pc := 34) 1 S dX2_insert_34 rfl ?_
    refine g_if_le (pc := 35) (tgt := 49) S dX2_insert_35 (by decide) hyp (fun hyp => ?_) (fun hyp => ?_)
    · refine g_aload_n (pc := 38) 0 S dX2_insert_38 rfl ?_
      refine g_iload_n (pc := 39) 1 S dX2_insert_39 rfl ?_
      refine g_iconst (pc := 40) (v := (1 : Int32)) S dX2_insert_40 (by decide) ?_
      refine g_isub (pc := 41) S dX2_insert_41 ?_
      refine g_bind hyp (fun y5 hy5 hyp => ?_)
      refine g_callV (pc := 42) (As := [.int (e4 - (1 : Int32))]) (rest := []) S dX2_insert_42 k0 rfl tw_785 tw_786 tw_30 mw_X2_compareWith (m_X2_compareWith k0 (e4 - (1 : Int32)) h hy5) rfl rfl (Nat.le_of_ble_eq_true rfl) (Nat.le_of_ble_eq_true rfl) (Nat.le_of_ble_eq_true rfl) ?_
      refine g_if_ne (pc := 45) (tgt := 49) S dX2_insert_45 (by decide) hyp (fun hyp => ?_) (fun hyp => ?_)
      · have hyp := Option.some.inj hyp
        subst hyp
        exact g_vret (pc := 48) S F dX2_insert_48
      · exact g_sub [0, 1] rfl (o_X2_insert_b49 S k0 e4 h hyp F)
    · exact g_sub [0, 1] rfl (o_X2_insert_b49 S k0 e4 h hyp F)
  · have hyp := Option.some.inj hyp
    subst hyp
    exact g_vret (pc := 48) S F dX2_insert_48
theorem m_X2_insert {l : Launch} {D : va_G} {cT : Nat → ClassId} {aD : Nat → Nat} {c0 : Nat} (k0 : kd c0 (10 + 2, 0))  (h : Hp) {o : Hp} (hyp : s_X2_insert c0  h = some o) : Ok l D cT aD yX2_insert cX2_insert 4 none 2 60 [.ref (aD c0)] h none o :=
  Ok.of (by decide +kernel) rfl (Nat.le_of_ble_eq_true rfl) (fun K e1 e2 e3 e4 S F => by subst e1; exact o_X2_insert S k0  h hyp F)
-- BoundProofs$Corners collect (LBoundProofs$Rows;I)V
noncomputable def s_X2_collect_b73 (c0 : Nat) (c1 : Nat) (a2 : Int32) (a3 : Int32) (h : Hp) : Option ((Int32 × Hp) ⊕ (Hp)) :=
  lt (a3 + (1 : Int32)) fun v3_5 =>
  some (.inl (v3_5, h))
noncomputable def s_X2_collect_l7 (c0 : Nat) (c1 : Nat) (a2 : Int32) (a3 : Int32) (h : Hp) : Option ((Int32 × Hp) ⊕ (Hp)) :=
  if a3 < ((1 : Int32) <<< ((h.1 c1 4) &&& 31)) then ((s_J6_bitCount_0f7a4  a3 h).bind fun y2 =>
  if y2 = a2 then ((s_X2_equate c0 c1 a3 a2 h).bind fun y3 =>
  (s_X2_solve c0  y3).bind fun y4 =>
  if y4.1 = 0 then (s_X2_collect_b73 c0 c1 a2 a3 y4.2)
  else (ldJ y4.2 (c0 + 8) 3 (0 : Int32) fun x6 =>
  ldJ y4.2 (c0 + 8) 3 (1 : Int32) fun x7 =>
  ldJ y4.2 (c0 + 8) 3 (2 : Int32) fun x8 =>
  (s_X7_hold c1 x6 x7 x8 (y4.2.2 c0 5) (1 : Int32) y4.2).bind fun y9 =>
  if y9 = 0 then (s_X2_collect_b73 c0 c1 a2 a3 y4.2)
  else ((s_X2_insert c0  y4.2).bind fun y10 =>
  s_X2_collect_b73 c0 c1 a2 a3 y10)))
  else (s_X2_collect_b73 c0 c1 a2 a3 h))
  else (some (.inr (h)))
noncomputable def s_X2_collect (c0 : Nat) (c1 : Nat) (a2 : Int32) (h : Hp) : Option (Hp) :=
  lt (sI h c0 0 (0 : Int32)) fun h1 =>
  (iter (fun s : Int32 × Hp => s_X2_collect_l7 c0 c1 a2 s.1 s.2) FUEL ((1 : Int32), h1)).bind fun e11 =>
  some e11
set_option maxRecDepth 100000 in
set_option maxHeartbeats 4000000 in
theorem o_X2_collect_b73 {K : gK} (S : Cx K RX2 cX2_collect 4 3 87) {c0 : Nat} (k0 : kd c0 (10 + 2, 0)) {c1 : Nat} (k1 : kd c1 (10 + 7, 0)) (a2 : Int32) (a3 : Int32) (h : Hp) {o : (Int32 × Hp) ⊕ (Hp)} (hyp : s_X2_collect_b73 c0 c1 a2 a3 h = some o) (hin : ∀ s', o = .inl s' → Go K 7 [(0, .ref (ad K c0)), (1, .ref (ad K c1)), (2, .int a2), (3, .int s'.1)] [] s'.2) (hex0 : ∀ s', o = .inr (s') → Go K 79 [] [] s') : Go K 73 [(0, .ref (ad K c0)), (1, .ref (ad K c1)), (2, .int a2), (3, .int a3)] [] h := by
  unfold s_X2_collect_b73 at hyp
  refine g_iinc (pc := 73) (v := (a3 + (1 : Int32))) (lv' := [(3, .int (a3 + (1 : Int32))), (0, .ref (ad K c0)), (1, .ref (ad K c1)), (2, .int a2)]) 3 S dX2_collect_73 rfl (by rfl) (by decide) rfl ?_
  refine g_lti (C := fun v3_5 => Go K (73 + 3) [(3, .int v3_5), (0, .ref (ad K c0)), (1, .ref (ad K c1)), (2, .int a2)] [] h) hyp (fun v3_5 hyp => ?_)
  refine g_goto (pc := 76) (tgt := 7) S dX2_collect_76 (by decide) ?_
  have hyp := Option.some.inj hyp
  subst hyp
  exact g_sub [1, 2, 3, 0] rfl (hin (v3_5, h) rfl)
set_option maxRecDepth 100000 in
set_option maxHeartbeats 4000000 in
theorem o_X2_collect_l7 {K : gK} (S : Cx K RX2 cX2_collect 4 3 87) {c0 : Nat} (k0 : kd c0 (10 + 2, 0)) {c1 : Nat} (k1 : kd c1 (10 + 7, 0)) (a2 : Int32) (a3 : Int32) (h : Hp) {o : (Int32 × Hp) ⊕ (Hp)} (hyp : s_X2_collect_l7 c0 c1 a2 a3 h = some o) (hin : ∀ s', o = .inl s' → Go K 7 [(0, .ref (ad K c0)), (1, .ref (ad K c1)), (2, .int a2), (3, .int s'.1)] [] s'.2) (hex0 : ∀ s', o = .inr (s') → Go K 79 [] [] s') : Go K 7 [(0, .ref (ad K c0)), (1, .ref (ad K c1)), (2, .int a2), (3, .int a3)] [] h := by
  unfold s_X2_collect_l7 at hyp
  refine g_iload_n (pc := 7) 3 S dX2_collect_7 rfl ?_
  refine g_iconst (pc := 8) (v := (1 : Int32)) S dX2_collect_8 (by decide) ?_
  refine g_aload_n (pc := 9) 1 S dX2_collect_9 rfl ?_
  refine g_getI (pc := 10) S dX2_collect_10 fl_X2_36 k1 ?_
  refine g_ishl (pc := 13) S dX2_collect_13 ?_
  refine g_icmp_ge (pc := 14) (tgt := 79) S dX2_collect_14 (by decide) hyp (fun hyp => ?_) (fun hyp => ?_)
  · refine g_iload_n (pc := 17) 3 S dX2_collect_17 rfl ?_
    refine g_bind hyp (fun y2 hy2 hyp => ?_)
    refine g_callS (pc := 18) (As := [.int a3]) (rest := []) S dX2_collect_18 tw_766 tw_534 mw_J6_bitCount_0f7a4 (m_J6_bitCount_0f7a4  a3 h hy2) rfl rfl (Nat.le_of_ble_eq_true rfl) (Nat.le_of_ble_eq_true rfl) (Nat.le_of_ble_eq_true rfl) ?_
    refine g_iload_n (pc := 21) 2 S dX2_collect_21 rfl ?_
    refine g_icmp_ne (pc := 22) (tgt := 73) S dX2_collect_22 (by decide) hyp (fun hyp => ?_) (fun hyp => ?_)
    · refine g_aload_n (pc := 25) 0 S dX2_collect_25 rfl ?_
      refine g_aload_n (pc := 26) 1 S dX2_collect_26 rfl ?_
      refine g_iload_n (pc := 27) 3 S dX2_collect_27 rfl ?_
      refine g_iload_n (pc := 28) 2 S dX2_collect_28 rfl ?_
      refine g_bind hyp (fun y3 hy3 hyp => ?_)
      refine g_callV (pc := 29) (As := [.ref (ad K c1), .int a3, .int a2]) (rest := []) S dX2_collect_29 k0 rfl tw_767 tw_768 tw_27 mw_X2_equate (m_X2_equate k0 k1 a3 a2 h hy3) rfl rfl (Nat.le_of_ble_eq_true rfl) (Nat.le_of_ble_eq_true rfl) (Nat.le_of_ble_eq_true rfl) ?_
      refine g_aload_n (pc := 32) 0 S dX2_collect_32 rfl ?_
      refine g_bind hyp (fun y4 hy4 hyp => ?_)
      refine g_callV (pc := 33) (As := []) (rest := []) S dX2_collect_33 k0 rfl tw_773 tw_774 tw_28 mw_X2_solve (m_X2_solve k0  y3 hy4) rfl rfl (Nat.le_of_ble_eq_true rfl) (Nat.le_of_ble_eq_true rfl) (Nat.le_of_ble_eq_true rfl) ?_
      refine g_if_eq (pc := 36) (tgt := 73) S dX2_collect_36 (by decide) hyp (fun hyp => ?_) (fun hyp => ?_)
      · exact g_sub [0, 1, 2, 3] rfl (o_X2_collect_b73 S k0 k1 a2 a3 y4.2 hyp hin hex0)
      · refine g_aload_n (pc := 39) 1 S dX2_collect_39 rfl ?_
        refine g_aload_n (pc := 40) 0 S dX2_collect_40 rfl ?_
        refine g_getR (pc := 41) S dX2_collect_41 fl_X2_29 k0 ?_
        refine g_iconst (pc := 44) (v := (0 : Int32)) S dX2_collect_44 (by decide) ?_
        refine g_lald (pc := 45) S dX2_collect_45 (kf_2_8 k0) hyp (fun x6 hyp => ?_)
        refine g_aload_n (pc := 46) 0 S dX2_collect_46 rfl ?_
        refine g_getR (pc := 47) S dX2_collect_47 fl_X2_29 k0 ?_
        refine g_iconst (pc := 50) (v := (1 : Int32)) S dX2_collect_50 (by decide) ?_
        refine g_lald (pc := 51) S dX2_collect_51 (kf_2_8 k0) hyp (fun x7 hyp => ?_)
        refine g_aload_n (pc := 52) 0 S dX2_collect_52 rfl ?_
        refine g_getR (pc := 53) S dX2_collect_53 fl_X2_29 k0 ?_
        refine g_iconst (pc := 56) (v := (2 : Int32)) S dX2_collect_56 (by decide) ?_
        refine g_lald (pc := 57) S dX2_collect_57 (kf_2_8 k0) hyp (fun x8 hyp => ?_)
        refine g_aload_n (pc := 58) 0 S dX2_collect_58 rfl ?_
        refine g_getJ (pc := 59) S dX2_collect_59 fl_X2_32 k0 ?_
        refine g_iconst (pc := 62) (v := (1 : Int32)) S dX2_collect_62 (by decide) ?_
        refine g_bind hyp (fun y9 hy9 hyp => ?_)
        refine g_callV (pc := 63) (As := [.long x6, .long x7, .long x8, .long (y4.2.2 c0 5), .int (1 : Int32)]) (rest := []) S dX2_collect_63 k1 rfl tw_778 tw_779 tw_780 mw_X7_hold (m_X7_hold k1 x6 x7 x8 (y4.2.2 c0 5) (1 : Int32) y4.2 hy9) rfl rfl (Nat.le_of_ble_eq_true rfl) (Nat.le_of_ble_eq_true rfl) (Nat.le_of_ble_eq_true rfl) ?_
        refine g_if_eq (pc := 66) (tgt := 73) S dX2_collect_66 (by decide) hyp (fun hyp => ?_) (fun hyp => ?_)
        · exact g_sub [0, 1, 2, 3] rfl (o_X2_collect_b73 S k0 k1 a2 a3 y4.2 hyp hin hex0)
        · refine g_aload_n (pc := 69) 0 S dX2_collect_69 rfl ?_
          refine g_bind hyp (fun y10 hy10 hyp => ?_)
          refine g_callV (pc := 70) (As := []) (rest := []) S dX2_collect_70 k0 rfl tw_782 tw_783 tw_29 mw_X2_insert (m_X2_insert k0  y4.2 hy10) rfl rfl (Nat.le_of_ble_eq_true rfl) (Nat.le_of_ble_eq_true rfl) (Nat.le_of_ble_eq_true rfl) ?_
          exact g_sub [0, 1, 2, 3] rfl (o_X2_collect_b73 S k0 k1 a2 a3 y10 hyp hin hex0)
    · exact g_sub [0, 1, 2, 3] rfl (o_X2_collect_b73 S k0 k1 a2 a3 h hyp hin hex0)
  · have hyp := Option.some.inj hyp
    subst hyp
    exact g_sub [] rfl (hex0 h rfl)
set_option maxRecDepth 100000 in
set_option maxHeartbeats 4000000 in
theorem o_X2_collect {K : gK} (S : Cx K RX2 cX2_collect 4 3 87) {c0 : Nat} (k0 : kd c0 (10 + 2, 0)) {c1 : Nat} (k1 : kd c1 (10 + 7, 0)) (a2 : Int32) (h : Hp) {o : Hp} (hyp : s_X2_collect c0 c1 a2 h = some o) (F : Rt K none none o) : Go K 0 [(0, .ref (ad K c0)), (1, .ref (ad K c1)), (2, .int a2)] [] h := by
  unfold s_X2_collect at hyp
  refine g_aload_n (pc := 0) 0 S dX2_collect_0 rfl ?_
  refine g_iconst (pc := 1) (v := (0 : Int32)) S dX2_collect_1 (by decide) ?_
  refine g_putI (pc := 2) S dX2_collect_2 fl_X2_9 k0 hyp (fun h1 hyp => ?_)
  refine g_iconst (pc := 5) (v := (1 : Int32)) S dX2_collect_5 (by decide) ?_
  refine g_istore_n (pc := 6) (lv' := [(3, .int (1 : Int32)), (0, .ref (ad K c0)), (1, .ref (ad K c1)), (2, .int a2)]) S dX2_collect_6 rfl (by decide) rfl ?_
  refine g_bind hyp (fun e11 he11 hyp => ?_)
  refine g_sub [1, 2, 3, 0] rfl (g_loop (f := fun s : Int32 × Hp => s_X2_collect_l7 c0 c1 a2 s.1 s.2) (ρ := Hp) (Hd := fun s : Int32 × Hp => Go K 7 [(0, .ref (ad K c0)), (1, .ref (ad K c1)), (2, .int a2), (3, .int s.1)] [] s.2) (Ex := fun e11 => Go K 79 [] [] e11) (fun s o h1 h2 h3 => o_X2_collect_l7 S k0 k1 a2 s.1 s.2 h1 h2 h3) FUEL _ e11 he11 ?_)
  have hyp := Option.some.inj hyp
  subst hyp
  exact g_vret (pc := 79) S F dX2_collect_79
theorem m_X2_collect {l : Launch} {D : va_G} {cT : Nat → ClassId} {aD : Nat → Nat} {c0 : Nat} (k0 : kd c0 (10 + 2, 0)) {c1 : Nat} (k1 : kd c1 (10 + 7, 0)) (a2 : Int32) (h : Hp) {o : Hp} (hyp : s_X2_collect c0 c1 a2 h = some o) : Ok l D cT aD yX2_collect cX2_collect 4 none 3 87 [.ref (aD c0), .ref (aD c1), .int a2] h none o :=
  Ok.of (by decide +kernel) rfl (Nat.le_of_ble_eq_true rfl) (fun K e1 e2 e3 e4 S F => by subst e1; exact o_X2_collect S k0 k1 a2 h hyp F)
-- BoundProofs corner (II)I
noncomputable def s_X9_corner (c0 : Nat) (a1 : Int32) (a2 : Int32) (h : Hp) : Option (Int32 × Hp) :=
  if a1 < 0 then (some ((-1 : Int32), h))
  else ((s_X5_hasVariable (c0 + 1) a2 h).bind fun y1 =>
  if y1 = 0 then (some ((-1 : Int32), h))
  else ((s_X2_collect (c0 + 55) (c0 + 32) (h.1 (c0 + 1) 0) h).bind fun y2 =>
  if a1 < (y2.1 (c0 + 55) 0) then (ldJ y2 ((c0 + 55) + 1) 360 ((a1 * (3 : Int32)) + a2) fun x3 =>
  ldJ y2 ((c0 + 55) + 2) 120 a1 fun x4 =>
  (s_X9_find c0 x3 x4 y2).bind fun y5 =>
  some ((1 : Int32), y5))
  else (some ((-9 : Int32), y2))))
set_option maxRecDepth 100000 in
set_option maxHeartbeats 4000000 in
theorem o_X9_corner {K : gK} (S : Cx K RX9 cX9_corner 3 4 114) {c0 : Nat} (k0 : kd c0 (10 + 9, 0)) (a1 : Int32) (a2 : Int32) (h : Hp) {o : Int32 × Hp} (hyp : s_X9_corner c0 a1 a2 h = some o) (F : Rt K (some .int) (some (.int o.1)) o.2) : Go K 0 [(0, .ref (ad K c0)), (1, .int a1), (2, .int a2)] [] h := by
  unfold s_X9_corner at hyp
  refine g_iload_n (pc := 0) 1 S dX9_corner_0 rfl ?_
  refine g_if_lt (pc := 1) (tgt := 15) S dX9_corner_1 (by decide) hyp (fun hyp => ?_) (fun hyp => ?_)
  · refine g_iconst (pc := 15) (v := (-1 : Int32)) S dX9_corner_15 (by decide) ?_
    have hyp := Option.some.inj hyp
    subst hyp
    exact g_iret (pc := 16) S F dX9_corner_16
  · refine g_aload_n (pc := 4) 0 S dX9_corner_4 rfl ?_
    refine g_getR (pc := 5) S dX9_corner_5 fl_X9_12 k0 ?_
    refine g_iload_n (pc := 8) 2 S dX9_corner_8 rfl ?_
    refine g_bind hyp (fun y1 hy1 hyp => ?_)
    refine g_callV (pc := 9) (As := [.int a2]) (rest := []) S dX9_corner_9 (kf_9_1 k0) rfl tw_586 tw_478 tw_479 mw_X5_hasVariable (m_X5_hasVariable (kf_9_1 k0) a2 h hy1) rfl rfl (Nat.le_of_ble_eq_true rfl) (Nat.le_of_ble_eq_true rfl) (Nat.le_of_ble_eq_true rfl) ?_
    refine g_if_ne (pc := 12) (tgt := 17) S dX9_corner_12 (by decide) hyp (fun hyp => ?_) (fun hyp => ?_)
    · refine g_iconst (pc := 15) (v := (-1 : Int32)) S dX9_corner_15 (by decide) ?_
      have hyp := Option.some.inj hyp
      subst hyp
      exact g_iret (pc := 16) S F dX9_corner_16
    · refine g_aload_n (pc := 17) 0 S dX9_corner_17 rfl ?_
      refine g_getR (pc := 18) S dX9_corner_18 fl_X9_70 k0 ?_
      refine g_aload_n (pc := 21) 0 S dX9_corner_21 rfl ?_
      refine g_getR (pc := 22) S dX9_corner_22 fl_X9_52 k0 ?_
      refine g_aload_n (pc := 25) 0 S dX9_corner_25 rfl ?_
      refine g_getR (pc := 26) S dX9_corner_26 fl_X9_12 k0 ?_
      refine g_getI (pc := 29) S dX9_corner_29 fl_X9_249 (kf_9_1 k0) ?_
      refine g_bind hyp (fun y2 hy2 hyp => ?_)
      refine g_callV (pc := 32) (As := [.ref (ad K (c0 + 32)), .int (h.1 (c0 + 1) 0)]) (rest := []) S dX9_corner_32 (kf_9_55 k0) rfl tw_762 tw_763 tw_764 mw_X2_collect (m_X2_collect (kf_9_55 k0) (kf_9_32 k0) (h.1 (c0 + 1) 0) h hy2) rfl rfl (Nat.le_of_ble_eq_true rfl) (Nat.le_of_ble_eq_true rfl) (Nat.le_of_ble_eq_true rfl) ?_
      refine g_iload_n (pc := 35) 1 S dX9_corner_35 rfl ?_
      refine g_aload_n (pc := 36) 0 S dX9_corner_36 rfl ?_
      refine g_getR (pc := 37) S dX9_corner_37 fl_X9_70 k0 ?_
      refine g_getI (pc := 40) S dX9_corner_40 fl_X9_267 (kf_9_55 k0) ?_
      refine g_icmp_lt (pc := 43) (tgt := 49) S dX9_corner_43 (by decide) hyp (fun hyp => ?_) (fun hyp => ?_)
      · refine g_aload_n (pc := 49) 0 S dX9_corner_49 rfl ?_
        refine g_aload_n (pc := 50) 0 S dX9_corner_50 rfl ?_
        refine g_getR (pc := 51) S dX9_corner_51 fl_X9_70 k0 ?_
        refine g_getR (pc := 54) S dX9_corner_54 fl_X9_268 (kf_9_55 k0) ?_
        refine g_iload_n (pc := 57) 1 S dX9_corner_57 rfl ?_
        refine g_iconst (pc := 58) (v := (3 : Int32)) S dX9_corner_58 (by decide) ?_
        refine g_imul (pc := 59) S dX9_corner_59 ?_
        refine g_iload_n (pc := 60) 2 S dX9_corner_60 rfl ?_
        refine g_iadd (pc := 61) S dX9_corner_61 ?_
        refine g_lald (pc := 62) S dX9_corner_62 (kf_2_1 (kf_9_55 k0)) hyp (fun x3 hyp => ?_)
        refine g_aload_n (pc := 63) 0 S dX9_corner_63 rfl ?_
        refine g_getR (pc := 64) S dX9_corner_64 fl_X9_70 k0 ?_
        refine g_getR (pc := 67) S dX9_corner_67 fl_X9_269 (kf_9_55 k0) ?_
        refine g_iload_n (pc := 70) 1 S dX9_corner_70 rfl ?_
        refine g_lald (pc := 71) S dX9_corner_71 (kf_2_2 (kf_9_55 k0)) hyp (fun x4 hyp => ?_)
        refine g_bind hyp (fun y5 hy5 hyp => ?_)
        refine g_callV (pc := 72) (As := [.long x3, .long x4]) (rest := []) S dX9_corner_72 k0 rfl tw_676 tw_677 tw_19 mw_X9_find (m_X9_find k0 x3 x4 y2 hy5) rfl rfl (Nat.le_of_ble_eq_true rfl) (Nat.le_of_ble_eq_true rfl) (Nat.le_of_ble_eq_true rfl) ?_
        refine g_iconst (pc := 75) (v := (1 : Int32)) S dX9_corner_75 (by decide) ?_
        have hyp := Option.some.inj hyp
        subst hyp
        exact g_iret (pc := 76) S F dX9_corner_76
      · refine g_bipush (pc := 46) (v := (-9 : Int32)) S dX9_corner_46 (by decide) ?_
        have hyp := Option.some.inj hyp
        subst hyp
        exact g_iret (pc := 48) S F dX9_corner_48
theorem m_X9_corner {l : Launch} {D : va_G} {cT : Nat → ClassId} {aD : Nat → Nat} {c0 : Nat} (k0 : kd c0 (10 + 9, 0)) (a1 : Int32) (a2 : Int32) (h : Hp) {o : Int32 × Hp} (hyp : s_X9_corner c0 a1 a2 h = some o) : Ok l D cT aD yX9_corner cX9_corner 3 (some .int) 4 114 [.ref (aD c0), .int a1, .int a2] h (some (.int o.1)) o.2 :=
  Ok.of (by decide +kernel) rfl (Nat.le_of_ble_eq_true rfl) (fun K e1 e2 e3 e4 S F => by subst e1; exact o_X9_corner S k0 a1 a2 h hyp F)
-- BoundProofs$Grid search (LBoundProofs$Rows;II)I
noncomputable def s_X3_search_b112 (c0 : Nat) (c1 : Nat) (a3 : Int32) (a4 : Int32) (a5 : Int32) (a6 : Int32) (a7 : Int32) (a8 : Int32) (a9 : Int32) (h : Hp) : Option ((Int32 × Int32 × Hp) ⊕ (Int32 × Hp)) :=
  lt (a9 + (1 : Int32)) fun v9_3 =>
  some (.inl (a4, v9_3, h))
noncomputable def s_X3_search_l54 (c0 : Nat) (c1 : Nat) (a3 : Int32) (a4 : Int32) (a5 : Int32) (a6 : Int32) (a7 : Int32) (a8 : Int32) (a9 : Int32) (h : Hp) : Option ((Int32 × Int32 × Hp) ⊕ (Int32 × Hp)) :=
  if a6 < a9 then (some (.inr ((a4, h))))
  else (if a3 < a4 then (s_X3_search_b112 c0 c1 a3 a4 a5 a6 a7 a8 a9 h)
  else ((s_X7_hold c1 (a7).toInt64 (a8).toInt64 (a9).toInt64 (1 : Int64) (0 : Int32) h).bind fun y4 =>
  if y4 = 0 then (s_X3_search_b112 c0 c1 a3 a4 a5 a6 a7 a8 a9 h)
  else (lt (a4 + (1 : Int32)) fun v4_5 =>
  stI h (c0 + 1) 3 (0 : Int32) a7 fun h6 =>
  stI h6 (c0 + 1) 3 (1 : Int32) a8 fun h7 =>
  stI h7 (c0 + 1) 3 (2 : Int32) a9 fun h8 =>
  s_X3_search_b112 c0 c1 a3 v4_5 a5 a6 a7 a8 a9 h8)))
noncomputable def s_X3_search_l42 (c0 : Nat) (c1 : Nat) (a3 : Int32) (a4 : Int32) (a5 : Int32) (a6 : Int32) (a7 : Int32) (a8 : Int32) (h : Hp) : Option ((Int32 × Int32 × Hp) ⊕ (Int32 × Hp)) :=
  if a5 < a8 then (some (.inr ((a4, h))))
  else (lt (-a6) fun v9_2 =>
  (iter (fun s : Int32 × Int32 × Hp => s_X3_search_l54 c0 c1 a3 s.1 a5 a6 a7 a8 s.2.1 s.2.2) FUEL (a4, v9_2, h)).bind fun e9 =>
  lt (a8 + (1 : Int32)) fun v8_10 =>
  some (.inl (e9.1, v8_10, e9.2)))
noncomputable def s_X3_search_l31 (c0 : Nat) (c1 : Nat) (a3 : Int32) (a4 : Int32) (a5 : Int32) (a6 : Int32) (a7 : Int32) (h : Hp) : Option ((Int32 × Int32 × Hp) ⊕ (Int32 × Hp)) :=
  if (4 : Int32) < a7 then (some (.inr ((a4, h))))
  else (lt (-a5) fun v8_1 =>
  (iter (fun s : Int32 × Int32 × Hp => s_X3_search_l42 c0 c1 a3 s.1 a5 a6 a7 s.2.1 s.2.2) FUEL (a4, v8_1, h)).bind fun e11 =>
  lt (a7 + (1 : Int32)) fun v7_12 =>
  some (.inl (e11.1, v7_12, e11.2)))
noncomputable def s_X3_search_b25 (c0 : Nat) (c1 : Nat) (a3 : Int32) (a4 : Int32) (a5 : Int32) (t0 : Int32) (h : Hp) : Option (Int32 × Hp) :=
  (iter (fun s : Int32 × Int32 × Hp => s_X3_search_l31 c0 c1 a3 s.1 a5 t0 s.2.1 s.2.2) FUEL (a4, (-4 : Int32), h)).bind fun e13 =>
  some (e13.1, e13.2)
noncomputable def s_X3_search_b13 (c0 : Nat) (c1 : Nat) (a2 : Int32) (a3 : Int32) (a4 : Int32) (t0 : Int32) (h : Hp) : Option (Int32 × Hp) :=
  if (2 : Int32) < a2 then (s_X3_search_b25 c0 c1 a3 a4 t0 (4 : Int32) h)
  else (s_X3_search_b25 c0 c1 a3 a4 t0 (0 : Int32) h)
noncomputable def s_X3_search (c0 : Nat) (c1 : Nat) (a2 : Int32) (a3 : Int32) (h : Hp) : Option (Int32 × Hp) :=
  if (1 : Int32) < a2 then (s_X3_search_b13 c0 c1 a2 a3 (0 : Int32) (4 : Int32) h)
  else (s_X3_search_b13 c0 c1 a2 a3 (0 : Int32) (0 : Int32) h)
set_option maxRecDepth 100000 in
set_option maxHeartbeats 4000000 in
theorem o_X3_search_b112 {K : gK} (S : Cx K RX3 cX3_search 10 1 39) {c0 : Nat} (k0 : kd c0 (10 + 3, 0)) {c1 : Nat} (k1 : kd c1 (10 + 7, 0)) (a3 : Int32) (a4 : Int32) (a5 : Int32) (a6 : Int32) (a7 : Int32) (a8 : Int32) (a9 : Int32) (h : Hp) {o : (Int32 × Int32 × Hp) ⊕ (Int32 × Hp)} (hyp : s_X3_search_b112 c0 c1 a3 a4 a5 a6 a7 a8 a9 h = some o) (hin : ∀ s', o = .inl s' → Go K 54 [(0, .ref (ad K c0)), (1, .ref (ad K c1)), (3, .int a3), (4, .int s'.1), (5, .int a5), (6, .int a6), (7, .int a7), (8, .int a8), (9, .int s'.2.1)] [] s'.2.2) (hex0 : ∀ s', o = .inr (s') → Go K 118 [(0, .ref (ad K c0)), (1, .ref (ad K c1)), (3, .int a3), (4, .int s'.1), (5, .int a5), (6, .int a6), (7, .int a7), (8, .int a8)] [] s'.2) : Go K 112 [(0, .ref (ad K c0)), (1, .ref (ad K c1)), (3, .int a3), (4, .int a4), (5, .int a5), (6, .int a6), (7, .int a7), (8, .int a8), (9, .int a9)] [] h := by
  unfold s_X3_search_b112 at hyp
  refine g_iinc (pc := 112) (v := (a9 + (1 : Int32))) (lv' := [(9, .int (a9 + (1 : Int32))), (0, .ref (ad K c0)), (1, .ref (ad K c1)), (3, .int a3), (4, .int a4), (5, .int a5), (6, .int a6), (7, .int a7), (8, .int a8)]) 8 S dX3_search_112 rfl (by rfl) (by decide) rfl ?_
  refine g_lti (C := fun v9_3 => Go K (112 + 3) [(9, .int v9_3), (0, .ref (ad K c0)), (1, .ref (ad K c1)), (3, .int a3), (4, .int a4), (5, .int a5), (6, .int a6), (7, .int a7), (8, .int a8)] [] h) hyp (fun v9_3 hyp => ?_)
  refine g_goto (pc := 115) (tgt := 54) S dX3_search_115 (by decide) ?_
  have hyp := Option.some.inj hyp
  subst hyp
  exact g_sub [1, 2, 3, 4, 5, 6, 7, 8, 0] rfl (hin (a4, v9_3, h) rfl)
set_option maxRecDepth 100000 in
set_option maxHeartbeats 4000000 in
theorem o_X3_search_l54 {K : gK} (S : Cx K RX3 cX3_search 10 1 39) {c0 : Nat} (k0 : kd c0 (10 + 3, 0)) {c1 : Nat} (k1 : kd c1 (10 + 7, 0)) (a3 : Int32) (a4 : Int32) (a5 : Int32) (a6 : Int32) (a7 : Int32) (a8 : Int32) (a9 : Int32) (h : Hp) {o : (Int32 × Int32 × Hp) ⊕ (Int32 × Hp)} (hyp : s_X3_search_l54 c0 c1 a3 a4 a5 a6 a7 a8 a9 h = some o) (hin : ∀ s', o = .inl s' → Go K 54 [(0, .ref (ad K c0)), (1, .ref (ad K c1)), (3, .int a3), (4, .int s'.1), (5, .int a5), (6, .int a6), (7, .int a7), (8, .int a8), (9, .int s'.2.1)] [] s'.2.2) (hex0 : ∀ s', o = .inr (s') → Go K 118 [(0, .ref (ad K c0)), (1, .ref (ad K c1)), (3, .int a3), (4, .int s'.1), (5, .int a5), (6, .int a6), (7, .int a7), (8, .int a8)] [] s'.2) : Go K 54 [(0, .ref (ad K c0)), (1, .ref (ad K c1)), (3, .int a3), (4, .int a4), (5, .int a5), (6, .int a6), (7, .int a7), (8, .int a8), (9, .int a9)] [] h := by
  unfold s_X3_search_l54 at hyp
  refine g_iload (pc := 54) 8 S dX3_search_54 rfl ?_
  refine g_iload (pc := 56) 5 S dX3_search_56 rfl ?_
  refine g_icmp_gt (pc := 58) (tgt := 118) S dX3_search_58 (by decide) hyp (fun hyp => ?_) (fun hyp => ?_)
  · have hyp := Option.some.inj hyp
    subst hyp
    exact g_sub [0, 1, 2, 3, 4, 5, 6, 7] rfl (hex0 (a4, h) rfl)
  · refine g_iload (pc := 61) 3 S dX3_search_61 rfl ?_
    refine g_iload_n (pc := 63) 2 S dX3_search_63 rfl ?_
    refine g_icmp_gt (pc := 64) (tgt := 112) S dX3_search_64 (by decide) hyp (fun hyp => ?_) (fun hyp => ?_)
    · exact g_sub [0, 1, 2, 3, 4, 5, 6, 7, 8] rfl (o_X3_search_b112 S k0 k1 a3 a4 a5 a6 a7 a8 a9 h hyp hin hex0)
    · refine g_aload_n (pc := 67) 1 S dX3_search_67 rfl ?_
      refine g_iload (pc := 68) 6 S dX3_search_68 rfl ?_
      refine g_i2l (pc := 70) S dX3_search_70 ?_
      refine g_iload (pc := 71) 7 S dX3_search_71 rfl ?_
      refine g_i2l (pc := 73) S dX3_search_73 ?_
      refine g_iload (pc := 74) 8 S dX3_search_74 rfl ?_
      refine g_i2l (pc := 76) S dX3_search_76 ?_
      refine g_lconst (pc := 77) (v := (1 : Int64)) S dX3_search_77 (by decide) ?_
      refine g_iconst (pc := 78) (v := (0 : Int32)) S dX3_search_78 (by decide) ?_
      refine g_bind hyp (fun y4 hy4 hyp => ?_)
      refine g_callV (pc := 79) (As := [.long (a7).toInt64, .long (a8).toInt64, .long (a9).toInt64, .long (1 : Int64), .int (0 : Int32)]) (rest := []) S dX3_search_79 k1 rfl tw_800 tw_779 tw_780 mw_X7_hold (m_X7_hold k1 (a7).toInt64 (a8).toInt64 (a9).toInt64 (1 : Int64) (0 : Int32) h hy4) rfl rfl (Nat.le_of_ble_eq_true rfl) (Nat.le_of_ble_eq_true rfl) (Nat.le_of_ble_eq_true rfl) ?_
      refine g_if_eq (pc := 82) (tgt := 112) S dX3_search_82 (by decide) hyp (fun hyp => ?_) (fun hyp => ?_)
      · exact g_sub [0, 1, 2, 3, 4, 5, 6, 7, 8] rfl (o_X3_search_b112 S k0 k1 a3 a4 a5 a6 a7 a8 a9 h hyp hin hex0)
      · refine g_iinc (pc := 85) (v := (a4 + (1 : Int32))) (lv' := [(4, .int (a4 + (1 : Int32))), (0, .ref (ad K c0)), (1, .ref (ad K c1)), (3, .int a3), (5, .int a5), (6, .int a6), (7, .int a7), (8, .int a8), (9, .int a9)]) 3 S dX3_search_85 rfl (by rfl) (by decide) rfl ?_
        refine g_lti (C := fun v4_5 => Go K (85 + 3) [(4, .int v4_5), (0, .ref (ad K c0)), (1, .ref (ad K c1)), (3, .int a3), (5, .int a5), (6, .int a6), (7, .int a7), (8, .int a8), (9, .int a9)] [] h) hyp (fun v4_5 hyp => ?_)
        refine g_aload_n (pc := 88) 1 S dX3_search_88 rfl ?_
        refine g_getR (pc := 89) S dX3_search_89 fl_X3_9 k0 ?_
        refine g_iconst (pc := 92) (v := (0 : Int32)) S dX3_search_92 (by decide) ?_
        refine g_iload (pc := 93) 6 S dX3_search_93 rfl ?_
        refine g_iast (pc := 95) S dX3_search_95 (kf_3_1 k0) hyp (fun h6 hyp => ?_)
        refine g_aload_n (pc := 96) 1 S dX3_search_96 rfl ?_
        refine g_getR (pc := 97) S dX3_search_97 fl_X3_9 k0 ?_
        refine g_iconst (pc := 100) (v := (1 : Int32)) S dX3_search_100 (by decide) ?_
        refine g_iload (pc := 101) 7 S dX3_search_101 rfl ?_
        refine g_iast (pc := 103) S dX3_search_103 (kf_3_1 k0) hyp (fun h7 hyp => ?_)
        refine g_aload_n (pc := 104) 1 S dX3_search_104 rfl ?_
        refine g_getR (pc := 105) S dX3_search_105 fl_X3_9 k0 ?_
        refine g_iconst (pc := 108) (v := (2 : Int32)) S dX3_search_108 (by decide) ?_
        refine g_iload (pc := 109) 8 S dX3_search_109 rfl ?_
        refine g_iast (pc := 111) S dX3_search_111 (kf_3_1 k0) hyp (fun h8 hyp => ?_)
        exact g_sub [1, 2, 3, 0, 4, 5, 6, 7, 8] rfl (o_X3_search_b112 S k0 k1 a3 v4_5 a5 a6 a7 a8 a9 h8 hyp hin hex0)
set_option maxRecDepth 100000 in
set_option maxHeartbeats 4000000 in
theorem o_X3_search_l42 {K : gK} (S : Cx K RX3 cX3_search 10 1 39) {c0 : Nat} (k0 : kd c0 (10 + 3, 0)) {c1 : Nat} (k1 : kd c1 (10 + 7, 0)) (a3 : Int32) (a4 : Int32) (a5 : Int32) (a6 : Int32) (a7 : Int32) (a8 : Int32) (h : Hp) {o : (Int32 × Int32 × Hp) ⊕ (Int32 × Hp)} (hyp : s_X3_search_l42 c0 c1 a3 a4 a5 a6 a7 a8 h = some o) (hin : ∀ s', o = .inl s' → Go K 42 [(0, .ref (ad K c0)), (1, .ref (ad K c1)), (3, .int a3), (4, .int s'.1), (5, .int a5), (6, .int a6), (7, .int a7), (8, .int s'.2.1)] [] s'.2.2) (hex0 : ∀ s', o = .inr (s') → Go K 124 [(0, .ref (ad K c0)), (1, .ref (ad K c1)), (3, .int a3), (4, .int s'.1), (5, .int a5), (6, .int a6), (7, .int a7)] [] s'.2) : Go K 42 [(0, .ref (ad K c0)), (1, .ref (ad K c1)), (3, .int a3), (4, .int a4), (5, .int a5), (6, .int a6), (7, .int a7), (8, .int a8)] [] h := by
  unfold s_X3_search_l42 at hyp
  refine g_iload (pc := 42) 7 S dX3_search_42 rfl ?_
  refine g_iload (pc := 44) 4 S dX3_search_44 rfl ?_
  refine g_icmp_gt (pc := 46) (tgt := 124) S dX3_search_46 (by decide) hyp (fun hyp => ?_) (fun hyp => ?_)
  · have hyp := Option.some.inj hyp
    subst hyp
    exact g_sub [0, 1, 2, 3, 4, 5, 6] rfl (hex0 (a4, h) rfl)
  · refine g_iload (pc := 49) 5 S dX3_search_49 rfl ?_
    refine g_ineg (pc := 51) S dX3_search_51 ?_
    refine g_lti (C := fun v9_2 => Go K 52 [(0, .ref (ad K c0)), (1, .ref (ad K c1)), (3, .int a3), (4, .int a4), (5, .int a5), (6, .int a6), (7, .int a7), (8, .int a8)] [.int v9_2] h) hyp (fun v9_2 hyp => ?_)
    refine g_istore (pc := 52) (lv' := [(9, .int v9_2), (0, .ref (ad K c0)), (1, .ref (ad K c1)), (3, .int a3), (4, .int a4), (5, .int a5), (6, .int a6), (7, .int a7), (8, .int a8)]) S dX3_search_52 (by decide) rfl ?_
    refine g_bind hyp (fun e9 he9 hyp => ?_)
    refine g_sub [1, 2, 3, 4, 5, 6, 7, 8, 0] rfl (g_loop (f := fun s : Int32 × Int32 × Hp => s_X3_search_l54 c0 c1 a3 s.1 a5 a6 a7 a8 s.2.1 s.2.2) (ρ := Int32 × Hp) (Hd := fun s : Int32 × Int32 × Hp => Go K 54 [(0, .ref (ad K c0)), (1, .ref (ad K c1)), (3, .int a3), (4, .int s.1), (5, .int a5), (6, .int a6), (7, .int a7), (8, .int a8), (9, .int s.2.1)] [] s.2.2) (Ex := fun e9 => Go K 118 [(0, .ref (ad K c0)), (1, .ref (ad K c1)), (3, .int a3), (4, .int e9.1), (5, .int a5), (6, .int a6), (7, .int a7), (8, .int a8)] [] e9.2) (fun s o h1 h2 h3 => o_X3_search_l54 S k0 k1 a3 s.1 a5 a6 a7 a8 s.2.1 s.2.2 h1 h2 h3) FUEL _ e9 he9 ?_)
    refine g_iinc (pc := 118) (v := (a8 + (1 : Int32))) (lv' := [(8, .int (a8 + (1 : Int32))), (0, .ref (ad K c0)), (1, .ref (ad K c1)), (3, .int a3), (4, .int e9.1), (5, .int a5), (6, .int a6), (7, .int a7)]) 7 S dX3_search_118 rfl (by rfl) (by decide) rfl ?_
    refine g_lti (C := fun v8_10 => Go K (118 + 3) [(8, .int v8_10), (0, .ref (ad K c0)), (1, .ref (ad K c1)), (3, .int a3), (4, .int e9.1), (5, .int a5), (6, .int a6), (7, .int a7)] [] e9.2) hyp (fun v8_10 hyp => ?_)
    refine g_goto (pc := 121) (tgt := 42) S dX3_search_121 (by decide) ?_
    have hyp := Option.some.inj hyp
    subst hyp
    exact g_sub [1, 2, 3, 4, 5, 6, 7, 0] rfl (hin (e9.1, v8_10, e9.2) rfl)
set_option maxRecDepth 100000 in
set_option maxHeartbeats 4000000 in
theorem o_X3_search_l31 {K : gK} (S : Cx K RX3 cX3_search 10 1 39) {c0 : Nat} (k0 : kd c0 (10 + 3, 0)) {c1 : Nat} (k1 : kd c1 (10 + 7, 0)) (a3 : Int32) (a4 : Int32) (a5 : Int32) (a6 : Int32) (a7 : Int32) (h : Hp) {o : (Int32 × Int32 × Hp) ⊕ (Int32 × Hp)} (hyp : s_X3_search_l31 c0 c1 a3 a4 a5 a6 a7 h = some o) (hin : ∀ s', o = .inl s' → Go K 31 [(0, .ref (ad K c0)), (1, .ref (ad K c1)), (3, .int a3), (4, .int s'.1), (5, .int a5), (6, .int a6), (7, .int s'.2.1)] [] s'.2.2) (hex0 : ∀ s', o = .inr (s') → Go K 130 [(4, .int s'.1)] [] s'.2) : Go K 31 [(0, .ref (ad K c0)), (1, .ref (ad K c1)), (3, .int a3), (4, .int a4), (5, .int a5), (6, .int a6), (7, .int a7)] [] h := by
  unfold s_X3_search_l31 at hyp
  refine g_iload (pc := 31) 6 S dX3_search_31 rfl ?_
  refine g_iconst (pc := 33) (v := (4 : Int32)) S dX3_search_33 (by decide) ?_
  refine g_icmp_gt (pc := 34) (tgt := 130) S dX3_search_34 (by decide) hyp (fun hyp => ?_) (fun hyp => ?_)
  · have hyp := Option.some.inj hyp
    subst hyp
    exact g_sub [3] rfl (hex0 (a4, h) rfl)
  · refine g_iload (pc := 37) 4 S dX3_search_37 rfl ?_
    refine g_ineg (pc := 39) S dX3_search_39 ?_
    refine g_lti (C := fun v8_1 => Go K 40 [(0, .ref (ad K c0)), (1, .ref (ad K c1)), (3, .int a3), (4, .int a4), (5, .int a5), (6, .int a6), (7, .int a7)] [.int v8_1] h) hyp (fun v8_1 hyp => ?_)
    refine g_istore (pc := 40) (lv' := [(8, .int v8_1), (0, .ref (ad K c0)), (1, .ref (ad K c1)), (3, .int a3), (4, .int a4), (5, .int a5), (6, .int a6), (7, .int a7)]) S dX3_search_40 (by decide) rfl ?_
    refine g_bind hyp (fun e11 he11 hyp => ?_)
    refine g_sub [1, 2, 3, 4, 5, 6, 7, 0] rfl (g_loop (f := fun s : Int32 × Int32 × Hp => s_X3_search_l42 c0 c1 a3 s.1 a5 a6 a7 s.2.1 s.2.2) (ρ := Int32 × Hp) (Hd := fun s : Int32 × Int32 × Hp => Go K 42 [(0, .ref (ad K c0)), (1, .ref (ad K c1)), (3, .int a3), (4, .int s.1), (5, .int a5), (6, .int a6), (7, .int a7), (8, .int s.2.1)] [] s.2.2) (Ex := fun e11 => Go K 124 [(0, .ref (ad K c0)), (1, .ref (ad K c1)), (3, .int a3), (4, .int e11.1), (5, .int a5), (6, .int a6), (7, .int a7)] [] e11.2) (fun s o h1 h2 h3 => o_X3_search_l42 S k0 k1 a3 s.1 a5 a6 a7 s.2.1 s.2.2 h1 h2 h3) FUEL _ e11 he11 ?_)
    refine g_iinc (pc := 124) (v := (a7 + (1 : Int32))) (lv' := [(7, .int (a7 + (1 : Int32))), (0, .ref (ad K c0)), (1, .ref (ad K c1)), (3, .int a3), (4, .int e11.1), (5, .int a5), (6, .int a6)]) 6 S dX3_search_124 rfl (by rfl) (by decide) rfl ?_
    refine g_lti (C := fun v7_12 => Go K (124 + 3) [(7, .int v7_12), (0, .ref (ad K c0)), (1, .ref (ad K c1)), (3, .int a3), (4, .int e11.1), (5, .int a5), (6, .int a6)] [] e11.2) hyp (fun v7_12 hyp => ?_)
    refine g_goto (pc := 127) (tgt := 31) S dX3_search_127 (by decide) ?_
    have hyp := Option.some.inj hyp
    subst hyp
    exact g_sub [1, 2, 3, 4, 5, 6, 0] rfl (hin (e11.1, v7_12, e11.2) rfl)
set_option maxRecDepth 100000 in
set_option maxHeartbeats 4000000 in
theorem o_X3_search_b25 {K : gK} (S : Cx K RX3 cX3_search 10 1 39) {c0 : Nat} (k0 : kd c0 (10 + 3, 0)) {c1 : Nat} (k1 : kd c1 (10 + 7, 0)) (a3 : Int32) (a4 : Int32) (a5 : Int32) (t0 : Int32) (h : Hp) {o : Int32 × Hp} (hyp : s_X3_search_b25 c0 c1 a3 a4 a5 t0 h = some o) (F : Rt K (some .int) (some (.int o.1)) o.2) : Go K 25 [(0, .ref (ad K c0)), (1, .ref (ad K c1)), (3, .int a3), (4, .int a4), (5, .int a5)] [.int t0] h := by
  unfold s_X3_search_b25 at hyp
  refine g_istore (pc := 25) (lv' := [(6, .int t0), (0, .ref (ad K c0)), (1, .ref (ad K c1)), (3, .int a3), (4, .int a4), (5, .int a5)]) S dX3_search_25 (by decide) rfl ?_
  refine g_bipush (pc := 27) (v := (-4 : Int32)) S dX3_search_27 (by decide) ?_
  refine g_istore (pc := 29) (lv' := [(7, .int (-4 : Int32)), (6, .int t0), (0, .ref (ad K c0)), (1, .ref (ad K c1)), (3, .int a3), (4, .int a4), (5, .int a5)]) S dX3_search_29 (by decide) rfl ?_
  refine g_bind hyp (fun e13 he13 hyp => ?_)
  refine g_sub [2, 3, 4, 5, 6, 1, 0] rfl (g_loop (f := fun s : Int32 × Int32 × Hp => s_X3_search_l31 c0 c1 a3 s.1 a5 t0 s.2.1 s.2.2) (ρ := Int32 × Hp) (Hd := fun s : Int32 × Int32 × Hp => Go K 31 [(0, .ref (ad K c0)), (1, .ref (ad K c1)), (3, .int a3), (4, .int s.1), (5, .int a5), (6, .int t0), (7, .int s.2.1)] [] s.2.2) (Ex := fun e13 => Go K 130 [(4, .int e13.1)] [] e13.2) (fun s o h1 h2 h3 => o_X3_search_l31 S k0 k1 a3 s.1 a5 t0 s.2.1 s.2.2 h1 h2 h3) FUEL _ e13 he13 ?_)
  refine g_iload (pc := 130) 0 S dX3_search_130 rfl ?_
  have hyp := Option.some.inj hyp
  subst hyp
  exact g_iret (pc := 132) S F dX3_search_132
set_option maxRecDepth 100000 in
set_option maxHeartbeats 4000000 in
theorem o_X3_search_b13 {K : gK} (S : Cx K RX3 cX3_search 10 1 39) {c0 : Nat} (k0 : kd c0 (10 + 3, 0)) {c1 : Nat} (k1 : kd c1 (10 + 7, 0)) (a2 : Int32) (a3 : Int32) (a4 : Int32) (t0 : Int32) (h : Hp) {o : Int32 × Hp} (hyp : s_X3_search_b13 c0 c1 a2 a3 a4 t0 h = some o) (F : Rt K (some .int) (some (.int o.1)) o.2) : Go K 13 [(0, .ref (ad K c0)), (1, .ref (ad K c1)), (2, .int a2), (3, .int a3), (4, .int a4)] [.int t0] h := by
  unfold s_X3_search_b13 at hyp
  refine g_istore (pc := 13) (lv' := [(5, .int t0), (0, .ref (ad K c0)), (1, .ref (ad K c1)), (2, .int a2), (3, .int a3), (4, .int a4)]) S dX3_search_13 (by decide) rfl ?_
  refine g_iload_n (pc := 15) 3 S dX3_search_15 rfl ?_
  refine g_iconst (pc := 16) (v := (2 : Int32)) S dX3_search_16 (by decide) ?_
  refine g_icmp_le (pc := 17) (tgt := 24) S dX3_search_17 (by decide) hyp (fun hyp => ?_) (fun hyp => ?_)
  · refine g_iconst (pc := 20) (v := (4 : Int32)) S dX3_search_20 (by decide) ?_
    refine g_goto (pc := 21) (tgt := 25) S dX3_search_21 (by decide) ?_
    exact g_sub [1, 2, 4, 5, 0] rfl (o_X3_search_b25 S k0 k1 a3 a4 t0 (4 : Int32) h hyp F)
  · refine g_iconst (pc := 24) (v := (0 : Int32)) S dX3_search_24 (by decide) ?_
    exact g_sub [1, 2, 4, 5, 0] rfl (o_X3_search_b25 S k0 k1 a3 a4 t0 (0 : Int32) h hyp F)
set_option maxRecDepth 100000 in
set_option maxHeartbeats 4000000 in
theorem o_X3_search {K : gK} (S : Cx K RX3 cX3_search 10 1 39) {c0 : Nat} (k0 : kd c0 (10 + 3, 0)) {c1 : Nat} (k1 : kd c1 (10 + 7, 0)) (a2 : Int32) (a3 : Int32) (h : Hp) {o : Int32 × Hp} (hyp : s_X3_search c0 c1 a2 a3 h = some o) (F : Rt K (some .int) (some (.int o.1)) o.2) : Go K 0 [(0, .ref (ad K c0)), (1, .ref (ad K c1)), (2, .int a2), (3, .int a3)] [] h := by
  unfold s_X3_search at hyp
  refine g_iconst (pc := 0) (v := (0 : Int32)) S dX3_search_0 (by decide) ?_
  refine g_istore (pc := 1) (lv' := [(4, .int (0 : Int32)), (0, .ref (ad K c0)), (1, .ref (ad K c1)), (2, .int a2), (3, .int a3)]) S dX3_search_1 (by decide) rfl ?_
  refine g_iload_n (pc := 3) 3 S dX3_search_3 rfl ?_
  refine g_iconst (pc := 4) (v := (1 : Int32)) S dX3_search_4 (by decide) ?_
  refine g_icmp_le (pc := 5) (tgt := 12) S dX3_search_5 (by decide) hyp (fun hyp => ?_) (fun hyp => ?_)
  · refine g_iconst (pc := 8) (v := (4 : Int32)) S dX3_search_8 (by decide) ?_
    refine g_goto (pc := 9) (tgt := 13) S dX3_search_9 (by decide) ?_
    exact g_sub [1, 2, 3, 4, 0] rfl (o_X3_search_b13 S k0 k1 a2 a3 (0 : Int32) (4 : Int32) h hyp F)
  · refine g_iconst (pc := 12) (v := (0 : Int32)) S dX3_search_12 (by decide) ?_
    exact g_sub [1, 2, 3, 4, 0] rfl (o_X3_search_b13 S k0 k1 a2 a3 (0 : Int32) (0 : Int32) h hyp F)
theorem m_X3_search {l : Launch} {D : va_G} {cT : Nat → ClassId} {aD : Nat → Nat} {c0 : Nat} (k0 : kd c0 (10 + 3, 0)) {c1 : Nat} (k1 : kd c1 (10 + 7, 0)) (a2 : Int32) (a3 : Int32) (h : Hp) {o : Int32 × Hp} (hyp : s_X3_search c0 c1 a2 a3 h = some o) : Ok l D cT aD yX3_search cX3_search 10 (some .int) 1 39 [.ref (aD c0), .ref (aD c1), .int a2, .int a3] h (some (.int o.1)) o.2 :=
  Ok.of (by decide +kernel) rfl (Nat.le_of_ble_eq_true rfl) (fun K e1 e2 e3 e4 S F => by subst e1; exact o_X3_search S k0 k1 a2 a3 h hyp F)
-- BoundProofs whole (II)I
noncomputable def s_X9_whole (c0 : Nat) (a1 : Int32) (a2 : Int32) (h : Hp) : Option (Int32 × Hp) :=
  if a1 < 0 then (some ((-1 : Int32), h))
  else ((s_X5_hasVariable (c0 + 1) a2 h).bind fun y1 =>
  if y1 = 0 then (some ((-1 : Int32), h))
  else ((s_X3_search (c0 + 64) (c0 + 32) (h.1 (c0 + 1) 0) a1 h).bind fun y2 =>
  if a1 < y2.1 then (ldI y2.2 ((c0 + 64) + 1) 3 a2 fun x3 =>
  lt (sJ y2.2 c0 14 (x3).toInt64) fun h4 =>
  some ((1 : Int32), h4))
  else (some ((-9 : Int32), y2.2))))
set_option maxRecDepth 100000 in
set_option maxHeartbeats 4000000 in
theorem o_X9_whole {K : gK} (S : Cx K RX9 cX9_whole 3 2 72) {c0 : Nat} (k0 : kd c0 (10 + 9, 0)) (a1 : Int32) (a2 : Int32) (h : Hp) {o : Int32 × Hp} (hyp : s_X9_whole c0 a1 a2 h = some o) (F : Rt K (some .int) (some (.int o.1)) o.2) : Go K 0 [(0, .ref (ad K c0)), (1, .int a1), (2, .int a2)] [] h := by
  unfold s_X9_whole at hyp
  refine g_iload_n (pc := 0) 1 S dX9_whole_0 rfl ?_
  refine g_if_lt (pc := 1) (tgt := 15) S dX9_whole_1 (by decide) hyp (fun hyp => ?_) (fun hyp => ?_)
  · refine g_iconst (pc := 15) (v := (-1 : Int32)) S dX9_whole_15 (by decide) ?_
    have hyp := Option.some.inj hyp
    subst hyp
    exact g_iret (pc := 16) S F dX9_whole_16
  · refine g_aload_n (pc := 4) 0 S dX9_whole_4 rfl ?_
    refine g_getR (pc := 5) S dX9_whole_5 fl_X9_12 k0 ?_
    refine g_iload_n (pc := 8) 2 S dX9_whole_8 rfl ?_
    refine g_bind hyp (fun y1 hy1 hyp => ?_)
    refine g_callV (pc := 9) (As := [.int a2]) (rest := []) S dX9_whole_9 (kf_9_1 k0) rfl tw_586 tw_478 tw_479 mw_X5_hasVariable (m_X5_hasVariable (kf_9_1 k0) a2 h hy1) rfl rfl (Nat.le_of_ble_eq_true rfl) (Nat.le_of_ble_eq_true rfl) (Nat.le_of_ble_eq_true rfl) ?_
    refine g_if_ne (pc := 12) (tgt := 17) S dX9_whole_12 (by decide) hyp (fun hyp => ?_) (fun hyp => ?_)
    · refine g_iconst (pc := 15) (v := (-1 : Int32)) S dX9_whole_15 (by decide) ?_
      have hyp := Option.some.inj hyp
      subst hyp
      exact g_iret (pc := 16) S F dX9_whole_16
    · refine g_aload_n (pc := 17) 0 S dX9_whole_17 rfl ?_
      refine g_getR (pc := 18) S dX9_whole_18 fl_X9_77 k0 ?_
      refine g_aload_n (pc := 21) 0 S dX9_whole_21 rfl ?_
      refine g_getR (pc := 22) S dX9_whole_22 fl_X9_52 k0 ?_
      refine g_aload_n (pc := 25) 0 S dX9_whole_25 rfl ?_
      refine g_getR (pc := 26) S dX9_whole_26 fl_X9_12 k0 ?_
      refine g_getI (pc := 29) S dX9_whole_29 fl_X9_249 (kf_9_1 k0) ?_
      refine g_iload_n (pc := 32) 1 S dX9_whole_32 rfl ?_
      refine g_bind hyp (fun y2 hy2 hyp => ?_)
      refine g_callV (pc := 33) (As := [.ref (ad K (c0 + 32)), .int (h.1 (c0 + 1) 0), .int a1]) (rest := []) S dX9_whole_33 (kf_9_64 k0) rfl tw_796 tw_797 tw_798 mw_X3_search (m_X3_search (kf_9_64 k0) (kf_9_32 k0) (h.1 (c0 + 1) 0) a1 h hy2) rfl rfl (Nat.le_of_ble_eq_true rfl) (Nat.le_of_ble_eq_true rfl) (Nat.le_of_ble_eq_true rfl) ?_
      refine g_iload_n (pc := 36) 1 S dX9_whole_36 rfl ?_
      refine g_icmp_gt (pc := 37) (tgt := 43) S dX9_whole_37 (by decide) hyp (fun hyp => ?_) (fun hyp => ?_)
      · refine g_aload_n (pc := 43) 0 S dX9_whole_43 rfl ?_
        refine g_aload_n (pc := 44) 0 S dX9_whole_44 rfl ?_
        refine g_getR (pc := 45) S dX9_whole_45 fl_X9_77 k0 ?_
        refine g_getR (pc := 48) S dX9_whole_48 fl_X9_274 (kf_9_64 k0) ?_
        refine g_iload_n (pc := 51) 2 S dX9_whole_51 rfl ?_
        refine g_iald (pc := 52) S dX9_whole_52 (kf_3_1 (kf_9_64 k0)) hyp (fun x3 hyp => ?_)
        refine g_i2l (pc := 53) S dX9_whole_53 ?_
        refine g_putJ (pc := 54) S dX9_whole_54 fl_X9_88 k0 hyp (fun h4 hyp => ?_)
        refine g_iconst (pc := 57) (v := (1 : Int32)) S dX9_whole_57 (by decide) ?_
        have hyp := Option.some.inj hyp
        subst hyp
        exact g_iret (pc := 58) S F dX9_whole_58
      · refine g_bipush (pc := 40) (v := (-9 : Int32)) S dX9_whole_40 (by decide) ?_
        have hyp := Option.some.inj hyp
        subst hyp
        exact g_iret (pc := 42) S F dX9_whole_42
theorem m_X9_whole {l : Launch} {D : va_G} {cT : Nat → ClassId} {aD : Nat → Nat} {c0 : Nat} (k0 : kd c0 (10 + 9, 0)) (a1 : Int32) (a2 : Int32) (h : Hp) {o : Int32 × Hp} (hyp : s_X9_whole c0 a1 a2 h = some o) : Ok l D cT aD yX9_whole cX9_whole 3 (some .int) 2 72 [.ref (aD c0), .int a1, .int a2] h (some (.int o.1)) o.2 :=
  Ok.of (by decide +kernel) rfl (Nat.le_of_ble_eq_true rfl) (fun K e1 e2 e3 e4 S F => by subst e1; exact o_X9_whole S k0 a1 a2 h hyp F)
-- BoundProofs upper ()J
noncomputable def s_X9_upper (c0 : Nat)  (h : Hp) : Option (Int64) :=
  some (h.2 c0 12)
set_option maxRecDepth 100000 in
set_option maxHeartbeats 4000000 in
theorem o_X9_upper {K : gK} (S : Cx K RX9 cX9_upper 1 0 0) {c0 : Nat} (k0 : kd c0 (10 + 9, 0))  (h : Hp) {o : Int64} (hyp : s_X9_upper c0  h = some o) (F : Rt K (some .long) (some (.long o)) h) : Go K 0 [(0, .ref (ad K c0))] [] h := by
  unfold s_X9_upper at hyp
  refine g_aload_n (pc := 0) 0 S dX9_upper_0 rfl ?_
  refine g_getJ (pc := 1) S dX9_upper_1 fl_X9_81 k0 ?_
  have hyp := Option.some.inj hyp
  subst hyp
  exact g_lret (pc := 4) S F dX9_upper_4
theorem m_X9_upper {l : Launch} {D : va_G} {cT : Nat → ClassId} {aD : Nat → Nat} {c0 : Nat} (k0 : kd c0 (10 + 9, 0))  (h : Hp) {o : Int64} (hyp : s_X9_upper c0  h = some o) : Ok l D cT aD yX9_upper cX9_upper 1 (some .long) 0 0 [.ref (aD c0)] h (some (.long o)) h :=
  Ok.of (by decide +kernel) rfl (Nat.le_of_ble_eq_true rfl) (fun K e1 e2 e3 e4 S F => by subst e1; exact o_X9_upper S k0  h hyp F)
-- BoundProofs lower ()J
noncomputable def s_X9_lower (c0 : Nat)  (h : Hp) : Option (Int64) :=
  some (h.2 c0 13)
set_option maxRecDepth 100000 in
set_option maxHeartbeats 4000000 in
theorem o_X9_lower {K : gK} (S : Cx K RX9 cX9_lower 1 0 0) {c0 : Nat} (k0 : kd c0 (10 + 9, 0))  (h : Hp) {o : Int64} (hyp : s_X9_lower c0  h = some o) (F : Rt K (some .long) (some (.long o)) h) : Go K 0 [(0, .ref (ad K c0))] [] h := by
  unfold s_X9_lower at hyp
  refine g_aload_n (pc := 0) 0 S dX9_lower_0 rfl ?_
  refine g_getJ (pc := 1) S dX9_lower_1 fl_X9_85 k0 ?_
  have hyp := Option.some.inj hyp
  subst hyp
  exact g_lret (pc := 4) S F dX9_lower_4
theorem m_X9_lower {l : Launch} {D : va_G} {cT : Nat → ClassId} {aD : Nat → Nat} {c0 : Nat} (k0 : kd c0 (10 + 9, 0))  (h : Hp) {o : Int64} (hyp : s_X9_lower c0  h = some o) : Ok l D cT aD yX9_lower cX9_lower 1 (some .long) 0 0 [.ref (aD c0)] h (some (.long o)) h :=
  Ok.of (by decide +kernel) rfl (Nat.le_of_ble_eq_true rfl) (fun K e1 e2 e3 e4 S F => by subst e1; exact o_X9_lower S k0  h hyp F)
-- BoundProofs told ()J
noncomputable def s_X9_told (c0 : Nat)  (h : Hp) : Option (Int64) :=
  some (h.2 c0 14)
set_option maxRecDepth 100000 in
set_option maxHeartbeats 4000000 in
theorem o_X9_told {K : gK} (S : Cx K RX9 cX9_told 1 0 0) {c0 : Nat} (k0 : kd c0 (10 + 9, 0))  (h : Hp) {o : Int64} (hyp : s_X9_told c0  h = some o) (F : Rt K (some .long) (some (.long o)) h) : Go K 0 [(0, .ref (ad K c0))] [] h := by
  unfold s_X9_told at hyp
  refine g_aload_n (pc := 0) 0 S dX9_told_0 rfl ?_
  refine g_getJ (pc := 1) S dX9_told_1 fl_X9_88 k0 ?_
  have hyp := Option.some.inj hyp
  subst hyp
  exact g_lret (pc := 4) S F dX9_told_4
theorem m_X9_told {l : Launch} {D : va_G} {cT : Nat → ClassId} {aD : Nat → Nat} {c0 : Nat} (k0 : kd c0 (10 + 9, 0))  (h : Hp) {o : Int64} (hyp : s_X9_told c0  h = some o) : Ok l D cT aD yX9_told cX9_told 1 (some .long) 0 0 [.ref (aD c0)] h (some (.long o)) h :=
  Ok.of (by decide +kernel) rfl (Nat.le_of_ble_eq_true rfl) (fun K e1 e2 e3 e4 S F => by subst e1; exact o_X9_told S k0  h hyp F)
-- BoundProofs keep (I)I
noncomputable def s_X9_keep (c0 : Nat) (a1 : Int32) (h : Hp) : Option (Int32 × Hp) :=
  if a1 < 0 then (some ((-1 : Int32), h))
  else (if a1 < (2 : Int32) then (ldR (c0 + 13) a1 fun r1 =>
  (s_X5_copy r1 (c0 + 1)  h).bind fun y2 =>
  stI y2 (c0 + 26) 2 a1 (1 : Int32) fun h3 =>
  some ((h3.1 (c0 + 1) 2), h3))
  else (some ((-1 : Int32), h)))
set_option maxRecDepth 100000 in
set_option maxHeartbeats 4000000 in
theorem o_X9_keep {K : gK} (S : Cx K RX9 cX9_keep 2 2 85) {c0 : Nat} (k0 : kd c0 (10 + 9, 0)) (a1 : Int32) (h : Hp) {o : Int32 × Hp} (hyp : s_X9_keep c0 a1 h = some o) (F : Rt K (some .int) (some (.int o.1)) o.2) : Go K 0 [(0, .ref (ad K c0)), (1, .int a1)] [] h := by
  unfold s_X9_keep at hyp
  refine g_iload_n (pc := 0) 1 S dX9_keep_0 rfl ?_
  refine g_if_lt (pc := 1) (tgt := 9) S dX9_keep_1 (by decide) hyp (fun hyp => ?_) (fun hyp => ?_)
  · refine g_iconst (pc := 9) (v := (-1 : Int32)) S dX9_keep_9 (by decide) ?_
    have hyp := Option.some.inj hyp
    subst hyp
    exact g_iret (pc := 10) S F dX9_keep_10
  · refine g_iload_n (pc := 4) 1 S dX9_keep_4 rfl ?_
    refine g_iconst (pc := 5) (v := (2 : Int32)) S dX9_keep_5 (by decide) ?_
    refine g_icmp_lt (pc := 6) (tgt := 11) S dX9_keep_6 (by decide) hyp (fun hyp => ?_) (fun hyp => ?_)
    · refine g_aload_n (pc := 11) 0 S dX9_keep_11 rfl ?_
      refine g_getR (pc := 12) S dX9_keep_12 fl_X9_19 k0 ?_
      refine g_iload_n (pc := 15) 1 S dX9_keep_15 rfl ?_
      refine g_aald (pc := 16) S dX9_keep_16 (kf_9_13 k0) hyp (fun r1 hyp er1 => ?_)
      refine g_aload_n (pc := 17) 0 S dX9_keep_17 rfl ?_
      refine g_getR (pc := 18) S dX9_keep_18 fl_X9_12 k0 ?_
      refine g_bind hyp (fun y2 hy2 hyp => ?_)
      refine g_callV (pc := 21) (As := [.ref (ad K (c0 + 1))]) (rest := []) S dX9_keep_21 (kf_im (kf_9_13 k0) er1) rfl tw_499 tw_500 tw_501 mw_X5_copy (m_X5_copy (kf_im (kf_9_13 k0) er1) (kf_9_1 k0)  h hy2) rfl rfl (Nat.le_of_ble_eq_true rfl) (Nat.le_of_ble_eq_true rfl) (Nat.le_of_ble_eq_true rfl) ?_
      refine g_aload_n (pc := 24) 0 S dX9_keep_24 rfl ?_
      refine g_getR (pc := 25) S dX9_keep_25 fl_X9_23 k0 ?_
      refine g_iload_n (pc := 28) 1 S dX9_keep_28 rfl ?_
      refine g_iconst (pc := 29) (v := (1 : Int32)) S dX9_keep_29 (by decide) ?_
      refine g_zast (pc := 30) S dX9_keep_30 (kf_9_26 k0) (Or.inr rfl) hyp (fun h3 hyp => ?_)
      refine g_aload_n (pc := 31) 0 S dX9_keep_31 rfl ?_
      refine g_getR (pc := 32) S dX9_keep_32 fl_X9_12 k0 ?_
      refine g_getI (pc := 35) S dX9_keep_35 fl_X9_140 (kf_9_1 k0) ?_
      have hyp := Option.some.inj hyp
      subst hyp
      exact g_iret (pc := 38) S F dX9_keep_38
    · refine g_iconst (pc := 9) (v := (-1 : Int32)) S dX9_keep_9 (by decide) ?_
      have hyp := Option.some.inj hyp
      subst hyp
      exact g_iret (pc := 10) S F dX9_keep_10
theorem m_X9_keep {l : Launch} {D : va_G} {cT : Nat → ClassId} {aD : Nat → Nat} {c0 : Nat} (k0 : kd c0 (10 + 9, 0)) (a1 : Int32) (h : Hp) {o : Int32 × Hp} (hyp : s_X9_keep c0 a1 h = some o) : Ok l D cT aD yX9_keep cX9_keep 2 (some .int) 2 85 [.ref (aD c0), .int a1] h (some (.int o.1)) o.2 :=
  Ok.of (by decide +kernel) rfl (Nat.le_of_ble_eq_true rfl) (fun K e1 e2 e3 e4 S F => by subst e1; exact o_X9_keep S k0 a1 h hyp F)
-- BoundProofs back (I)I
noncomputable def s_X9_back (c0 : Nat) (a1 : Int32) (h : Hp) : Option (Int32 × Hp) :=
  if a1 < 0 then (some ((-1 : Int32), h))
  else (if a1 < (2 : Int32) then (ldI h (c0 + 26) 2 a1 fun x1 =>
  if x1 = 0 then (some ((-2 : Int32), h))
  else (ldR (c0 + 13) a1 fun r2 =>
  (s_X5_copy (c0 + 1) r2  h).bind fun y3 =>
  (s_X9_loadRows c0  y3).bind fun y4 =>
  some ((y4.1 (c0 + 1) 2), y4)))
  else (some ((-1 : Int32), h)))
set_option maxRecDepth 100000 in
set_option maxHeartbeats 4000000 in
theorem o_X9_back {K : gK} (S : Cx K RX9 cX9_back 2 6 165) {c0 : Nat} (k0 : kd c0 (10 + 9, 0)) (a1 : Int32) (h : Hp) {o : Int32 × Hp} (hyp : s_X9_back c0 a1 h = some o) (F : Rt K (some .int) (some (.int o.1)) o.2) : Go K 0 [(0, .ref (ad K c0)), (1, .int a1)] [] h := by
  unfold s_X9_back at hyp
  refine g_iload_n (pc := 0) 1 S dX9_back_0 rfl ?_
  refine g_if_lt (pc := 1) (tgt := 9) S dX9_back_1 (by decide) hyp (fun hyp => ?_) (fun hyp => ?_)
  · refine g_iconst (pc := 9) (v := (-1 : Int32)) S dX9_back_9 (by decide) ?_
    have hyp := Option.some.inj hyp
    subst hyp
    exact g_iret (pc := 10) S F dX9_back_10
  · refine g_iload_n (pc := 4) 1 S dX9_back_4 rfl ?_
    refine g_iconst (pc := 5) (v := (2 : Int32)) S dX9_back_5 (by decide) ?_
    refine g_icmp_lt (pc := 6) (tgt := 11) S dX9_back_6 (by decide) hyp (fun hyp => ?_) (fun hyp => ?_)
    · refine g_aload_n (pc := 11) 0 S dX9_back_11 rfl ?_
      refine g_getR (pc := 12) S dX9_back_12 fl_X9_23 k0 ?_
      refine g_iload_n (pc := 15) 1 S dX9_back_15 rfl ?_
      refine g_zald (pc := 16) S dX9_back_16 (kf_9_26 k0) hyp (fun x1 hyp => ?_)
      refine g_if_ne (pc := 17) (tgt := 23) S dX9_back_17 (by decide) hyp (fun hyp => ?_) (fun hyp => ?_)
      · refine g_bipush (pc := 20) (v := (-2 : Int32)) S dX9_back_20 (by decide) ?_
        have hyp := Option.some.inj hyp
        subst hyp
        exact g_iret (pc := 22) S F dX9_back_22
      · refine g_aload_n (pc := 23) 0 S dX9_back_23 rfl ?_
        refine g_getR (pc := 24) S dX9_back_24 fl_X9_12 k0 ?_
        refine g_aload_n (pc := 27) 0 S dX9_back_27 rfl ?_
        refine g_getR (pc := 28) S dX9_back_28 fl_X9_19 k0 ?_
        refine g_iload_n (pc := 31) 1 S dX9_back_31 rfl ?_
        refine g_aald (pc := 32) S dX9_back_32 (kf_9_13 k0) hyp (fun r2 hyp er2 => ?_)
        refine g_bind hyp (fun y3 hy3 hyp => ?_)
        refine g_callV (pc := 33) (As := [.ref (ad K r2)]) (rest := []) S dX9_back_33 (kf_9_1 k0) rfl tw_499 tw_500 tw_501 mw_X5_copy (m_X5_copy (kf_9_1 k0) (kf_im (kf_9_13 k0) er2)  h hy3) rfl rfl (Nat.le_of_ble_eq_true rfl) (Nat.le_of_ble_eq_true rfl) (Nat.le_of_ble_eq_true rfl) ?_
        refine g_aload_n (pc := 36) 0 S dX9_back_36 rfl ?_
        refine g_bind hyp (fun y4 hy4 hyp => ?_)
        refine g_callV (pc := 37) (As := []) (rest := []) S dX9_back_37 k0 rfl tw_506 tw_507 tw_9 mw_X9_loadRows (m_X9_loadRows k0  y3 hy4) rfl rfl (Nat.le_of_ble_eq_true rfl) (Nat.le_of_ble_eq_true rfl) (Nat.le_of_ble_eq_true rfl) ?_
        refine g_aload_n (pc := 40) 0 S dX9_back_40 rfl ?_
        refine g_getR (pc := 41) S dX9_back_41 fl_X9_12 k0 ?_
        refine g_getI (pc := 44) S dX9_back_44 fl_X9_140 (kf_9_1 k0) ?_
        have hyp := Option.some.inj hyp
        subst hyp
        exact g_iret (pc := 47) S F dX9_back_47
    · refine g_iconst (pc := 9) (v := (-1 : Int32)) S dX9_back_9 (by decide) ?_
      have hyp := Option.some.inj hyp
      subst hyp
      exact g_iret (pc := 10) S F dX9_back_10
theorem m_X9_back {l : Launch} {D : va_G} {cT : Nat → ClassId} {aD : Nat → Nat} {c0 : Nat} (k0 : kd c0 (10 + 9, 0)) (a1 : Int32) (h : Hp) {o : Int32 × Hp} (hyp : s_X9_back c0 a1 h = some o) : Ok l D cT aD yX9_back cX9_back 2 (some .int) 6 165 [.ref (aD c0), .int a1] h (some (.int o.1)) o.2 :=
  Ok.of (by decide +kernel) rfl (Nat.le_of_ble_eq_true rfl) (fun K e1 e2 e3 e4 S F => by subst e1; exact o_X9_back S k0 a1 h hyp F)
