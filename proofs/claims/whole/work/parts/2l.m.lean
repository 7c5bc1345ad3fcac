-- BoundProofsModel comesBound (III)V
noncomputable def s_X10_comesBound (c0 : Nat) (a1 : Int32) (a2 : Int32) (a3 : Int32) (h : Hp) : Option (Hp) :=
  stI h (c0 + 2) 30 ((3 : Int32) * (h.1 c0 3)) a1 fun h1 =>
  stI h1 (c0 + 2) 30 (((3 : Int32) * (h1.1 c0 3)) + (1 : Int32)) a2 fun h2 =>
  stI h2 (c0 + 2) 30 (((3 : Int32) * (h2.1 c0 3)) + (2 : Int32)) a3 fun h3 =>
  lt (sI h3 c0 3 ((h3.1 c0 3) + (1 : Int32))) fun h4 =>
  some h4
set_option maxRecDepth 100000 in
set_option maxHeartbeats 4000000 in
theorem o_X10_comesBound {K : gK} (S : Cx K RX10 cX10_comesBound 4 0 0) {c0 : Nat} (k0 : kd c0 (10 + 10, 0)) (a1 : Int32) (a2 : Int32) (a3 : Int32) (h : Hp) {o : Hp} (hyp : s_X10_comesBound c0 a1 a2 a3 h = some o) (F : Rt K none none o) : Go K 0 [(0, .ref (ad K c0)), (1, .int a1), (2, .int a2), (3, .int a3)] [] h := by
  unfold s_X10_comesBound at hyp
  refine g_aload_n (pc := 0) 0 S dX10_comesBound_0 rfl ?_
  refine g_getR (pc := 1) S dX10_comesBound_1 fl_X10_17 k0 ?_
  refine g_iconst (pc := 4) (v := (3 : Int32)) S dX10_comesBound_4 (by decide) ?_
  refine g_aload_n (pc := 5) 0 S dX10_comesBound_5 rfl ?_
  refine g_getI (pc := 6) S dX10_comesBound_6 fl_X10_97 k0 ?_
  refine g_imul (pc := 9) S dX10_comesBound_9 ?_
  refine g_iload_n (pc := 10) 1 S dX10_comesBound_10 rfl ?_
  refine g_iast (pc := 11) S dX10_comesBound_11 (kf_10_2 k0) hyp (fun h1 hyp => ?_)
  refine g_aload_n (pc := 12) 0 S dX10_comesBound_12 rfl ?_
  refine g_getR (pc := 13) S dX10_comesBound_13 fl_X10_17 k0 ?_
  refine g_iconst (pc := 16) (v := (3 : Int32)) S dX10_comesBound_16 (by decide) ?_
  refine g_aload_n (pc := 17) 0 S dX10_comesBound_17 rfl ?_
  refine g_getI (pc := 18) S dX10_comesBound_18 fl_X10_97 k0 ?_
  refine g_imul (pc := 21) S dX10_comesBound_21 ?_
  refine g_iconst (pc := 22) (v := (1 : Int32)) S dX10_comesBound_22 (by decide) ?_
  refine g_iadd (pc := 23) S dX10_comesBound_23 ?_
  refine g_iload_n (pc := 24) 2 S dX10_comesBound_24 rfl ?_
  refine g_iast (pc := 25) S dX10_comesBound_25 (kf_10_2 k0) hyp (fun h2 hyp => ?_)
  refine g_aload_n (pc := 26) 0 S dX10_comesBound_26 rfl ?_
  refine g_getR (pc := 27) S dX10_comesBound_27 fl_X10_17 k0 ?_
  refine g_iconst (pc := 30) (v := (3 : Int32)) S dX10_comesBound_30 (by decide) ?_
  refine g_aload_n (pc := 31) 0 S dX10_comesBound_31 rfl ?_
  refine g_getI (pc := 32) S dX10_comesBound_32 fl_X10_97 k0 ?_
  refine g_imul (pc := 35) S dX10_comesBound_35 ?_
  refine g_iconst (pc := 36) (v := (2 : Int32)) S dX10_comesBound_36 (by decide) ?_
  refine g_iadd (pc := 37) S dX10_comesBound_37 ?_
  refine g_iload_n (pc := 38) 3 S dX10_comesBound_38 rfl ?_
  refine g_iast (pc := 39) S dX10_comesBound_39 (kf_10_2 k0) hyp (fun h3 hyp => ?_)
  refine g_aload_n (pc := 40) 0 S dX10_comesBound_40 rfl ?_
  refine g_dup (pc := 41) S dX10_comesBound_41 rfl ?_
  refine g_getI (pc := 42) S dX10_comesBound_42 fl_X10_97 k0 ?_
  refine g_iconst (pc := 45) (v := (1 : Int32)) S dX10_comesBound_45 (by decide) ?_
  refine g_iadd (pc := 46) S dX10_comesBound_46 ?_
  refine g_putI (pc := 47) S dX10_comesBound_47 fl_X10_97 k0 hyp (fun h4 hyp => ?_)
  have hyp := Option.some.inj hyp
  subst hyp
  exact g_vret (pc := 50) S F dX10_comesBound_50
theorem m_X10_comesBound {l : Launch} {D : va_G} {cT : Nat → ClassId} {aD : Nat → Nat} {c0 : Nat} (k0 : kd c0 (10 + 10, 0)) (a1 : Int32) (a2 : Int32) (a3 : Int32) (h : Hp) {o : Hp} (hyp : s_X10_comesBound c0 a1 a2 a3 h = some o) : Ok l D cT aD yX10_comesBound cX10_comesBound 4 none 0 0 [.ref (aD c0), .int a1, .int a2, .int a3] h none o :=
  Ok.of (by decide +kernel) rfl (Nat.le_of_ble_eq_true rfl) (fun K e1 e2 e3 e4 S F => by subst e1; exact o_X10_comesBound S k0 a1 a2 a3 h hyp F)
-- BoundProofsModel asserts (III)I
noncomputable def s_X10_asserts (c0 : Nat) (a1 : Int32) (a2 : Int32) (a3 : Int32) (h : Hp) : Option (Int32 × Hp) :=
  (s_X10_isTold c0 a1 a2 a3 h).bind fun y1 =>
  if y1 = 0 then (some ((-1 : Int32), h))
  else (if (h.1 c0 3) = (10 : Int32) then (some ((-3 : Int32), h))
  else ((s_X10_comesBound c0 a1 a2 a3 h).bind fun y2 =>
  some (((y2.1 c0 3) - (1 : Int32)), y2)))
set_option maxRecDepth 100000 in
set_option maxHeartbeats 4000000 in
theorem o_X10_asserts {K : gK} (S : Cx K RX10 cX10_asserts 4 3 78) {c0 : Nat} (k0 : kd c0 (10 + 10, 0)) (a1 : Int32) (a2 : Int32) (a3 : Int32) (h : Hp) {o : Int32 × Hp} (hyp : s_X10_asserts c0 a1 a2 a3 h = some o) (F : Rt K (some .int) (some (.int o.1)) o.2) : Go K 0 [(0, .ref (ad K c0)), (1, .int a1), (2, .int a2), (3, .int a3)] [] h := by
  unfold s_X10_asserts at hyp
  refine g_aload_n (pc := 0) 0 S dX10_asserts_0 rfl ?_
  refine g_iload_n (pc := 1) 1 S dX10_asserts_1 rfl ?_
  refine g_iload_n (pc := 2) 2 S dX10_asserts_2 rfl ?_
  refine g_iload_n (pc := 3) 3 S dX10_asserts_3 rfl ?_
  refine g_bind hyp (fun y1 hy1 hyp => ?_)
  refine g_callV (pc := 4) (As := [.int a1, .int a2, .int a3]) (rest := []) S dX10_asserts_4 k0 rfl tw_1024 tw_1025 tw_36 mw_X10_isTold (m_X10_isTold k0 a1 a2 a3 h hy1) rfl rfl (Nat.le_of_ble_eq_true rfl) (Nat.le_of_ble_eq_true rfl) (Nat.le_of_ble_eq_true rfl) ?_
  refine g_if_ne (pc := 7) (tgt := 12) S dX10_asserts_7 (by decide) hyp (fun hyp => ?_) (fun hyp => ?_)
  · refine g_iconst (pc := 10) (v := (-1 : Int32)) S dX10_asserts_10 (by decide) ?_
    have hyp := Option.some.inj hyp
    subst hyp
    exact g_iret (pc := 11) S F dX10_asserts_11
  · refine g_aload_n (pc := 12) 0 S dX10_asserts_12 rfl ?_
    refine g_getI (pc := 13) S dX10_asserts_13 fl_X10_97 k0 ?_
    refine g_bipush (pc := 16) (v := (10 : Int32)) S dX10_asserts_16 (by decide) ?_
    refine g_icmp_ne (pc := 18) (tgt := 24) S dX10_asserts_18 (by decide) hyp (fun hyp => ?_) (fun hyp => ?_)
    · refine g_bipush (pc := 21) (v := (-3 : Int32)) S dX10_asserts_21 (by decide) ?_
      have hyp := Option.some.inj hyp
      subst hyp
      exact g_iret (pc := 23) S F dX10_asserts_23
    · refine g_aload_n (pc := 24) 0 S dX10_asserts_24 rfl ?_
      refine g_iload_n (pc := 25) 1 S dX10_asserts_25 rfl ?_
      refine g_iload_n (pc := 26) 2 S dX10_asserts_26 rfl ?_
      refine g_iload_n (pc := 27) 3 S dX10_asserts_27 rfl ?_
      refine g_bind hyp (fun y2 hy2 hyp => ?_)
      refine g_callV (pc := 28) (As := [.int a1, .int a2, .int a3]) (rest := []) S dX10_asserts_28 k0 rfl tw_1027 tw_1028 tw_37 mw_X10_comesBound (m_X10_comesBound k0 a1 a2 a3 h hy2) rfl rfl (Nat.le_of_ble_eq_true rfl) (Nat.le_of_ble_eq_true rfl) (Nat.le_of_ble_eq_true rfl) ?_
      refine g_aload_n (pc := 31) 0 S dX10_asserts_31 rfl ?_
      refine g_getI (pc := 32) S dX10_asserts_32 fl_X10_97 k0 ?_
      refine g_iconst (pc := 35) (v := (1 : Int32)) S dX10_asserts_35 (by decide) ?_
      refine g_isub (pc := 36) S dX10_asserts_36 ?_
      have hyp := Option.some.inj hyp
      subst hyp
      exact g_iret (pc := 37) S F dX10_asserts_37
theorem m_X10_asserts {l : Launch} {D : va_G} {cT : Nat → ClassId} {aD : Nat → Nat} {c0 : Nat} (k0 : kd c0 (10 + 10, 0)) (a1 : Int32) (a2 : Int32) (a3 : Int32) (h : Hp) {o : Int32 × Hp} (hyp : s_X10_asserts c0 a1 a2 a3 h = some o) : Ok l D cT aD yX10_asserts cX10_asserts 4 (some .int) 3 78 [.ref (aD c0), .int a1, .int a2, .int a3] h (some (.int o.1)) o.2 :=
  Ok.of (by decide +kernel) rfl (Nat.le_of_ble_eq_true rfl) (fun K e1 e2 e3 e4 S F => by subst e1; exact o_X10_asserts S k0 a1 a2 a3 h hyp F)
-- BoundProofsModel bound (II)I
noncomputable def s_X10_bound_b40 (c0 : Nat) (t0 : Int32) (t1 : Int32) (h : Hp) : Option (Int32) :=
  some (t1 + t0)
noncomputable def s_X10_bound (c0 : Nat) (a1 : Int32) (a2 : Int32) (h : Hp) : Option (Int32) :=
  (s_X10_isBound c0 a1 h).bind fun y1 =>
  if y1 = 0 then (some (-1 : Int32))
  else ((s_X10_in  a2 (0 : Int32) (2 : Int32) h).bind fun y2 =>
  if y2 = 0 then (some (-1 : Int32))
  else (ldI h (c0 + 2) 30 (((3 : Int32) * a1) + a2) fun x3 =>
  if a2 = (2 : Int32) then (s_X10_bound_b40 c0 (100 : Int32) x3 h)
  else (s_X10_bound_b40 c0 (0 : Int32) x3 h)))
set_option maxRecDepth 100000 in
set_option maxHeartbeats 4000000 in
theorem o_X10_bound_b40 {K : gK} (S : Cx K RX10 cX10_bound 3 2 51) {c0 : Nat} (k0 : kd c0 (10 + 10, 0)) (t0 : Int32) (t1 : Int32) (h : Hp) {o : Int32} (hyp : s_X10_bound_b40 c0 t0 t1 h = some o) (F : Rt K (some .int) (some (.int o)) h) : Go K 40 [] [.int t0, .int t1] h := by
  unfold s_X10_bound_b40 at hyp
  refine g_iadd (pc := 40) S dX10_bound_40 ?_
  have hyp := Option.some.inj hyp
  subst hyp
  exact g_iret (pc := 41) S F dX10_bound_41
set_option maxRecDepth 100000 in
set_option maxHeartbeats 4000000 in
theorem o_X10_bound {K : gK} (S : Cx K RX10 cX10_bound 3 2 51) {c0 : Nat} (k0 : kd c0 (10 + 10, 0)) (a1 : Int32) (a2 : Int32) (h : Hp) {o : Int32} (hyp : s_X10_bound c0 a1 a2 h = some o) (F : Rt K (some .int) (some (.int o)) h) : Go K 0 [(0, .ref (ad K c0)), (1, .int a1), (2, .int a2)] [] h := by
  unfold s_X10_bound at hyp
  refine g_aload_n (pc := 0) 0 S dX10_bound_0 rfl ?_
  refine g_iload_n (pc := 1) 1 S dX10_bound_1 rfl ?_
  refine g_bind hyp (fun y1 hy1 hyp => ?_)
  refine g_callV (pc := 2) (As := [.int a1]) (rest := []) S dX10_bound_2 k0 rfl tw_1034 tw_1035 tw_38 mw_X10_isBound (m_X10_isBound k0 a1 h hy1) rfl rfl (Nat.le_of_ble_eq_true rfl) (Nat.le_of_ble_eq_true rfl) (Nat.le_of_ble_eq_true rfl) ?_
  refine g_if_eq (pc := 5) (tgt := 17) S dX10_bound_5 (by decide) hyp (fun hyp => ?_) (fun hyp => ?_)
  · refine g_iconst (pc := 17) (v := (-1 : Int32)) S dX10_bound_17 (by decide) ?_
    have hyp := Option.some.inj hyp
    subst hyp
    exact g_iret (pc := 18) S F dX10_bound_18
  · refine g_iload_n (pc := 8) 2 S dX10_bound_8 rfl ?_
    refine g_iconst (pc := 9) (v := (0 : Int32)) S dX10_bound_9 (by decide) ?_
    refine g_iconst (pc := 10) (v := (2 : Int32)) S dX10_bound_10 (by decide) ?_
    refine g_bind hyp (fun y2 hy2 hyp => ?_)
    refine g_callS (pc := 11) (As := [.int a2, .int (0 : Int32), .int (2 : Int32)]) (rest := []) S dX10_bound_11 tw_990 tw_991 mw_X10_in (m_X10_in  a2 (0 : Int32) (2 : Int32) h hy2) rfl rfl (Nat.le_of_ble_eq_true rfl) (Nat.le_of_ble_eq_true rfl) (Nat.le_of_ble_eq_true rfl) ?_
    refine g_if_ne (pc := 14) (tgt := 19) S dX10_bound_14 (by decide) hyp (fun hyp => ?_) (fun hyp => ?_)
    · refine g_iconst (pc := 17) (v := (-1 : Int32)) S dX10_bound_17 (by decide) ?_
      have hyp := Option.some.inj hyp
      subst hyp
      exact g_iret (pc := 18) S F dX10_bound_18
    · refine g_aload_n (pc := 19) 0 S dX10_bound_19 rfl ?_
      refine g_getR (pc := 20) S dX10_bound_20 fl_X10_17 k0 ?_
      refine g_iconst (pc := 23) (v := (3 : Int32)) S dX10_bound_23 (by decide) ?_
      refine g_iload_n (pc := 24) 1 S dX10_bound_24 rfl ?_
      refine g_imul (pc := 25) S dX10_bound_25 ?_
      refine g_iload_n (pc := 26) 2 S dX10_bound_26 rfl ?_
      refine g_iadd (pc := 27) S dX10_bound_27 ?_
      refine g_iald (pc := 28) S dX10_bound_28 (kf_10_2 k0) hyp (fun x3 hyp => ?_)
      refine g_iload_n (pc := 29) 2 S dX10_bound_29 rfl ?_
      refine g_iconst (pc := 30) (v := (2 : Int32)) S dX10_bound_30 (by decide) ?_
      refine g_icmp_ne (pc := 31) (tgt := 39) S dX10_bound_31 (by decide) hyp (fun hyp => ?_) (fun hyp => ?_)
      · refine g_bipush (pc := 34) (v := (100 : Int32)) S dX10_bound_34 (by decide) ?_
        refine g_goto (pc := 36) (tgt := 40) S dX10_bound_36 (by decide) ?_
        exact g_sub [] rfl (o_X10_bound_b40 S k0 (100 : Int32) x3 h hyp F)
      · refine g_iconst (pc := 39) (v := (0 : Int32)) S dX10_bound_39 (by decide) ?_
        exact g_sub [] rfl (o_X10_bound_b40 S k0 (0 : Int32) x3 h hyp F)
theorem m_X10_bound {l : Launch} {D : va_G} {cT : Nat → ClassId} {aD : Nat → Nat} {c0 : Nat} (k0 : kd c0 (10 + 10, 0)) (a1 : Int32) (a2 : Int32) (h : Hp) {o : Int32} (hyp : s_X10_bound c0 a1 a2 h = some o) : Ok l D cT aD yX10_bound cX10_bound 3 (some .int) 2 51 [.ref (aD c0), .int a1, .int a2] h (some (.int o)) h :=
  Ok.of (by decide +kernel) rfl (Nat.le_of_ble_eq_true rfl) (fun K e1 e2 e3 e4 S F => by subst e1; exact o_X10_bound S k0 a1 a2 h hyp F)
-- BoundProofsModel level ()I
noncomputable def s_X10_level (c0 : Nat)  (h : Hp) : Option (Int32 × Hp) :=
  if (h.1 c0 5) = (4 : Int32) then (some ((-3 : Int32), h))
  else (stI h (c0 + 3) 4 (h.1 c0 5) (h.1 c0 3) fun h1 =>
  lt (sI h1 c0 5 ((h1.1 c0 5) + (1 : Int32))) fun h2 =>
  some ((h2.1 c0 5), h2))
set_option maxRecDepth 100000 in
set_option maxHeartbeats 4000000 in
theorem o_X10_level {K : gK} (S : Cx K RX10 cX10_level 1 0 0) {c0 : Nat} (k0 : kd c0 (10 + 10, 0))  (h : Hp) {o : Int32 × Hp} (hyp : s_X10_level c0  h = some o) (F : Rt K (some .int) (some (.int o.1)) o.2) : Go K 0 [(0, .ref (ad K c0))] [] h := by
  unfold s_X10_level at hyp
  refine g_aload_n (pc := 0) 0 S dX10_level_0 rfl ?_
  refine g_getI (pc := 1) S dX10_level_1 fl_X10_100 k0 ?_
  refine g_iconst (pc := 4) (v := (4 : Int32)) S dX10_level_4 (by decide) ?_
  refine g_icmp_ne (pc := 5) (tgt := 11) S dX10_level_5 (by decide) hyp (fun hyp => ?_) (fun hyp => ?_)
  · refine g_bipush (pc := 8) (v := (-3 : Int32)) S dX10_level_8 (by decide) ?_
    have hyp := Option.some.inj hyp
    subst hyp
    exact g_iret (pc := 10) S F dX10_level_10
  · refine g_aload_n (pc := 11) 0 S dX10_level_11 rfl ?_
    refine g_getR (pc := 12) S dX10_level_12 fl_X10_20 k0 ?_
    refine g_aload_n (pc := 15) 0 S dX10_level_15 rfl ?_
    refine g_getI (pc := 16) S dX10_level_16 fl_X10_100 k0 ?_
    refine g_aload_n (pc := 19) 0 S dX10_level_19 rfl ?_
    refine g_getI (pc := 20) S dX10_level_20 fl_X10_97 k0 ?_
    refine g_iast (pc := 23) S dX10_level_23 (kf_10_3 k0) hyp (fun h1 hyp => ?_)
    refine g_aload_n (pc := 24) 0 S dX10_level_24 rfl ?_
    refine g_dup (pc := 25) S dX10_level_25 rfl ?_
    refine g_getI (pc := 26) S dX10_level_26 fl_X10_100 k0 ?_
    refine g_iconst (pc := 29) (v := (1 : Int32)) S dX10_level_29 (by decide) ?_
    refine g_iadd (pc := 30) S dX10_level_30 ?_
    refine g_putI (pc := 31) S dX10_level_31 fl_X10_100 k0 hyp (fun h2 hyp => ?_)
    refine g_aload_n (pc := 34) 0 S dX10_level_34 rfl ?_
    refine g_getI (pc := 35) S dX10_level_35 fl_X10_100 k0 ?_
    have hyp := Option.some.inj hyp
    subst hyp
    exact g_iret (pc := 38) S F dX10_level_38
theorem m_X10_level {l : Launch} {D : va_G} {cT : Nat → ClassId} {aD : Nat → Nat} {c0 : Nat} (k0 : kd c0 (10 + 10, 0))  (h : Hp) {o : Int32 × Hp} (hyp : s_X10_level c0  h = some o) : Ok l D cT aD yX10_level cX10_level 1 (some .int) 0 0 [.ref (aD c0)] h (some (.int o.1)) o.2 :=
  Ok.of (by decide +kernel) rfl (Nat.le_of_ble_eq_true rfl) (fun K e1 e2 e3 e4 S F => by subst e1; exact o_X10_level S k0  h hyp F)
-- BoundProofsModel withdraws (I)I
noncomputable def s_X10_withdraws (c0 : Nat) (a1 : Int32) (h : Hp) : Option (Int32 × Hp) :=
  (s_X10_in  a1 (1 : Int32) (h.1 c0 5) h).bind fun y1 =>
  if y1 = 0 then (some ((-1 : Int32), h))
  else (lt (sI h c0 5 ((h.1 c0 5) - a1)) fun h2 =>
  ldI h2 (c0 + 3) 4 (h2.1 c0 5) fun x3 =>
  lt (sI h2 c0 3 x3) fun h4 =>
  some ((h4.1 c0 3), h4))
set_option maxRecDepth 100000 in
set_option maxHeartbeats 4000000 in
theorem o_X10_withdraws {K : gK} (S : Cx K RX10 cX10_withdraws 2 1 26) {c0 : Nat} (k0 : kd c0 (10 + 10, 0)) (a1 : Int32) (h : Hp) {o : Int32 × Hp} (hyp : s_X10_withdraws c0 a1 h = some o) (F : Rt K (some .int) (some (.int o.1)) o.2) : Go K 0 [(0, .ref (ad K c0)), (1, .int a1)] [] h := by
  unfold s_X10_withdraws at hyp
  refine g_iload_n (pc := 0) 1 S dX10_withdraws_0 rfl ?_
  refine g_iconst (pc := 1) (v := (1 : Int32)) S dX10_withdraws_1 (by decide) ?_
  refine g_aload_n (pc := 2) 0 S dX10_withdraws_2 rfl ?_
  refine g_getI (pc := 3) S dX10_withdraws_3 fl_X10_100 k0 ?_
  refine g_bind hyp (fun y1 hy1 hyp => ?_)
  refine g_callS (pc := 6) (As := [.int a1, .int (1 : Int32), .int (h.1 c0 5)]) (rest := []) S dX10_withdraws_6 tw_990 tw_991 mw_X10_in (m_X10_in  a1 (1 : Int32) (h.1 c0 5) h hy1) rfl rfl (Nat.le_of_ble_eq_true rfl) (Nat.le_of_ble_eq_true rfl) (Nat.le_of_ble_eq_true rfl) ?_
  refine g_if_ne (pc := 9) (tgt := 14) S dX10_withdraws_9 (by decide) hyp (fun hyp => ?_) (fun hyp => ?_)
  · refine g_iconst (pc := 12) (v := (-1 : Int32)) S dX10_withdraws_12 (by decide) ?_
    have hyp := Option.some.inj hyp
    subst hyp
    exact g_iret (pc := 13) S F dX10_withdraws_13
  · refine g_aload_n (pc := 14) 0 S dX10_withdraws_14 rfl ?_
    refine g_dup (pc := 15) S dX10_withdraws_15 rfl ?_
    refine g_getI (pc := 16) S dX10_withdraws_16 fl_X10_100 k0 ?_
    refine g_iload_n (pc := 19) 1 S dX10_withdraws_19 rfl ?_
    refine g_isub (pc := 20) S dX10_withdraws_20 ?_
    refine g_putI (pc := 21) S dX10_withdraws_21 fl_X10_100 k0 hyp (fun h2 hyp => ?_)
    refine g_aload_n (pc := 24) 0 S dX10_withdraws_24 rfl ?_
    refine g_aload_n (pc := 25) 0 S dX10_withdraws_25 rfl ?_
    refine g_getR (pc := 26) S dX10_withdraws_26 fl_X10_20 k0 ?_
    refine g_aload_n (pc := 29) 0 S dX10_withdraws_29 rfl ?_
    refine g_getI (pc := 30) S dX10_withdraws_30 fl_X10_100 k0 ?_
    refine g_iald (pc := 33) S dX10_withdraws_33 (kf_10_3 k0) hyp (fun x3 hyp => ?_)
    refine g_putI (pc := 34) S dX10_withdraws_34 fl_X10_97 k0 hyp (fun h4 hyp => ?_)
    refine g_aload_n (pc := 37) 0 S dX10_withdraws_37 rfl ?_
    refine g_getI (pc := 38) S dX10_withdraws_38 fl_X10_97 k0 ?_
    have hyp := Option.some.inj hyp
    subst hyp
    exact g_iret (pc := 41) S F dX10_withdraws_41
theorem m_X10_withdraws {l : Launch} {D : va_G} {cT : Nat → ClassId} {aD : Nat → Nat} {c0 : Nat} (k0 : kd c0 (10 + 10, 0)) (a1 : Int32) (h : Hp) {o : Int32 × Hp} (hyp : s_X10_withdraws c0 a1 h = some o) : Ok l D cT aD yX10_withdraws cX10_withdraws 2 (some .int) 1 26 [.ref (aD c0), .int a1] h (some (.int o.1)) o.2 :=
  Ok.of (by decide +kernel) rfl (Nat.le_of_ble_eq_true rfl) (fun K e1 e2 e3 e4 S F => by subst e1; exact o_X10_withdraws S k0 a1 h hyp F)
-- BoundProofsModel comesRow (JJJJI)V
noncomputable def s_X10_comesRow (c0 : Nat) (a1 : Int64) (a3 : Int64) (a5 : Int64) (a7 : Int64) (a9 : Int32) (h : Hp) : Option (Hp) :=
  stJ h (c0 + 6) 20 (h.1 c0 9) a1 fun h1 =>
  stJ h1 (c0 + 7) 20 (h1.1 c0 9) a3 fun h2 =>
  stJ h2 (c0 + 8) 20 (h2.1 c0 9) a5 fun h3 =>
  stJ h3 (c0 + 9) 20 (h3.1 c0 9) a7 fun h4 =>
  stI h4 (c0 + 10) 20 (h4.1 c0 9) a9 fun h5 =>
  lt (sI h5 c0 9 ((h5.1 c0 9) + (1 : Int32))) fun h6 =>
  some h6
set_option maxRecDepth 100000 in
set_option maxHeartbeats 4000000 in
theorem o_X10_comesRow {K : gK} (S : Cx K RX10 cX10_comesRow 10 0 0) {c0 : Nat} (k0 : kd c0 (10 + 10, 0)) (a1 : Int64) (a3 : Int64) (a5 : Int64) (a7 : Int64) (a9 : Int32) (h : Hp) {o : Hp} (hyp : s_X10_comesRow c0 a1 a3 a5 a7 a9 h = some o) (F : Rt K none none o) : Go K 0 [(0, .ref (ad K c0)), (1, .long a1), (3, .long a3), (5, .long a5), (7, .long a7), (9, .int a9)] [] h := by
  unfold s_X10_comesRow at hyp
  refine g_aload_n (pc := 0) 0 S dX10_comesRow_0 rfl ?_
  refine g_getR (pc := 1) S dX10_comesRow_1 fl_X10_29 k0 ?_
  refine g_aload_n (pc := 4) 0 S dX10_comesRow_4 rfl ?_
  refine g_getI (pc := 5) S dX10_comesRow_5 fl_X10_135 k0 ?_
  refine g_lload_n (pc := 8) 1 S dX10_comesRow_8 rfl ?_
  refine g_last (pc := 9) S dX10_comesRow_9 (kf_10_6 k0) hyp (fun h1 hyp => ?_)
  refine g_aload_n (pc := 10) 0 S dX10_comesRow_10 rfl ?_
  refine g_getR (pc := 11) S dX10_comesRow_11 fl_X10_33 k0 ?_
  refine g_aload_n (pc := 14) 0 S dX10_comesRow_14 rfl ?_
  refine g_getI (pc := 15) S dX10_comesRow_15 fl_X10_135 k0 ?_
  refine g_lload_n (pc := 18) 2 S dX10_comesRow_18 rfl ?_
  refine g_last (pc := 19) S dX10_comesRow_19 (kf_10_7 k0) hyp (fun h2 hyp => ?_)
  refine g_aload_n (pc := 20) 0 S dX10_comesRow_20 rfl ?_
  refine g_getR (pc := 21) S dX10_comesRow_21 fl_X10_36 k0 ?_
  refine g_aload_n (pc := 24) 0 S dX10_comesRow_24 rfl ?_
  refine g_getI (pc := 25) S dX10_comesRow_25 fl_X10_135 k0 ?_
  refine g_lload (pc := 28) 3 S dX10_comesRow_28 rfl ?_
  refine g_last (pc := 30) S dX10_comesRow_30 (kf_10_8 k0) hyp (fun h3 hyp => ?_)
  refine g_aload_n (pc := 31) 0 S dX10_comesRow_31 rfl ?_
  refine g_getR (pc := 32) S dX10_comesRow_32 fl_X10_39 k0 ?_
  refine g_aload_n (pc := 35) 0 S dX10_comesRow_35 rfl ?_
  refine g_getI (pc := 36) S dX10_comesRow_36 fl_X10_135 k0 ?_
  refine g_lload (pc := 39) 4 S dX10_comesRow_39 rfl ?_
  refine g_last (pc := 41) S dX10_comesRow_41 (kf_10_9 k0) hyp (fun h4 hyp => ?_)
  refine g_aload_n (pc := 42) 0 S dX10_comesRow_42 rfl ?_
  refine g_getR (pc := 43) S dX10_comesRow_43 fl_X10_42 k0 ?_
  refine g_aload_n (pc := 46) 0 S dX10_comesRow_46 rfl ?_
  refine g_getI (pc := 47) S dX10_comesRow_47 fl_X10_135 k0 ?_
  refine g_iload (pc := 50) 5 S dX10_comesRow_50 rfl ?_
  refine g_iast (pc := 52) S dX10_comesRow_52 (kf_10_10 k0) hyp (fun h5 hyp => ?_)
  refine g_aload_n (pc := 53) 0 S dX10_comesRow_53 rfl ?_
  refine g_dup (pc := 54) S dX10_comesRow_54 rfl ?_
  refine g_getI (pc := 55) S dX10_comesRow_55 fl_X10_135 k0 ?_
  refine g_iconst (pc := 58) (v := (1 : Int32)) S dX10_comesRow_58 (by decide) ?_
  refine g_iadd (pc := 59) S dX10_comesRow_59 ?_
  refine g_putI (pc := 60) S dX10_comesRow_60 fl_X10_135 k0 hyp (fun h6 hyp => ?_)
  have hyp := Option.some.inj hyp
  subst hyp
  exact g_vret (pc := 63) S F dX10_comesRow_63
theorem m_X10_comesRow {l : Launch} {D : va_G} {cT : Nat → ClassId} {aD : Nat → Nat} {c0 : Nat} (k0 : kd c0 (10 + 10, 0)) (a1 : Int64) (a3 : Int64) (a5 : Int64) (a7 : Int64) (a9 : Int32) (h : Hp) {o : Hp} (hyp : s_X10_comesRow c0 a1 a3 a5 a7 a9 h = some o) : Ok l D cT aD yX10_comesRow cX10_comesRow 10 none 0 0 [.ref (aD c0), .long a1, .long a3, .long a5, .long a7, .int a9] h none o :=
  Ok.of (by decide +kernel) rfl (Nat.le_of_ble_eq_true rfl) (fun K e1 e2 e3 e4 S F => by subst e1; exact o_X10_comesRow S k0 a1 a3 a5 a7 a9 h hyp F)
-- BoundProofsModel comesBySort (IJJJJ)V
noncomputable def s_X10_comesBySort_b72 (c0 : Nat) (t0 : Int32) (t1 : Int64) (t2 : Int64) (t3 : Int64) (t4 : Int64) (h : Hp) : Option (Hp) :=
  (s_X10_comesRow c0 t4 t3 t2 t1 t0 h).bind fun y2 =>
  some y2
noncomputable def s_X10_comesBySort_b50 (c0 : Nat) (a1 : Int32) (a2 : Int64) (a4 : Int64) (a6 : Int64) (a8 : Int64) (h : Hp) : Option (Hp) :=
  if a1 = (3 : Int32) then (s_X10_comesBySort_b72 c0 (1 : Int32) (-a8) (-a6) (-a4) (-a2) h)
  else (s_X10_comesBySort_b72 c0 (0 : Int32) (-a8) (-a6) (-a4) (-a2) h)
noncomputable def s_X10_comesBySort_b35 (c0 : Nat) (a1 : Int32) (a2 : Int64) (a4 : Int64) (a6 : Int64) (a8 : Int64) (h : Hp) : Option (Hp) :=
  if a1 = (2 : Int32) then (s_X10_comesBySort_b50 c0 a1 a2 a4 a6 a8 h)
  else (if a1 = (3 : Int32) then (s_X10_comesBySort_b50 c0 a1 a2 a4 a6 a8 h)
  else (if a1 = (4 : Int32) then (s_X10_comesBySort_b50 c0 a1 a2 a4 a6 a8 h)
  else (some h)))
noncomputable def s_X10_comesBySort_b32 (c0 : Nat) (a1 : Int32) (a2 : Int64) (a4 : Int64) (a6 : Int64) (a8 : Int64) (t0 : Int32) (t1 : Int64) (t2 : Int64) (t3 : Int64) (t4 : Int64) (h : Hp) : Option (Hp) :=
  (s_X10_comesRow c0 t4 t3 t2 t1 t0 h).bind fun y1 =>
  s_X10_comesBySort_b35 c0 a1 a2 a4 a6 a8 y1
noncomputable def s_X10_comesBySort_b14 (c0 : Nat) (a1 : Int32) (a2 : Int64) (a4 : Int64) (a6 : Int64) (a8 : Int64) (h : Hp) : Option (Hp) :=
  if a1 = (1 : Int32) then (s_X10_comesBySort_b32 c0 a1 a2 a4 a6 a8 (1 : Int32) a8 a6 a4 a2 h)
  else (s_X10_comesBySort_b32 c0 a1 a2 a4 a6 a8 (0 : Int32) a8 a6 a4 a2 h)
noncomputable def s_X10_comesBySort (c0 : Nat) (a1 : Int32) (a2 : Int64) (a4 : Int64) (a6 : Int64) (a8 : Int64) (h : Hp) : Option (Hp) :=
  if a1 = 0 then (s_X10_comesBySort_b14 c0 a1 a2 a4 a6 a8 h)
  else (if a1 = (1 : Int32) then (s_X10_comesBySort_b14 c0 a1 a2 a4 a6 a8 h)
  else (if a1 = (4 : Int32) then (s_X10_comesBySort_b14 c0 a1 a2 a4 a6 a8 h)
  else (s_X10_comesBySort_b35 c0 a1 a2 a4 a6 a8 h)))
set_option maxRecDepth 100000 in
set_option maxHeartbeats 4000000 in
theorem o_X10_comesBySort_b72 {K : gK} (S : Cx K RX10 cX10_comesBySort 10 1 33) {c0 : Nat} (k0 : kd c0 (10 + 10, 0)) (t0 : Int32) (t1 : Int64) (t2 : Int64) (t3 : Int64) (t4 : Int64) (h : Hp) {o : Hp} (hyp : s_X10_comesBySort_b72 c0 t0 t1 t2 t3 t4 h = some o) (F : Rt K none none o) : Go K 72 [] [.int t0, .long t1, .long t2, .long t3, .long t4, .ref (ad K c0)] h := by
  unfold s_X10_comesBySort_b72 at hyp
  refine g_bind hyp (fun y2 hy2 hyp => ?_)
  refine g_callV (pc := 72) (As := [.long t4, .long t3, .long t2, .long t1, .int t0]) (rest := []) S dX10_comesBySort_72 k0 rfl tw_1064 tw_1065 tw_44 mw_X10_comesRow (m_X10_comesRow k0 t4 t3 t2 t1 t0 h hy2) rfl rfl (Nat.le_of_ble_eq_true rfl) (Nat.le_of_ble_eq_true rfl) (Nat.le_of_ble_eq_true rfl) ?_
  have hyp := Option.some.inj hyp
  subst hyp
  exact g_vret (pc := 75) S F dX10_comesBySort_75
set_option maxRecDepth 100000 in
set_option maxHeartbeats 4000000 in
theorem o_X10_comesBySort_b50 {K : gK} (S : Cx K RX10 cX10_comesBySort 10 1 33) {c0 : Nat} (k0 : kd c0 (10 + 10, 0)) (a1 : Int32) (a2 : Int64) (a4 : Int64) (a6 : Int64) (a8 : Int64) (h : Hp) {o : Hp} (hyp : s_X10_comesBySort_b50 c0 a1 a2 a4 a6 a8 h = some o) (F : Rt K none none o) : Go K 50 [(0, .ref (ad K c0)), (1, .int a1), (2, .long a2), (4, .long a4), (6, .long a6), (8, .long a8)] [] h := by
  unfold s_X10_comesBySort_b50 at hyp
  refine g_aload_n (pc := 50) 0 S dX10_comesBySort_50 rfl ?_
  refine g_lload_n (pc := 51) 2 S dX10_comesBySort_51 rfl ?_
  refine g_lneg (pc := 52) S dX10_comesBySort_52 ?_
  refine g_lload (pc := 53) 3 S dX10_comesBySort_53 rfl ?_
  refine g_lneg (pc := 55) S dX10_comesBySort_55 ?_
  refine g_lload (pc := 56) 4 S dX10_comesBySort_56 rfl ?_
  refine g_lneg (pc := 58) S dX10_comesBySort_58 ?_
  refine g_lload (pc := 59) 5 S dX10_comesBySort_59 rfl ?_
  refine g_lneg (pc := 61) S dX10_comesBySort_61 ?_
  refine g_iload_n (pc := 62) 1 S dX10_comesBySort_62 rfl ?_
  refine g_iconst (pc := 63) (v := (3 : Int32)) S dX10_comesBySort_63 (by decide) ?_
  refine g_icmp_ne (pc := 64) (tgt := 71) S dX10_comesBySort_64 (by decide) hyp (fun hyp => ?_) (fun hyp => ?_)
  · refine g_iconst (pc := 67) (v := (1 : Int32)) S dX10_comesBySort_67 (by decide) ?_
    refine g_goto (pc := 68) (tgt := 72) S dX10_comesBySort_68 (by decide) ?_
    exact g_sub [] rfl (o_X10_comesBySort_b72 S k0 (1 : Int32) (-a8) (-a6) (-a4) (-a2) h hyp F)
  · refine g_iconst (pc := 71) (v := (0 : Int32)) S dX10_comesBySort_71 (by decide) ?_
    exact g_sub [] rfl (o_X10_comesBySort_b72 S k0 (0 : Int32) (-a8) (-a6) (-a4) (-a2) h hyp F)
set_option maxRecDepth 100000 in
set_option maxHeartbeats 4000000 in
theorem o_X10_comesBySort_b35 {K : gK} (S : Cx K RX10 cX10_comesBySort 10 1 33) {c0 : Nat} (k0 : kd c0 (10 + 10, 0)) (a1 : Int32) (a2 : Int64) (a4 : Int64) (a6 : Int64) (a8 : Int64) (h : Hp) {o : Hp} (hyp : s_X10_comesBySort_b35 c0 a1 a2 a4 a6 a8 h = some o) (F : Rt K none none o) : Go K 35 [(0, .ref (ad K c0)), (1, .int a1), (2, .long a2), (4, .long a4), (6, .long a6), (8, .long a8)] [] h := by
  unfold s_X10_comesBySort_b35 at hyp
  refine g_iload_n (pc := 35) 1 S dX10_comesBySort_35 rfl ?_
  refine g_iconst (pc := 36) (v := (2 : Int32)) S dX10_comesBySort_36 (by decide) ?_
  refine g_icmp_eq (pc := 37) (tgt := 50) S dX10_comesBySort_37 (by decide) hyp (fun hyp => ?_) (fun hyp => ?_)
  · exact g_sub [0, 1, 2, 3, 4, 5] rfl (o_X10_comesBySort_b50 S k0 a1 a2 a4 a6 a8 h hyp F)
  · refine g_iload_n (pc := 40) 1 S dX10_comesBySort_40 rfl ?_
    refine g_iconst (pc := 41) (v := (3 : Int32)) S dX10_comesBySort_41 (by decide) ?_
    refine g_icmp_eq (pc := 42) (tgt := 50) S dX10_comesBySort_42 (by decide) hyp (fun hyp => ?_) (fun hyp => ?_)
    · exact g_sub [0, 1, 2, 3, 4, 5] rfl (o_X10_comesBySort_b50 S k0 a1 a2 a4 a6 a8 h hyp F)
    · refine g_iload_n (pc := 45) 1 S dX10_comesBySort_45 rfl ?_
      refine g_iconst (pc := 46) (v := (4 : Int32)) S dX10_comesBySort_46 (by decide) ?_
      refine g_icmp_ne (pc := 47) (tgt := 75) S dX10_comesBySort_47 (by decide) hyp (fun hyp => ?_) (fun hyp => ?_)
      · exact g_sub [0, 1, 2, 3, 4, 5] rfl (o_X10_comesBySort_b50 S k0 a1 a2 a4 a6 a8 h hyp F)
      · have hyp := Option.some.inj hyp
        subst hyp
        exact g_vret (pc := 75) S F dX10_comesBySort_75
set_option maxRecDepth 100000 in
set_option maxHeartbeats 4000000 in
theorem o_X10_comesBySort_b32 {K : gK} (S : Cx K RX10 cX10_comesBySort 10 1 33) {c0 : Nat} (k0 : kd c0 (10 + 10, 0)) (a1 : Int32) (a2 : Int64) (a4 : Int64) (a6 : Int64) (a8 : Int64) (t0 : Int32) (t1 : Int64) (t2 : Int64) (t3 : Int64) (t4 : Int64) (h : Hp) {o : Hp} (hyp : s_X10_comesBySort_b32 c0 a1 a2 a4 a6 a8 t0 t1 t2 t3 t4 h = some o) (F : Rt K none none o) : Go K 32 [(0, .ref (ad K c0)), (1, .int a1), (2, .long a2), (4, .long a4), (6, .long a6), (8, .long a8)] [.int t0, .long t1, .long t2, .long t3, .long t4, .ref (ad K c0)] h := by
  unfold s_X10_comesBySort_b32 at hyp
  refine g_bind hyp (fun y1 hy1 hyp => ?_)
  refine g_callV (pc := 32) (As := [.long t4, .long t3, .long t2, .long t1, .int t0]) (rest := []) S dX10_comesBySort_32 k0 rfl tw_1064 tw_1065 tw_44 mw_X10_comesRow (m_X10_comesRow k0 t4 t3 t2 t1 t0 h hy1) rfl rfl (Nat.le_of_ble_eq_true rfl) (Nat.le_of_ble_eq_true rfl) (Nat.le_of_ble_eq_true rfl) ?_
  exact g_sub [0, 1, 2, 3, 4, 5] rfl (o_X10_comesBySort_b35 S k0 a1 a2 a4 a6 a8 y1 hyp F)
set_option maxRecDepth 100000 in
set_option maxHeartbeats 4000000 in
theorem o_X10_comesBySort_b14 {K : gK} (S : Cx K RX10 cX10_comesBySort 10 1 33) {c0 : Nat} (k0 : kd c0 (10 + 10, 0)) (a1 : Int32) (a2 : Int64) (a4 : Int64) (a6 : Int64) (a8 : Int64) (h : Hp) {o : Hp} (hyp : s_X10_comesBySort_b14 c0 a1 a2 a4 a6 a8 h = some o) (F : Rt K none none o) : Go K 14 [(0, .ref (ad K c0)), (1, .int a1), (2, .long a2), (4, .long a4), (6, .long a6), (8, .long a8)] [] h := by
  unfold s_X10_comesBySort_b14 at hyp
  refine g_aload_n (pc := 14) 0 S dX10_comesBySort_14 rfl ?_
  refine g_lload_n (pc := 15) 2 S dX10_comesBySort_15 rfl ?_
  refine g_lload (pc := 16) 3 S dX10_comesBySort_16 rfl ?_
  refine g_lload (pc := 18) 4 S dX10_comesBySort_18 rfl ?_
  refine g_lload (pc := 20) 5 S dX10_comesBySort_20 rfl ?_
  refine g_iload_n (pc := 22) 1 S dX10_comesBySort_22 rfl ?_
  refine g_iconst (pc := 23) (v := (1 : Int32)) S dX10_comesBySort_23 (by decide) ?_
  refine g_icmp_ne (pc := 24) (tgt := 31) S dX10_comesBySort_24 (by decide) hyp (fun hyp => ?_) (fun hyp => ?_)
  · refine g_iconst (pc := 27) (v := (1 : Int32)) S dX10_comesBySort_27 (by decide) ?_
    refine g_goto (pc := 28) (tgt := 32) S dX10_comesBySort_28 (by decide) ?_
    exact g_sub [0, 1, 2, 3, 4, 5] rfl (o_X10_comesBySort_b32 S k0 a1 a2 a4 a6 a8 (1 : Int32) a8 a6 a4 a2 h hyp F)
  · refine g_iconst (pc := 31) (v := (0 : Int32)) S dX10_comesBySort_31 (by decide) ?_
    exact g_sub [0, 1, 2, 3, 4, 5] rfl (o_X10_comesBySort_b32 S k0 a1 a2 a4 a6 a8 (0 : Int32) a8 a6 a4 a2 h hyp F)
set_option maxRecDepth 100000 in
set_option maxHeartbeats 4000000 in
theorem o_X10_comesBySort {K : gK} (S : Cx K RX10 cX10_comesBySort 10 1 33) {c0 : Nat} (k0 : kd c0 (10 + 10, 0)) (a1 : Int32) (a2 : Int64) (a4 : Int64) (a6 : Int64) (a8 : Int64) (h : Hp) {o : Hp} (hyp : s_X10_comesBySort c0 a1 a2 a4 a6 a8 h = some o) (F : Rt K none none o) : Go K 0 [(0, .ref (ad K c0)), (1, .int a1), (2, .long a2), (4, .long a4), (6, .long a6), (8, .long a8)] [] h := by
  unfold s_X10_comesBySort at hyp
  refine g_iload_n (pc := 0) 1 S dX10_comesBySort_0 rfl ?_
  refine g_if_eq (pc := 1) (tgt := 14) S dX10_comesBySort_1 (by decide) hyp (fun hyp => ?_) (fun hyp => ?_)
  · exact g_sub [0, 1, 2, 3, 4, 5] rfl (o_X10_comesBySort_b14 S k0 a1 a2 a4 a6 a8 h hyp F)
  · refine g_iload_n (pc := 4) 1 S dX10_comesBySort_4 rfl ?_
    refine g_iconst (pc := 5) (v := (1 : Int32)) S dX10_comesBySort_5 (by decide) ?_
    refine g_icmp_eq (pc := 6) (tgt := 14) S dX10_comesBySort_6 (by decide) hyp (fun hyp => ?_) (fun hyp => ?_)
    · exact g_sub [0, 1, 2, 3, 4, 5] rfl (o_X10_comesBySort_b14 S k0 a1 a2 a4 a6 a8 h hyp F)
    · refine g_iload_n (pc := 9) 1 S dX10_comesBySort_9 rfl ?_
      refine g_iconst (pc := 10) (v := (4 : Int32)) S dX10_comesBySort_10 (by decide) ?_
      refine g_icmp_ne (pc := 11) (tgt := 35) S dX10_comesBySort_11 (by decide) hyp (fun hyp => ?_) (fun hyp => ?_)
      · exact g_sub [0, 1, 2, 3, 4, 5] rfl (o_X10_comesBySort_b14 S k0 a1 a2 a4 a6 a8 h hyp F)
      · exact g_sub [0, 1, 2, 3, 4, 5] rfl (o_X10_comesBySort_b35 S k0 a1 a2 a4 a6 a8 h hyp F)
theorem m_X10_comesBySort {l : Launch} {D : va_G} {cT : Nat → ClassId} {aD : Nat → Nat} {c0 : Nat} (k0 : kd c0 (10 + 10, 0)) (a1 : Int32) (a2 : Int64) (a4 : Int64) (a6 : Int64) (a8 : Int64) (h : Hp) {o : Hp} (hyp : s_X10_comesBySort c0 a1 a2 a4 a6 a8 h = some o) : Ok l D cT aD yX10_comesBySort cX10_comesBySort 10 none 1 33 [.ref (aD c0), .int a1, .long a2, .long a4, .long a6, .long a8] h none o :=
  Ok.of (by decide +kernel) rfl (Nat.le_of_ble_eq_true rfl) (fun K e1 e2 e3 e4 S F => by subst e1; exact o_X10_comesBySort S k0 a1 a2 a4 a6 a8 h hyp F)
-- BoundProofsModel comesFlat (JJJI)V
noncomputable def s_X10_comesFlat (c0 : Nat) (a1 : Int64) (a3 : Int64) (a5 : Int64) (a7 : Int32) (h : Hp) : Option (Hp) :=
  stJ h (c0 + 11) 120 (h.1 c0 15) a1 fun h1 =>
  stJ h1 (c0 + 12) 120 (h1.1 c0 15) a3 fun h2 =>
  stJ h2 (c0 + 13) 120 (h2.1 c0 15) a5 fun h3 =>
  stI h3 (c0 + 14) 120 (h3.1 c0 15) a7 fun h4 =>
  lt (sI h4 c0 15 ((h4.1 c0 15) + (1 : Int32))) fun h5 =>
  some h5
set_option maxRecDepth 100000 in
set_option maxHeartbeats 4000000 in
theorem o_X10_comesFlat {K : gK} (S : Cx K RX10 cX10_comesFlat 8 0 0) {c0 : Nat} (k0 : kd c0 (10 + 10, 0)) (a1 : Int64) (a3 : Int64) (a5 : Int64) (a7 : Int32) (h : Hp) {o : Hp} (hyp : s_X10_comesFlat c0 a1 a3 a5 a7 h = some o) (F : Rt K none none o) : Go K 0 [(0, .ref (ad K c0)), (1, .long a1), (3, .long a3), (5, .long a5), (7, .int a7)] [] h := by
  unfold s_X10_comesFlat at hyp
  refine g_aload_n (pc := 0) 0 S dX10_comesFlat_0 rfl ?_
  refine g_getR (pc := 1) S dX10_comesFlat_1 fl_X10_45 k0 ?_
  refine g_aload_n (pc := 4) 0 S dX10_comesFlat_4 rfl ?_
  refine g_getI (pc := 5) S dX10_comesFlat_5 fl_X10_142 k0 ?_
  refine g_lload_n (pc := 8) 1 S dX10_comesFlat_8 rfl ?_
  refine g_last (pc := 9) S dX10_comesFlat_9 (kf_10_11 k0) hyp (fun h1 hyp => ?_)
  refine g_aload_n (pc := 10) 0 S dX10_comesFlat_10 rfl ?_
  refine g_getR (pc := 11) S dX10_comesFlat_11 fl_X10_48 k0 ?_
  refine g_aload_n (pc := 14) 0 S dX10_comesFlat_14 rfl ?_
  refine g_getI (pc := 15) S dX10_comesFlat_15 fl_X10_142 k0 ?_
  refine g_lload_n (pc := 18) 2 S dX10_comesFlat_18 rfl ?_
  refine g_last (pc := 19) S dX10_comesFlat_19 (kf_10_12 k0) hyp (fun h2 hyp => ?_)
  refine g_aload_n (pc := 20) 0 S dX10_comesFlat_20 rfl ?_
  refine g_getR (pc := 21) S dX10_comesFlat_21 fl_X10_51 k0 ?_
  refine g_aload_n (pc := 24) 0 S dX10_comesFlat_24 rfl ?_
  refine g_getI (pc := 25) S dX10_comesFlat_25 fl_X10_142 k0 ?_
  refine g_lload (pc := 28) 3 S dX10_comesFlat_28 rfl ?_
  refine g_last (pc := 30) S dX10_comesFlat_30 (kf_10_13 k0) hyp (fun h3 hyp => ?_)
  refine g_aload_n (pc := 31) 0 S dX10_comesFlat_31 rfl ?_
  refine g_getR (pc := 32) S dX10_comesFlat_32 fl_X10_54 k0 ?_
  refine g_aload_n (pc := 35) 0 S dX10_comesFlat_35 rfl ?_
  refine g_getI (pc := 36) S dX10_comesFlat_36 fl_X10_142 k0 ?_
  refine g_iload (pc := 39) 4 S dX10_comesFlat_39 rfl ?_
  refine g_iast (pc := 41) S dX10_comesFlat_41 (kf_10_14 k0) hyp (fun h4 hyp => ?_)
  refine g_aload_n (pc := 42) 0 S dX10_comesFlat_42 rfl ?_
  refine g_dup (pc := 43) S dX10_comesFlat_43 rfl ?_
  refine g_getI (pc := 44) S dX10_comesFlat_44 fl_X10_142 k0 ?_
  refine g_iconst (pc := 47) (v := (1 : Int32)) S dX10_comesFlat_47 (by decide) ?_
  refine g_iadd (pc := 48) S dX10_comesFlat_48 ?_
  refine g_putI (pc := 49) S dX10_comesFlat_49 fl_X10_142 k0 hyp (fun h5 hyp => ?_)
  have hyp := Option.some.inj hyp
  subst hyp
  exact g_vret (pc := 52) S F dX10_comesFlat_52
theorem m_X10_comesFlat {l : Launch} {D : va_G} {cT : Nat → ClassId} {aD : Nat → Nat} {c0 : Nat} (k0 : kd c0 (10 + 10, 0)) (a1 : Int64) (a3 : Int64) (a5 : Int64) (a7 : Int32) (h : Hp) {o : Hp} (hyp : s_X10_comesFlat c0 a1 a3 a5 a7 h = some o) : Ok l D cT aD yX10_comesFlat cX10_comesFlat 8 none 0 0 [.ref (aD c0), .long a1, .long a3, .long a5, .int a7] h none o :=
  Ok.of (by decide +kernel) rfl (Nat.le_of_ble_eq_true rfl) (fun K e1 e2 e3 e4 S F => by subst e1; exact o_X10_comesFlat S k0 a1 a3 a5 a7 h hyp F)
-- BoundProofsModel withoutZ ()V
noncomputable def s_X10_withoutZ_b173 (c0 : Nat) (a1 : Int32) (a2 : Int32) (h : Hp) : Option ((Int32 × Hp) ⊕ (Hp)) :=
  lt (a2 + (1 : Int32)) fun v2_22 =>
  some (.inl (v2_22, h))
noncomputable def s_X10_withoutZ_l56 (c0 : Nat) (a1 : Int32) (a2 : Int32) (h : Hp) : Option ((Int32 × Hp) ⊕ (Hp)) :=
  if a2 < (h.1 c0 9) then (ldJ h (c0 + 8) 20 a1 fun x8 =>
  if (0 : Int64) < x8 then (ldJ h (c0 + 8) 20 a2 fun x9 =>
  if x9 < (0 : Int64) then (ldJ h (c0 + 8) 20 a2 fun x10 =>
  lt (-x10) fun v3_11 =>
  ldJ h (c0 + 8) 20 a1 fun x12 =>
  ldJ h (c0 + 6) 20 a1 fun x13 =>
  ldJ h (c0 + 6) 20 a2 fun x14 =>
  ldJ h (c0 + 7) 20 a1 fun x15 =>
  ldJ h (c0 + 7) 20 a2 fun x16 =>
  ldJ h (c0 + 9) 20 a1 fun x17 =>
  ldJ h (c0 + 9) 20 a2 fun x18 =>
  ldI h (c0 + 10) 20 a1 fun x19 =>
  ldI h (c0 + 10) 20 a2 fun x20 =>
  (s_X10_comesFlat c0 ((v3_11 * x13) + (x12 * x14)) ((v3_11 * x15) + (x12 * x16)) ((v3_11 * x17) + (x12 * x18)) (x19 ||| x20) h).bind fun y21 =>
  s_X10_withoutZ_b173 c0 a1 a2 y21)
  else (s_X10_withoutZ_b173 c0 a1 a2 h))
  else (some (.inr (h))))
  else (some (.inr (h)))
noncomputable def s_X10_withoutZ_b54 (c0 : Nat) (a1 : Int32) (h : Hp) : Option ((Int32 × Hp) ⊕ (Hp)) :=
  (iter (fun s : Int32 × Hp => s_X10_withoutZ_l56 c0 a1 s.1 s.2) FUEL ((0 : Int32), h)).bind fun e23 =>
  lt (a1 + (1 : Int32)) fun v1_24 =>
  some (.inl (v1_24, e23))
noncomputable def s_X10_withoutZ_l7 (c0 : Nat) (a1 : Int32) (h : Hp) : Option ((Int32 × Hp) ⊕ (Hp)) :=
  if a1 < (h.1 c0 9) then (ldJ h (c0 + 8) 20 a1 fun x2 =>
  if x2 = (0 : Int64) then (ldJ h (c0 + 6) 20 a1 fun x3 =>
  ldJ h (c0 + 7) 20 a1 fun x4 =>
  ldJ h (c0 + 9) 20 a1 fun x5 =>
  ldI h (c0 + 10) 20 a1 fun x6 =>
  (s_X10_comesFlat c0 x3 x4 x5 x6 h).bind fun y7 =>
  s_X10_withoutZ_b54 c0 a1 y7)
  else (s_X10_withoutZ_b54 c0 a1 h))
  else (some (.inr (h)))
noncomputable def s_X10_withoutZ (c0 : Nat)  (h : Hp) : Option (Hp) :=
  lt (sI h c0 15 (0 : Int32)) fun h1 =>
  (iter (fun s : Int32 × Hp => s_X10_withoutZ_l7 c0 s.1 s.2) FUEL ((0 : Int32), h1)).bind fun e25 =>
  some e25
set_option maxRecDepth 100000 in
set_option maxHeartbeats 4000000 in
theorem o_X10_withoutZ_b173 {K : gK} (S : Cx K RX10 cX10_withoutZ 7 1 31) {c0 : Nat} (k0 : kd c0 (10 + 10, 0)) (a1 : Int32) (a2 : Int32) (h : Hp) {o : (Int32 × Hp) ⊕ (Hp)} (hyp : s_X10_withoutZ_b173 c0 a1 a2 h = some o) (hin : ∀ s', o = .inl s' → Go K 56 [(0, .ref (ad K c0)), (1, .int a1), (2, .int s'.1)] [] s'.2) (hex0 : ∀ s', o = .inr (s') → Go K 179 [(0, .ref (ad K c0)), (1, .int a1)] [] s') : Go K 173 [(0, .ref (ad K c0)), (1, .int a1), (2, .int a2)] [] h := by
  unfold s_X10_withoutZ_b173 at hyp
  refine g_iinc (pc := 173) (v := (a2 + (1 : Int32))) (lv' := [(2, .int (a2 + (1 : Int32))), (0, .ref (ad K c0)), (1, .int a1)]) 2 S dX10_withoutZ_173 rfl (by rfl) (by decide) rfl ?_
  refine g_lti (C := fun v2_22 => Go K (173 + 3) [(2, .int v2_22), (0, .ref (ad K c0)), (1, .int a1)] [] h) hyp (fun v2_22 hyp => ?_)
  refine g_goto (pc := 176) (tgt := 56) S dX10_withoutZ_176 (by decide) ?_
  have hyp := Option.some.inj hyp
  subst hyp
  exact g_sub [1, 2, 0] rfl (hin (v2_22, h) rfl)
set_option maxRecDepth 100000 in
set_option maxHeartbeats 4000000 in
theorem o_X10_withoutZ_l56 {K : gK} (S : Cx K RX10 cX10_withoutZ 7 1 31) {c0 : Nat} (k0 : kd c0 (10 + 10, 0)) (a1 : Int32) (a2 : Int32) (h : Hp) {o : (Int32 × Hp) ⊕ (Hp)} (hyp : s_X10_withoutZ_l56 c0 a1 a2 h = some o) (hin : ∀ s', o = .inl s' → Go K 56 [(0, .ref (ad K c0)), (1, .int a1), (2, .int s'.1)] [] s'.2) (hex0 : ∀ s', o = .inr (s') → Go K 179 [(0, .ref (ad K c0)), (1, .int a1)] [] s') : Go K 56 [(0, .ref (ad K c0)), (1, .int a1), (2, .int a2)] [] h := by
  unfold s_X10_withoutZ_l56 at hyp
  refine g_iload_n (pc := 56) 2 S dX10_withoutZ_56 rfl ?_
  refine g_aload_n (pc := 57) 0 S dX10_withoutZ_57 rfl ?_
  refine g_getI (pc := 58) S dX10_withoutZ_58 fl_X10_135 k0 ?_
  refine g_icmp_ge (pc := 61) (tgt := 179) S dX10_withoutZ_61 (by decide) hyp (fun hyp => ?_) (fun hyp => ?_)
  · refine g_aload_n (pc := 64) 0 S dX10_withoutZ_64 rfl ?_
    refine g_getR (pc := 65) S dX10_withoutZ_65 fl_X10_36 k0 ?_
    refine g_iload_n (pc := 68) 1 S dX10_withoutZ_68 rfl ?_
    refine g_lald (pc := 69) S dX10_withoutZ_69 (kf_10_8 k0) hyp (fun x8 hyp => ?_)
    refine g_lconst (pc := 70) (v := (0 : Int64)) S dX10_withoutZ_70 (by decide) ?_
    refine g_lcmp_le (pc := 71) (tgt := 179) S dX10_withoutZ_71 dX10_withoutZ_72 (by decide) hyp (fun hyp => ?_) (fun hyp => ?_)
    · refine g_aload_n (pc := 75) 0 S dX10_withoutZ_75 rfl ?_
      refine g_getR (pc := 76) S dX10_withoutZ_76 fl_X10_36 k0 ?_
      refine g_iload_n (pc := 79) 2 S dX10_withoutZ_79 rfl ?_
      refine g_lald (pc := 80) S dX10_withoutZ_80 (kf_10_8 k0) hyp (fun x9 hyp => ?_)
      refine g_lconst (pc := 81) (v := (0 : Int64)) S dX10_withoutZ_81 (by decide) ?_
      refine g_lcmp_ge (pc := 82) (tgt := 173) S dX10_withoutZ_82 dX10_withoutZ_83 (by decide) hyp (fun hyp => ?_) (fun hyp => ?_)
      · refine g_aload_n (pc := 86) 0 S dX10_withoutZ_86 rfl ?_
        refine g_getR (pc := 87) S dX10_withoutZ_87 fl_X10_36 k0 ?_
        refine g_iload_n (pc := 90) 2 S dX10_withoutZ_90 rfl ?_
        refine g_lald (pc := 91) S dX10_withoutZ_91 (kf_10_8 k0) hyp (fun x10 hyp => ?_)
        refine g_lneg (pc := 92) S dX10_withoutZ_92 ?_
        refine g_lti (C := fun v3_11 => Go K 93 [(0, .ref (ad K c0)), (1, .int a1), (2, .int a2)] [.long v3_11] h) hyp (fun v3_11 hyp => ?_)
        refine g_lstore_n (pc := 93) (lv' := [(3, .long v3_11), (0, .ref (ad K c0)), (1, .int a1), (2, .int a2)]) S dX10_withoutZ_93 rfl (by decide) rfl ?_
        refine g_aload_n (pc := 94) 1 S dX10_withoutZ_94 rfl ?_
        refine g_getR (pc := 95) S dX10_withoutZ_95 fl_X10_36 k0 ?_
        refine g_iload_n (pc := 98) 2 S dX10_withoutZ_98 rfl ?_
        refine g_lald (pc := 99) S dX10_withoutZ_99 (kf_10_8 k0) hyp (fun x12 hyp => ?_)
        refine g_lstore (pc := 100) (lv' := [(5, .long x12), (3, .long v3_11), (0, .ref (ad K c0)), (1, .int a1), (2, .int a2)]) S dX10_withoutZ_100 (by decide) rfl ?_
        refine g_aload_n (pc := 102) 2 S dX10_withoutZ_102 rfl ?_
        refine g_lload_n (pc := 103) 1 S dX10_withoutZ_103 rfl ?_
        refine g_aload_n (pc := 104) 2 S dX10_withoutZ_104 rfl ?_
        refine g_getR (pc := 105) S dX10_withoutZ_105 fl_X10_29 k0 ?_
        refine g_iload_n (pc := 108) 3 S dX10_withoutZ_108 rfl ?_
        refine g_lald (pc := 109) S dX10_withoutZ_109 (kf_10_6 k0) hyp (fun x13 hyp => ?_)
        refine g_lmul (pc := 110) S dX10_withoutZ_110 ?_
        refine g_lload (pc := 111) 0 S dX10_withoutZ_111 rfl ?_
        refine g_aload_n (pc := 113) 2 S dX10_withoutZ_113 rfl ?_
        refine g_getR (pc := 114) S dX10_withoutZ_114 fl_X10_29 k0 ?_
        refine g_iload_n (pc := 117) 4 S dX10_withoutZ_117 rfl ?_
        refine g_lald (pc := 118) S dX10_withoutZ_118 (kf_10_6 k0) hyp (fun x14 hyp => ?_)
        refine g_lmul (pc := 119) S dX10_withoutZ_119 ?_
        refine g_ladd (pc := 120) S dX10_withoutZ_120 ?_
        refine g_lload_n (pc := 121) 1 S dX10_withoutZ_121 rfl ?_
        refine g_aload_n (pc := 122) 2 S dX10_withoutZ_122 rfl ?_
        refine g_getR (pc := 123) S dX10_withoutZ_123 fl_X10_33 k0 ?_
        refine g_iload_n (pc := 126) 3 S dX10_withoutZ_126 rfl ?_
        refine g_lald (pc := 127) S dX10_withoutZ_127 (kf_10_7 k0) hyp (fun x15 hyp => ?_)
        refine g_lmul (pc := 128) S dX10_withoutZ_128 ?_
        refine g_lload (pc := 129) 0 S dX10_withoutZ_129 rfl ?_
        refine g_aload_n (pc := 131) 2 S dX10_withoutZ_131 rfl ?_
        refine g_getR (pc := 132) S dX10_withoutZ_132 fl_X10_33 k0 ?_
        refine g_iload_n (pc := 135) 4 S dX10_withoutZ_135 rfl ?_
        refine g_lald (pc := 136) S dX10_withoutZ_136 (kf_10_7 k0) hyp (fun x16 hyp => ?_)
        refine g_lmul (pc := 137) S dX10_withoutZ_137 ?_
        refine g_ladd (pc := 138) S dX10_withoutZ_138 ?_
        refine g_lload_n (pc := 139) 1 S dX10_withoutZ_139 rfl ?_
        refine g_aload_n (pc := 140) 2 S dX10_withoutZ_140 rfl ?_
        refine g_getR (pc := 141) S dX10_withoutZ_141 fl_X10_39 k0 ?_
        refine g_iload_n (pc := 144) 3 S dX10_withoutZ_144 rfl ?_
        refine g_lald (pc := 145) S dX10_withoutZ_145 (kf_10_9 k0) hyp (fun x17 hyp => ?_)
        refine g_lmul (pc := 146) S dX10_withoutZ_146 ?_
        refine g_lload (pc := 147) 0 S dX10_withoutZ_147 rfl ?_
        refine g_aload_n (pc := 149) 2 S dX10_withoutZ_149 rfl ?_
        refine g_getR (pc := 150) S dX10_withoutZ_150 fl_X10_39 k0 ?_
        refine g_iload_n (pc := 153) 4 S dX10_withoutZ_153 rfl ?_
        refine g_lald (pc := 154) S dX10_withoutZ_154 (kf_10_9 k0) hyp (fun x18 hyp => ?_)
        refine g_lmul (pc := 155) S dX10_withoutZ_155 ?_
        refine g_ladd (pc := 156) S dX10_withoutZ_156 ?_
        refine g_aload_n (pc := 157) 2 S dX10_withoutZ_157 rfl ?_
        refine g_getR (pc := 158) S dX10_withoutZ_158 fl_X10_42 k0 ?_
        refine g_iload_n (pc := 161) 3 S dX10_withoutZ_161 rfl ?_
        refine g_iald (pc := 162) S dX10_withoutZ_162 (kf_10_10 k0) hyp (fun x19 hyp => ?_)
        refine g_aload_n (pc := 163) 2 S dX10_withoutZ_163 rfl ?_
        refine g_getR (pc := 164) S dX10_withoutZ_164 fl_X10_42 k0 ?_
        refine g_iload_n (pc := 167) 4 S dX10_withoutZ_167 rfl ?_
        refine g_iald (pc := 168) S dX10_withoutZ_168 (kf_10_10 k0) hyp (fun x20 hyp => ?_)
        refine g_ior (pc := 169) S dX10_withoutZ_169 ?_
        refine g_bind hyp (fun y21 hy21 hyp => ?_)
        refine g_callV (pc := 170) (As := [.long ((v3_11 * x13) + (x12 * x14)), .long ((v3_11 * x15) + (x12 * x16)), .long ((v3_11 * x17) + (x12 * x18)), .int (x19 ||| x20)]) (rest := []) S dX10_withoutZ_170 k0 rfl tw_1073 tw_1074 tw_47 mw_X10_comesFlat (m_X10_comesFlat k0 ((v3_11 * x13) + (x12 * x14)) ((v3_11 * x15) + (x12 * x16)) ((v3_11 * x17) + (x12 * x18)) (x19 ||| x20) h hy21) rfl rfl (Nat.le_of_ble_eq_true rfl) (Nat.le_of_ble_eq_true rfl) (Nat.le_of_ble_eq_true rfl) ?_
        exact g_sub [2, 3, 4] rfl (o_X10_withoutZ_b173 S k0 a1 a2 y21 hyp hin hex0)
      · exact g_sub [0, 1, 2] rfl (o_X10_withoutZ_b173 S k0 a1 a2 h hyp hin hex0)
    · have hyp := Option.some.inj hyp
      subst hyp
      exact g_sub [0, 1] rfl (hex0 h rfl)
  · have hyp := Option.some.inj hyp
    subst hyp
    exact g_sub [0, 1] rfl (hex0 h rfl)
set_option maxRecDepth 100000 in
set_option maxHeartbeats 4000000 in
theorem o_X10_withoutZ_b54 {K : gK} (S : Cx K RX10 cX10_withoutZ 7 1 31) {c0 : Nat} (k0 : kd c0 (10 + 10, 0)) (a1 : Int32) (h : Hp) {o : (Int32 × Hp) ⊕ (Hp)} (hyp : s_X10_withoutZ_b54 c0 a1 h = some o) (hin : ∀ s', o = .inl s' → Go K 7 [(0, .ref (ad K c0)), (1, .int s'.1)] [] s'.2) (hex0 : ∀ s', o = .inr (s') → Go K 185 [] [] s') : Go K 54 [(0, .ref (ad K c0)), (1, .int a1)] [] h := by
  unfold s_X10_withoutZ_b54 at hyp
  refine g_iconst (pc := 54) (v := (0 : Int32)) S dX10_withoutZ_54 (by decide) ?_
  refine g_istore_n (pc := 55) (lv' := [(2, .int (0 : Int32)), (0, .ref (ad K c0)), (1, .int a1)]) S dX10_withoutZ_55 rfl (by decide) rfl ?_
  refine g_bind hyp (fun e23 he23 hyp => ?_)
  refine g_sub [1, 2, 0] rfl (g_loop (f := fun s : Int32 × Hp => s_X10_withoutZ_l56 c0 a1 s.1 s.2) (ρ := Hp) (Hd := fun s : Int32 × Hp => Go K 56 [(0, .ref (ad K c0)), (1, .int a1), (2, .int s.1)] [] s.2) (Ex := fun e23 => Go K 179 [(0, .ref (ad K c0)), (1, .int a1)] [] e23) (fun s o h1 h2 h3 => o_X10_withoutZ_l56 S k0 a1 s.1 s.2 h1 h2 h3) FUEL _ e23 he23 ?_)
  refine g_iinc (pc := 179) (v := (a1 + (1 : Int32))) (lv' := [(1, .int (a1 + (1 : Int32))), (0, .ref (ad K c0))]) 1 S dX10_withoutZ_179 rfl (by rfl) (by decide) rfl ?_
  refine g_lti (C := fun v1_24 => Go K (179 + 3) [(1, .int v1_24), (0, .ref (ad K c0))] [] e23) hyp (fun v1_24 hyp => ?_)
  refine g_goto (pc := 182) (tgt := 7) S dX10_withoutZ_182 (by decide) ?_
  have hyp := Option.some.inj hyp
  subst hyp
  exact g_sub [1, 0] rfl (hin (v1_24, e23) rfl)
set_option maxRecDepth 100000 in
set_option maxHeartbeats 4000000 in
theorem o_X10_withoutZ_l7 {K : gK} (S : Cx K RX10 cX10_withoutZ 7 1 31) {c0 : Nat} (k0 : kd c0 (10 + 10, 0)) (a1 : Int32) (h : Hp) {o : (Int32 × Hp) ⊕ (Hp)} (hyp : s_X10_withoutZ_l7 c0 a1 h = some o) (hin : ∀ s', o = .inl s' → Go K 7 [(0, .ref (ad K c0)), (1, .int s'.1)] [] s'.2) (hex0 : ∀ s', o = .inr (s') → Go K 185 [] [] s') : Go K 7 [(0, .ref (ad K c0)), (1, .int a1)] [] h := by
  unfold s_X10_withoutZ_l7 at hyp
  refine g_iload_n (pc := 7) 1 S dX10_withoutZ_7 rfl ?_
  refine g_aload_n (pc := 8) 0 S dX10_withoutZ_8 rfl ?_
  refine g_getI (pc := 9) S dX10_withoutZ_9 fl_X10_135 k0 ?_
  refine g_icmp_ge (pc := 12) (tgt := 185) S dX10_withoutZ_12 (by decide) hyp (fun hyp => ?_) (fun hyp => ?_)
  · refine g_aload_n (pc := 15) 0 S dX10_withoutZ_15 rfl ?_
    refine g_getR (pc := 16) S dX10_withoutZ_16 fl_X10_36 k0 ?_
    refine g_iload_n (pc := 19) 1 S dX10_withoutZ_19 rfl ?_
    refine g_lald (pc := 20) S dX10_withoutZ_20 (kf_10_8 k0) hyp (fun x2 hyp => ?_)
    refine g_lconst (pc := 21) (v := (0 : Int64)) S dX10_withoutZ_21 (by decide) ?_
    refine g_lcmp_ne (pc := 22) (tgt := 54) S dX10_withoutZ_22 dX10_withoutZ_23 (by decide) hyp (fun hyp => ?_) (fun hyp => ?_)
    · refine g_aload_n (pc := 26) 0 S dX10_withoutZ_26 rfl ?_
      refine g_aload_n (pc := 27) 0 S dX10_withoutZ_27 rfl ?_
      refine g_getR (pc := 28) S dX10_withoutZ_28 fl_X10_29 k0 ?_
      refine g_iload_n (pc := 31) 1 S dX10_withoutZ_31 rfl ?_
      refine g_lald (pc := 32) S dX10_withoutZ_32 (kf_10_6 k0) hyp (fun x3 hyp => ?_)
      refine g_aload_n (pc := 33) 0 S dX10_withoutZ_33 rfl ?_
      refine g_getR (pc := 34) S dX10_withoutZ_34 fl_X10_33 k0 ?_
      refine g_iload_n (pc := 37) 1 S dX10_withoutZ_37 rfl ?_
      refine g_lald (pc := 38) S dX10_withoutZ_38 (kf_10_7 k0) hyp (fun x4 hyp => ?_)
      refine g_aload_n (pc := 39) 0 S dX10_withoutZ_39 rfl ?_
      refine g_getR (pc := 40) S dX10_withoutZ_40 fl_X10_39 k0 ?_
      refine g_iload_n (pc := 43) 1 S dX10_withoutZ_43 rfl ?_
      refine g_lald (pc := 44) S dX10_withoutZ_44 (kf_10_9 k0) hyp (fun x5 hyp => ?_)
      refine g_aload_n (pc := 45) 0 S dX10_withoutZ_45 rfl ?_
      refine g_getR (pc := 46) S dX10_withoutZ_46 fl_X10_42 k0 ?_
      refine g_iload_n (pc := 49) 1 S dX10_withoutZ_49 rfl ?_
      refine g_iald (pc := 50) S dX10_withoutZ_50 (kf_10_10 k0) hyp (fun x6 hyp => ?_)
      refine g_bind hyp (fun y7 hy7 hyp => ?_)
      refine g_callV (pc := 51) (As := [.long x3, .long x4, .long x5, .int x6]) (rest := []) S dX10_withoutZ_51 k0 rfl tw_1073 tw_1074 tw_47 mw_X10_comesFlat (m_X10_comesFlat k0 x3 x4 x5 x6 h hy7) rfl rfl (Nat.le_of_ble_eq_true rfl) (Nat.le_of_ble_eq_true rfl) (Nat.le_of_ble_eq_true rfl) ?_
      exact g_sub [0, 1] rfl (o_X10_withoutZ_b54 S k0 a1 y7 hyp hin hex0)
    · exact g_sub [0, 1] rfl (o_X10_withoutZ_b54 S k0 a1 h hyp hin hex0)
  · have hyp := Option.some.inj hyp
    subst hyp
    exact g_sub [] rfl (hex0 h rfl)
set_option maxRecDepth 100000 in
set_option maxHeartbeats 4000000 in
theorem o_X10_withoutZ {K : gK} (S : Cx K RX10 cX10_withoutZ 7 1 31) {c0 : Nat} (k0 : kd c0 (10 + 10, 0))  (h : Hp) {o : Hp} (hyp : s_X10_withoutZ c0  h = some o) (F : Rt K none none o) : Go K 0 [(0, .ref (ad K c0))] [] h := by
  unfold s_X10_withoutZ at hyp
  refine g_aload_n (pc := 0) 0 S dX10_withoutZ_0 rfl ?_
  refine g_iconst (pc := 1) (v := (0 : Int32)) S dX10_withoutZ_1 (by decide) ?_
  refine g_putI (pc := 2) S dX10_withoutZ_2 fl_X10_142 k0 hyp (fun h1 hyp => ?_)
  refine g_iconst (pc := 5) (v := (0 : Int32)) S dX10_withoutZ_5 (by decide) ?_
  refine g_istore_n (pc := 6) (lv' := [(1, .int (0 : Int32)), (0, .ref (ad K c0))]) S dX10_withoutZ_6 rfl (by decide) rfl ?_
  refine g_bind hyp (fun e25 he25 hyp => ?_)
  refine g_sub [1, 0] rfl (g_loop (f := fun s : Int32 × Hp => s_X10_withoutZ_l7 c0 s.1 s.2) (ρ := Hp) (Hd := fun s : Int32 × Hp => Go K 7 [(0, .ref (ad K c0)), (1, .int s.1)] [] s.2) (Ex := fun e25 => Go K 185 [] [] e25) (fun s o h1 h2 h3 => o_X10_withoutZ_l7 S k0 s.1 s.2 h1 h2 h3) FUEL _ e25 he25 ?_)
  have hyp := Option.some.inj hyp
  subst hyp
  exact g_vret (pc := 185) S F dX10_withoutZ_185
theorem m_X10_withoutZ {l : Launch} {D : va_G} {cT : Nat → ClassId} {aD : Nat → Nat} {c0 : Nat} (k0 : kd c0 (10 + 10, 0))  (h : Hp) {o : Hp} (hyp : s_X10_withoutZ c0  h = some o) : Ok l D cT aD yX10_withoutZ cX10_withoutZ 7 none 1 31 [.ref (aD c0)] h none o :=
  Ok.of (by decide +kernel) rfl (Nat.le_of_ble_eq_true rfl) (fun K e1 e2 e3 e4 S F => by subst e1; exact o_X10_withoutZ S k0  h hyp F)
