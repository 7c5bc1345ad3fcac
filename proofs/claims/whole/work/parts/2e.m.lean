-- BoundProofs tells ()I
noncomputable def s_X9_tells_l28 (c0 : Nat) (a1 : Int32) (a2 : Int32) (h : Hp) : Option ((Int32 × Hp) ⊕ (Hp)) :=
  if a2 < (2 : Int32) then (stI h (c0 + 26) 2 a2 (0 : Int32) fun h3 =>
  lt (a2 + (1 : Int32)) fun v2_4 =>
  some (.inl (v2_4, h3)))
  else (some (.inr (h)))
noncomputable def s_X9_tells (c0 : Nat)  (h : Hp) : Option (Int32 × Hp) :=
  (s_X6_read (c0 + 27) (c0 + 7)  h).bind fun y1 =>
  if y1.1 < 0 then (some (y1.1, y1.2))
  else (lt (sI y1.2 (c0 + 27) 1 (0 : Int32)) fun h2 =>
  (iter (fun s : Int32 × Hp => s_X9_tells_l28 c0 y1.1 s.1 s.2) FUEL ((0 : Int32), h2)).bind fun e5 =>
  (s_X5_copy (c0 + 1) (c0 + 7)  e5).bind fun y6 =>
  (s_X9_loadRows c0  y6).bind fun y7 =>
  some (y1.1, y7))
set_option maxRecDepth 100000 in
set_option maxHeartbeats 4000000 in
theorem o_X9_tells_l28 {K : gK} (S : Cx K RX9 cX9_tells 3 6 165) {c0 : Nat} (k0 : kd c0 (10 + 9, 0)) (a1 : Int32) (a2 : Int32) (h : Hp) {o : (Int32 × Hp) ⊕ (Hp)} (hyp : s_X9_tells_l28 c0 a1 a2 h = some o) (hin : ∀ s', o = .inl s' → Go K 28 [(0, .ref (ad K c0)), (1, .int a1), (2, .int s'.1)] [] s'.2) (hex0 : ∀ s', o = .inr (s') → Go K 50 [(0, .ref (ad K c0)), (1, .int a1)] [] s') : Go K 28 [(0, .ref (ad K c0)), (1, .int a1), (2, .int a2)] [] h := by
  unfold s_X9_tells_l28 at hyp
  refine g_iload_n (pc := 28) 2 S dX9_tells_28 rfl ?_
  refine g_aload_n (pc := 29) 0 S dX9_tells_29 rfl ?_
  refine g_getR (pc := 30) S dX9_tells_30 fl_X9_23 k0 ?_
  refine g_alen (pc := 33) (v := (2 : Int32)) S dX9_tells_33 (kf_9_26 k0) (by decide) (by decide) ?_
  refine g_icmp_ge (pc := 34) (tgt := 50) S dX9_tells_34 (by decide) hyp (fun hyp => ?_) (fun hyp => ?_)
  · refine g_aload_n (pc := 37) 0 S dX9_tells_37 rfl ?_
    refine g_getR (pc := 38) S dX9_tells_38 fl_X9_23 k0 ?_
    refine g_iload_n (pc := 41) 2 S dX9_tells_41 rfl ?_
    refine g_iconst (pc := 42) (v := (0 : Int32)) S dX9_tells_42 (by decide) ?_
    refine g_zast (pc := 43) S dX9_tells_43 (kf_9_26 k0) (Or.inl rfl) hyp (fun h3 hyp => ?_)
    refine g_iinc (pc := 44) (v := (a2 + (1 : Int32))) (lv' := [(2, .int (a2 + (1 : Int32))), (0, .ref (ad K c0)), (1, .int a1)]) 2 S dX9_tells_44 rfl (by rfl) (by decide) rfl ?_
    refine g_lti (C := fun v2_4 => Go K (44 + 3) [(2, .int v2_4), (0, .ref (ad K c0)), (1, .int a1)] [] h3) hyp (fun v2_4 hyp => ?_)
    refine g_goto (pc := 47) (tgt := 28) S dX9_tells_47 (by decide) ?_
    have hyp := Option.some.inj hyp
    subst hyp
    exact g_sub [1, 2, 0] rfl (hin (v2_4, h3) rfl)
  · have hyp := Option.some.inj hyp
    subst hyp
    exact g_sub [0, 1] rfl (hex0 h rfl)
set_option maxRecDepth 100000 in
set_option maxHeartbeats 4000000 in
theorem o_X9_tells {K : gK} (S : Cx K RX9 cX9_tells 3 6 165) {c0 : Nat} (k0 : kd c0 (10 + 9, 0))  (h : Hp) {o : Int32 × Hp} (hyp : s_X9_tells c0  h = some o) (F : Rt K (some .int) (some (.int o.1)) o.2) : Go K 0 [(0, .ref (ad K c0))] [] h := by
  unfold s_X9_tells at hyp
  refine g_aload_n (pc := 0) 0 S dX9_tells_0 rfl ?_
  refine g_getR (pc := 1) S dX9_tells_1 fl_X9_30 k0 ?_
  refine g_aload_n (pc := 4) 0 S dX9_tells_4 rfl ?_
  refine g_getR (pc := 5) S dX9_tells_5 fl_X9_16 k0 ?_
  refine g_bind hyp (fun y1 hy1 hyp => ?_)
  refine g_callV (pc := 8) (As := [.ref (ad K (c0 + 7))]) (rest := []) S dX9_tells_8 (kf_9_27 k0) rfl tw_439 tw_440 tw_441 mw_X6_read (m_X6_read (kf_9_27 k0) (kf_9_7 k0)  h hy1) rfl rfl (Nat.le_of_ble_eq_true rfl) (Nat.le_of_ble_eq_true rfl) (Nat.le_of_ble_eq_true rfl) ?_
  refine g_istore_n (pc := 11) (lv' := [(1, .int y1.1), (0, .ref (ad K c0))]) S dX9_tells_11 rfl (by decide) rfl ?_
  refine g_iload_n (pc := 12) 0 S dX9_tells_12 rfl ?_
  refine g_if_ge (pc := 13) (tgt := 18) S dX9_tells_13 (by decide) hyp (fun hyp => ?_) (fun hyp => ?_)
  · refine g_iload_n (pc := 16) 0 S dX9_tells_16 rfl ?_
    have hyp := Option.some.inj hyp
    subst hyp
    exact g_iret (pc := 17) S F dX9_tells_17
  · refine g_aload_n (pc := 18) 1 S dX9_tells_18 rfl ?_
    refine g_getR (pc := 19) S dX9_tells_19 fl_X9_30 k0 ?_
    refine g_iconst (pc := 22) (v := (0 : Int32)) S dX9_tells_22 (by decide) ?_
    refine g_putI (pc := 23) S dX9_tells_23 fl_X9_95 (kf_9_27 k0) hyp (fun h2 hyp => ?_)
    refine g_iconst (pc := 26) (v := (0 : Int32)) S dX9_tells_26 (by decide) ?_
    refine g_istore_n (pc := 27) (lv' := [(2, .int (0 : Int32)), (1, .int y1.1), (0, .ref (ad K c0))]) S dX9_tells_27 rfl (by decide) rfl ?_
    refine g_bind hyp (fun e5 he5 hyp => ?_)
    refine g_sub [2, 1, 0] rfl (g_loop (f := fun s : Int32 × Hp => s_X9_tells_l28 c0 y1.1 s.1 s.2) (ρ := Hp) (Hd := fun s : Int32 × Hp => Go K 28 [(0, .ref (ad K c0)), (1, .int y1.1), (2, .int s.1)] [] s.2) (Ex := fun e5 => Go K 50 [(0, .ref (ad K c0)), (1, .int y1.1)] [] e5) (fun s o h1 h2 h3 => o_X9_tells_l28 S k0 y1.1 s.1 s.2 h1 h2 h3) FUEL _ e5 he5 ?_)
    refine g_aload_n (pc := 50) 0 S dX9_tells_50 rfl ?_
    refine g_getR (pc := 51) S dX9_tells_51 fl_X9_12 k0 ?_
    refine g_aload_n (pc := 54) 0 S dX9_tells_54 rfl ?_
    refine g_getR (pc := 55) S dX9_tells_55 fl_X9_16 k0 ?_
    refine g_bind hyp (fun y6 hy6 hyp => ?_)
    refine g_callV (pc := 58) (As := [.ref (ad K (c0 + 7))]) (rest := []) S dX9_tells_58 (kf_9_1 k0) rfl tw_499 tw_500 tw_501 mw_X5_copy (m_X5_copy (kf_9_1 k0) (kf_9_7 k0)  e5 hy6) rfl rfl (Nat.le_of_ble_eq_true rfl) (Nat.le_of_ble_eq_true rfl) (Nat.le_of_ble_eq_true rfl) ?_
    refine g_aload_n (pc := 61) 0 S dX9_tells_61 rfl ?_
    refine g_bind hyp (fun y7 hy7 hyp => ?_)
    refine g_callV (pc := 62) (As := []) (rest := []) S dX9_tells_62 k0 rfl tw_506 tw_507 tw_9 mw_X9_loadRows (m_X9_loadRows k0  y6 hy7) rfl rfl (Nat.le_of_ble_eq_true rfl) (Nat.le_of_ble_eq_true rfl) (Nat.le_of_ble_eq_true rfl) ?_
    refine g_iload_n (pc := 65) 1 S dX9_tells_65 rfl ?_
    have hyp := Option.some.inj hyp
    subst hyp
    exact g_iret (pc := 66) S F dX9_tells_66
theorem m_X9_tells {l : Launch} {D : va_G} {cT : Nat → ClassId} {aD : Nat → Nat} {c0 : Nat} (k0 : kd c0 (10 + 9, 0))  (h : Hp) {o : Int32 × Hp} (hyp : s_X9_tells c0  h = some o) : Ok l D cT aD yX9_tells cX9_tells 3 (some .int) 6 165 [.ref (aD c0)] h (some (.int o.1)) o.2 :=
  Ok.of (by decide +kernel) rfl (Nat.le_of_ble_eq_true rfl) (fun K e1 e2 e3 e4 S F => by subst e1; exact o_X9_tells S k0  h hyp F)
-- BoundProofs form (III)I
noncomputable def s_X9_form (c0 : Nat) (a1 : Int32) (a2 : Int32) (a3 : Int32) (h : Hp) : Option (Int32 × Hp) :=
  (s_X5_allowsForm (c0 + 1) a1 a2 a3 h).bind fun y1 =>
  if y1 = 0 then (some ((-1 : Int32), h))
  else ((s_X5_addForm (c0 + 1) a1 a2 a3 h).bind fun y2 =>
  if y2.1 = 0 then (some ((-3 : Int32), y2.2))
  else (some (((y2.2.1 (c0 + 1) 1) - (1 : Int32)), y2.2)))
set_option maxRecDepth 100000 in
set_option maxHeartbeats 4000000 in
theorem o_X9_form {K : gK} (S : Cx K RX9 cX9_form 4 2 53) {c0 : Nat} (k0 : kd c0 (10 + 9, 0)) (a1 : Int32) (a2 : Int32) (a3 : Int32) (h : Hp) {o : Int32 × Hp} (hyp : s_X9_form c0 a1 a2 a3 h = some o) (F : Rt K (some .int) (some (.int o.1)) o.2) : Go K 0 [(0, .ref (ad K c0)), (1, .int a1), (2, .int a2), (3, .int a3)] [] h := by
  unfold s_X9_form at hyp
  refine g_aload_n (pc := 0) 0 S dX9_form_0 rfl ?_
  refine g_getR (pc := 1) S dX9_form_1 fl_X9_12 k0 ?_
  refine g_iload_n (pc := 4) 1 S dX9_form_4 rfl ?_
  refine g_iload_n (pc := 5) 2 S dX9_form_5 rfl ?_
  refine g_iload_n (pc := 6) 3 S dX9_form_6 rfl ?_
  refine g_bind hyp (fun y1 hy1 hyp => ?_)
  refine g_callV (pc := 7) (As := [.int a1, .int a2, .int a3]) (rest := []) S dX9_form_7 (kf_9_1 k0) rfl tw_579 tw_482 tw_483 mw_X5_allowsForm (m_X5_allowsForm (kf_9_1 k0) a1 a2 a3 h hy1) rfl rfl (Nat.le_of_ble_eq_true rfl) (Nat.le_of_ble_eq_true rfl) (Nat.le_of_ble_eq_true rfl) ?_
  refine g_if_ne (pc := 10) (tgt := 15) S dX9_form_10 (by decide) hyp (fun hyp => ?_) (fun hyp => ?_)
  · refine g_iconst (pc := 13) (v := (-1 : Int32)) S dX9_form_13 (by decide) ?_
    have hyp := Option.some.inj hyp
    subst hyp
    exact g_iret (pc := 14) S F dX9_form_14
  · refine g_aload_n (pc := 15) 0 S dX9_form_15 rfl ?_
    refine g_getR (pc := 16) S dX9_form_16 fl_X9_12 k0 ?_
    refine g_iload_n (pc := 19) 1 S dX9_form_19 rfl ?_
    refine g_iload_n (pc := 20) 2 S dX9_form_20 rfl ?_
    refine g_iload_n (pc := 21) 3 S dX9_form_21 rfl ?_
    refine g_bind hyp (fun y2 hy2 hyp => ?_)
    refine g_callV (pc := 22) (As := [.int a1, .int a2, .int a3]) (rest := []) S dX9_form_22 (kf_9_1 k0) rfl tw_580 tw_489 tw_490 mw_X5_addForm (m_X5_addForm (kf_9_1 k0) a1 a2 a3 h hy2) rfl rfl (Nat.le_of_ble_eq_true rfl) (Nat.le_of_ble_eq_true rfl) (Nat.le_of_ble_eq_true rfl) ?_
    refine g_if_eq (pc := 25) (tgt := 40) S dX9_form_25 (by decide) hyp (fun hyp => ?_) (fun hyp => ?_)
    · refine g_bipush (pc := 40) (v := (-3 : Int32)) S dX9_form_40 (by decide) ?_
      have hyp := Option.some.inj hyp
      subst hyp
      exact g_iret (pc := 42) S F dX9_form_42
    · refine g_aload_n (pc := 28) 0 S dX9_form_28 rfl ?_
      refine g_getR (pc := 29) S dX9_form_29 fl_X9_12 k0 ?_
      refine g_getI (pc := 32) S dX9_form_32 fl_X9_117 (kf_9_1 k0) ?_
      refine g_iconst (pc := 35) (v := (1 : Int32)) S dX9_form_35 (by decide) ?_
      refine g_isub (pc := 36) S dX9_form_36 ?_
      refine g_goto (pc := 37) (tgt := 42) S dX9_form_37 (by decide) ?_
      have hyp := Option.some.inj hyp
      subst hyp
      exact g_iret (pc := 42) S F dX9_form_42
theorem m_X9_form {l : Launch} {D : va_G} {cT : Nat → ClassId} {aD : Nat → Nat} {c0 : Nat} (k0 : kd c0 (10 + 9, 0)) (a1 : Int32) (a2 : Int32) (a3 : Int32) (h : Hp) {o : Int32 × Hp} (hyp : s_X9_form c0 a1 a2 a3 h = some o) : Ok l D cT aD yX9_form cX9_form 4 (some .int) 2 53 [.ref (aD c0), .int a1, .int a2, .int a3] h (some (.int o.1)) o.2 :=
  Ok.of (by decide +kernel) rfl (Nat.le_of_ble_eq_true rfl) (fun K e1 e2 e3 e4 S F => by subst e1; exact o_X9_form S k0 a1 a2 a3 h hyp F)
-- BoundProofs coefficient (II)I
noncomputable def s_X9_coefficient (c0 : Nat) (a1 : Int32) (a2 : Int32) (h : Hp) : Option (Int32) :=
  (s_X5_hasForm (c0 + 1) a1 h).bind fun y1 =>
  if y1 = 0 then (some (-1 : Int32))
  else ((s_X5_hasVariable (c0 + 1) a2 h).bind fun y2 =>
  if y2 = 0 then (some (-1 : Int32))
  else ((s_X5_entry (c0 + 1) a1 a2 h).bind fun y3 =>
  some (y3 + (10 : Int32))))
set_option maxRecDepth 100000 in
set_option maxHeartbeats 4000000 in
theorem o_X9_coefficient {K : gK} (S : Cx K RX9 cX9_coefficient 3 2 51) {c0 : Nat} (k0 : kd c0 (10 + 9, 0)) (a1 : Int32) (a2 : Int32) (h : Hp) {o : Int32} (hyp : s_X9_coefficient c0 a1 a2 h = some o) (F : Rt K (some .int) (some (.int o)) h) : Go K 0 [(0, .ref (ad K c0)), (1, .int a1), (2, .int a2)] [] h := by
  unfold s_X9_coefficient at hyp
  refine g_aload_n (pc := 0) 0 S dX9_coefficient_0 rfl ?_
  refine g_getR (pc := 1) S dX9_coefficient_1 fl_X9_12 k0 ?_
  refine g_iload_n (pc := 4) 1 S dX9_coefficient_4 rfl ?_
  refine g_bind hyp (fun y1 hy1 hyp => ?_)
  refine g_callV (pc := 5) (As := [.int a1]) (rest := []) S dX9_coefficient_5 (kf_9_1 k0) rfl tw_585 tw_521 tw_522 mw_X5_hasForm (m_X5_hasForm (kf_9_1 k0) a1 h hy1) rfl rfl (Nat.le_of_ble_eq_true rfl) (Nat.le_of_ble_eq_true rfl) (Nat.le_of_ble_eq_true rfl) ?_
  refine g_if_eq (pc := 8) (tgt := 22) S dX9_coefficient_8 (by decide) hyp (fun hyp => ?_) (fun hyp => ?_)
  · refine g_iconst (pc := 22) (v := (-1 : Int32)) S dX9_coefficient_22 (by decide) ?_
    have hyp := Option.some.inj hyp
    subst hyp
    exact g_iret (pc := 23) S F dX9_coefficient_23
  · refine g_aload_n (pc := 11) 0 S dX9_coefficient_11 rfl ?_
    refine g_getR (pc := 12) S dX9_coefficient_12 fl_X9_12 k0 ?_
    refine g_iload_n (pc := 15) 2 S dX9_coefficient_15 rfl ?_
    refine g_bind hyp (fun y2 hy2 hyp => ?_)
    refine g_callV (pc := 16) (As := [.int a2]) (rest := []) S dX9_coefficient_16 (kf_9_1 k0) rfl tw_586 tw_478 tw_479 mw_X5_hasVariable (m_X5_hasVariable (kf_9_1 k0) a2 h hy2) rfl rfl (Nat.le_of_ble_eq_true rfl) (Nat.le_of_ble_eq_true rfl) (Nat.le_of_ble_eq_true rfl) ?_
    refine g_if_ne (pc := 19) (tgt := 24) S dX9_coefficient_19 (by decide) hyp (fun hyp => ?_) (fun hyp => ?_)
    · refine g_iconst (pc := 22) (v := (-1 : Int32)) S dX9_coefficient_22 (by decide) ?_
      have hyp := Option.some.inj hyp
      subst hyp
      exact g_iret (pc := 23) S F dX9_coefficient_23
    · refine g_aload_n (pc := 24) 0 S dX9_coefficient_24 rfl ?_
      refine g_getR (pc := 25) S dX9_coefficient_25 fl_X9_12 k0 ?_
      refine g_iload_n (pc := 28) 1 S dX9_coefficient_28 rfl ?_
      refine g_iload_n (pc := 29) 2 S dX9_coefficient_29 rfl ?_
      refine g_bind hyp (fun y3 hy3 hyp => ?_)
      refine g_callV (pc := 30) (As := [.int a1, .int a2]) (rest := []) S dX9_coefficient_30 (kf_9_1 k0) rfl tw_516 tw_517 tw_518 mw_X5_entry (m_X5_entry (kf_9_1 k0) a1 a2 h hy3) rfl rfl (Nat.le_of_ble_eq_true rfl) (Nat.le_of_ble_eq_true rfl) (Nat.le_of_ble_eq_true rfl) ?_
      refine g_bipush (pc := 33) (v := (10 : Int32)) S dX9_coefficient_33 (by decide) ?_
      refine g_iadd (pc := 35) S dX9_coefficient_35 ?_
      have hyp := Option.some.inj hyp
      subst hyp
      exact g_iret (pc := 36) S F dX9_coefficient_36
theorem m_X9_coefficient {l : Launch} {D : va_G} {cT : Nat → ClassId} {aD : Nat → Nat} {c0 : Nat} (k0 : kd c0 (10 + 9, 0)) (a1 : Int32) (a2 : Int32) (h : Hp) {o : Int32} (hyp : s_X9_coefficient c0 a1 a2 h = some o) : Ok l D cT aD yX9_coefficient cX9_coefficient 3 (some .int) 2 51 [.ref (aD c0), .int a1, .int a2] h (some (.int o)) h :=
  Ok.of (by decide +kernel) rfl (Nat.le_of_ble_eq_true rfl) (fun K e1 e2 e3 e4 S F => by subst e1; exact o_X9_coefficient S k0 a1 a2 h hyp F)
-- BoundProofs$Problem allowsConstraint (III)Z
noncomputable def s_X5_allowsConstraint (c0 : Nat) (a1 : Int32) (a2 : Int32) (a3 : Int32) (h : Hp) : Option (Int32) :=
  (s_X5_hasForm c0 a1 h).bind fun y1 =>
  if y1 = 0 then (some (0 : Int32))
  else (if a2 < 0 then (some (0 : Int32))
  else (if (4 : Int32) < a2 then (some (0 : Int32))
  else (if a3 < (-50 : Int32) then (some (0 : Int32))
  else (if (50 : Int32) < a3 then (some (0 : Int32))
  else (some (1 : Int32))))))
set_option maxRecDepth 100000 in
set_option maxHeartbeats 4000000 in
theorem o_X5_allowsConstraint {K : gK} (S : Cx K RX5 cX5_allowsConstraint 4 1 25) {c0 : Nat} (k0 : kd c0 (10 + 5, 0)) (a1 : Int32) (a2 : Int32) (a3 : Int32) (h : Hp) {o : Int32} (hyp : s_X5_allowsConstraint c0 a1 a2 a3 h = some o) (F : Rt K (some .boolean) (some (.int o)) h) : Go K 0 [(0, .ref (ad K c0)), (1, .int a1), (2, .int a2), (3, .int a3)] [] h := by
  unfold s_X5_allowsConstraint at hyp
  refine g_aload_n (pc := 0) 0 S dX5_allowsConstraint_0 rfl ?_
  refine g_iload_n (pc := 1) 1 S dX5_allowsConstraint_1 rfl ?_
  refine g_bind hyp (fun y1 hy1 hyp => ?_)
  refine g_callV (pc := 2) (As := [.int a1]) (rest := []) S dX5_allowsConstraint_2 k0 rfl tw_520 tw_521 tw_522 mw_X5_hasForm (m_X5_hasForm k0 a1 h hy1) rfl rfl (Nat.le_of_ble_eq_true rfl) (Nat.le_of_ble_eq_true rfl) (Nat.le_of_ble_eq_true rfl) ?_
  refine g_if_eq (pc := 5) (tgt := 33) S dX5_allowsConstraint_5 (by decide) hyp (fun hyp => ?_) (fun hyp => ?_)
  · refine g_iconst (pc := 33) (v := (0 : Int32)) S dX5_allowsConstraint_33 (by decide) ?_
    have hyp := Option.some.inj hyp
    subst hyp
    exact g_zret (pc := 34) S F dX5_allowsConstraint_34 (Or.inl rfl)
  · refine g_iload_n (pc := 8) 2 S dX5_allowsConstraint_8 rfl ?_
    refine g_if_lt (pc := 9) (tgt := 33) S dX5_allowsConstraint_9 (by decide) hyp (fun hyp => ?_) (fun hyp => ?_)
    · refine g_iconst (pc := 33) (v := (0 : Int32)) S dX5_allowsConstraint_33 (by decide) ?_
      have hyp := Option.some.inj hyp
      subst hyp
      exact g_zret (pc := 34) S F dX5_allowsConstraint_34 (Or.inl rfl)
    · refine g_iload_n (pc := 12) 2 S dX5_allowsConstraint_12 rfl ?_
      refine g_iconst (pc := 13) (v := (4 : Int32)) S dX5_allowsConstraint_13 (by decide) ?_
      refine g_icmp_gt (pc := 14) (tgt := 33) S dX5_allowsConstraint_14 (by decide) hyp (fun hyp => ?_) (fun hyp => ?_)
      · refine g_iconst (pc := 33) (v := (0 : Int32)) S dX5_allowsConstraint_33 (by decide) ?_
        have hyp := Option.some.inj hyp
        subst hyp
        exact g_zret (pc := 34) S F dX5_allowsConstraint_34 (Or.inl rfl)
      · refine g_iload_n (pc := 17) 3 S dX5_allowsConstraint_17 rfl ?_
        refine g_bipush (pc := 18) (v := (-50 : Int32)) S dX5_allowsConstraint_18 (by decide) ?_
        refine g_icmp_lt (pc := 20) (tgt := 33) S dX5_allowsConstraint_20 (by decide) hyp (fun hyp => ?_) (fun hyp => ?_)
        · refine g_iconst (pc := 33) (v := (0 : Int32)) S dX5_allowsConstraint_33 (by decide) ?_
          have hyp := Option.some.inj hyp
          subst hyp
          exact g_zret (pc := 34) S F dX5_allowsConstraint_34 (Or.inl rfl)
        · refine g_iload_n (pc := 23) 3 S dX5_allowsConstraint_23 rfl ?_
          refine g_bipush (pc := 24) (v := (50 : Int32)) S dX5_allowsConstraint_24 (by decide) ?_
          refine g_icmp_gt (pc := 26) (tgt := 33) S dX5_allowsConstraint_26 (by decide) hyp (fun hyp => ?_) (fun hyp => ?_)
          · refine g_iconst (pc := 33) (v := (0 : Int32)) S dX5_allowsConstraint_33 (by decide) ?_
            have hyp := Option.some.inj hyp
            subst hyp
            exact g_zret (pc := 34) S F dX5_allowsConstraint_34 (Or.inl rfl)
          · refine g_iconst (pc := 29) (v := (1 : Int32)) S dX5_allowsConstraint_29 (by decide) ?_
            refine g_goto (pc := 30) (tgt := 34) S dX5_allowsConstraint_30 (by decide) ?_
            have hyp := Option.some.inj hyp
            subst hyp
            exact g_zret (pc := 34) S F dX5_allowsConstraint_34 (Or.inr rfl)
theorem m_X5_allowsConstraint {l : Launch} {D : va_G} {cT : Nat → ClassId} {aD : Nat → Nat} {c0 : Nat} (k0 : kd c0 (10 + 5, 0)) (a1 : Int32) (a2 : Int32) (a3 : Int32) (h : Hp) {o : Int32} (hyp : s_X5_allowsConstraint c0 a1 a2 a3 h = some o) : Ok l D cT aD yX5_allowsConstraint cX5_allowsConstraint 4 (some .boolean) 1 25 [.ref (aD c0), .int a1, .int a2, .int a3] h (some (.int o)) h :=
  Ok.of (by decide +kernel) rfl (Nat.le_of_ble_eq_true rfl) (fun K e1 e2 e3 e4 S F => by subst e1; exact o_X5_allowsConstraint S k0 a1 a2 a3 h hyp F)
-- BoundProofs asserts (III)I
noncomputable def s_X9_asserts (c0 : Nat) (a1 : Int32) (a2 : Int32) (a3 : Int32) (h : Hp) : Option (Int32 × Hp) :=
  (s_X5_allowsConstraint (c0 + 1) a1 a2 a3 h).bind fun y1 =>
  if y1 = 0 then (some ((-1 : Int32), h))
  else ((s_X5_addConstraint (c0 + 1) a1 a2 a3 h).bind fun y2 =>
  if y2.1 = 0 then (some ((-3 : Int32), y2.2))
  else ((s_X9_pushRow c0 a1 a2 a3 y2.2).bind fun y3 =>
  some (((y3.1 (c0 + 1) 2) - (1 : Int32)), y3)))
set_option maxRecDepth 100000 in
set_option maxHeartbeats 4000000 in
theorem o_X9_asserts {K : gK} (S : Cx K RX9 cX9_asserts 4 5 140) {c0 : Nat} (k0 : kd c0 (10 + 9, 0)) (a1 : Int32) (a2 : Int32) (a3 : Int32) (h : Hp) {o : Int32 × Hp} (hyp : s_X9_asserts c0 a1 a2 a3 h = some o) (F : Rt K (some .int) (some (.int o.1)) o.2) : Go K 0 [(0, .ref (ad K c0)), (1, .int a1), (2, .int a2), (3, .int a3)] [] h := by
  unfold s_X9_asserts at hyp
  refine g_aload_n (pc := 0) 0 S dX9_asserts_0 rfl ?_
  refine g_getR (pc := 1) S dX9_asserts_1 fl_X9_12 k0 ?_
  refine g_iload_n (pc := 4) 1 S dX9_asserts_4 rfl ?_
  refine g_iload_n (pc := 5) 2 S dX9_asserts_5 rfl ?_
  refine g_iload_n (pc := 6) 3 S dX9_asserts_6 rfl ?_
  refine g_bind hyp (fun y1 hy1 hyp => ?_)
  refine g_callV (pc := 7) (As := [.int a1, .int a2, .int a3]) (rest := []) S dX9_asserts_7 (kf_9_1 k0) rfl tw_591 tw_592 tw_593 mw_X5_allowsConstraint (m_X5_allowsConstraint (kf_9_1 k0) a1 a2 a3 h hy1) rfl rfl (Nat.le_of_ble_eq_true rfl) (Nat.le_of_ble_eq_true rfl) (Nat.le_of_ble_eq_true rfl) ?_
  refine g_if_ne (pc := 10) (tgt := 15) S dX9_asserts_10 (by decide) hyp (fun hyp => ?_) (fun hyp => ?_)
  · refine g_iconst (pc := 13) (v := (-1 : Int32)) S dX9_asserts_13 (by decide) ?_
    have hyp := Option.some.inj hyp
    subst hyp
    exact g_iret (pc := 14) S F dX9_asserts_14
  · refine g_aload_n (pc := 15) 0 S dX9_asserts_15 rfl ?_
    refine g_getR (pc := 16) S dX9_asserts_16 fl_X9_12 k0 ?_
    refine g_iload_n (pc := 19) 1 S dX9_asserts_19 rfl ?_
    refine g_iload_n (pc := 20) 2 S dX9_asserts_20 rfl ?_
    refine g_iload_n (pc := 21) 3 S dX9_asserts_21 rfl ?_
    refine g_bind hyp (fun y2 hy2 hyp => ?_)
    refine g_callV (pc := 22) (As := [.int a1, .int a2, .int a3]) (rest := []) S dX9_asserts_22 (kf_9_1 k0) rfl tw_595 tw_496 tw_497 mw_X5_addConstraint (m_X5_addConstraint (kf_9_1 k0) a1 a2 a3 h hy2) rfl rfl (Nat.le_of_ble_eq_true rfl) (Nat.le_of_ble_eq_true rfl) (Nat.le_of_ble_eq_true rfl) ?_
    refine g_if_ne (pc := 25) (tgt := 31) S dX9_asserts_25 (by decide) hyp (fun hyp => ?_) (fun hyp => ?_)
    · refine g_bipush (pc := 28) (v := (-3 : Int32)) S dX9_asserts_28 (by decide) ?_
      have hyp := Option.some.inj hyp
      subst hyp
      exact g_iret (pc := 30) S F dX9_asserts_30
    · refine g_aload_n (pc := 31) 0 S dX9_asserts_31 rfl ?_
      refine g_iload_n (pc := 32) 1 S dX9_asserts_32 rfl ?_
      refine g_iload_n (pc := 33) 2 S dX9_asserts_33 rfl ?_
      refine g_iload_n (pc := 34) 3 S dX9_asserts_34 rfl ?_
      refine g_bind hyp (fun y3 hy3 hyp => ?_)
      refine g_callV (pc := 35) (As := [.int a1, .int a2, .int a3]) (rest := []) S dX9_asserts_35 k0 rfl tw_513 tw_514 tw_10 mw_X9_pushRow (m_X9_pushRow k0 a1 a2 a3 y2.2 hy3) rfl rfl (Nat.le_of_ble_eq_true rfl) (Nat.le_of_ble_eq_true rfl) (Nat.le_of_ble_eq_true rfl) ?_
      refine g_aload_n (pc := 38) 0 S dX9_asserts_38 rfl ?_
      refine g_getR (pc := 39) S dX9_asserts_39 fl_X9_12 k0 ?_
      refine g_getI (pc := 42) S dX9_asserts_42 fl_X9_140 (kf_9_1 k0) ?_
      refine g_iconst (pc := 45) (v := (1 : Int32)) S dX9_asserts_45 (by decide) ?_
      refine g_isub (pc := 46) S dX9_asserts_46 ?_
      have hyp := Option.some.inj hyp
      subst hyp
      exact g_iret (pc := 47) S F dX9_asserts_47
theorem m_X9_asserts {l : Launch} {D : va_G} {cT : Nat → ClassId} {aD : Nat → Nat} {c0 : Nat} (k0 : kd c0 (10 + 9, 0)) (a1 : Int32) (a2 : Int32) (a3 : Int32) (h : Hp) {o : Int32 × Hp} (hyp : s_X9_asserts c0 a1 a2 a3 h = some o) : Ok l D cT aD yX9_asserts cX9_asserts 4 (some .int) 5 140 [.ref (aD c0), .int a1, .int a2, .int a3] h (some (.int o.1)) o.2 :=
  Ok.of (by decide +kernel) rfl (Nat.le_of_ble_eq_true rfl) (fun K e1 e2 e3 e4 S F => by subst e1; exact o_X9_asserts S k0 a1 a2 a3 h hyp F)
-- BoundProofs$Problem hasConstraint (I)Z
noncomputable def s_X5_hasConstraint (c0 : Nat) (a1 : Int32) (h : Hp) : Option (Int32) :=
  if a1 < 0 then (some (0 : Int32))
  else (if a1 < (h.1 c0 2) then (some (1 : Int32))
  else (some (0 : Int32)))
set_option maxRecDepth 100000 in
set_option maxHeartbeats 4000000 in
theorem o_X5_hasConstraint {K : gK} (S : Cx K RX5 cX5_hasConstraint 2 0 0) {c0 : Nat} (k0 : kd c0 (10 + 5, 0)) (a1 : Int32) (h : Hp) {o : Int32} (hyp : s_X5_hasConstraint c0 a1 h = some o) (F : Rt K (some .boolean) (some (.int o)) h) : Go K 0 [(0, .ref (ad K c0)), (1, .int a1)] [] h := by
  unfold s_X5_hasConstraint at hyp
  refine g_iload_n (pc := 0) 1 S dX5_hasConstraint_0 rfl ?_
  refine g_if_lt (pc := 1) (tgt := 16) S dX5_hasConstraint_1 (by decide) hyp (fun hyp => ?_) (fun hyp => ?_)
  · refine g_iconst (pc := 16) (v := (0 : Int32)) S dX5_hasConstraint_16 (by decide) ?_
    have hyp := Option.some.inj hyp
    subst hyp
    exact g_zret (pc := 17) S F dX5_hasConstraint_17 (Or.inl rfl)
  · refine g_iload_n (pc := 4) 1 S dX5_hasConstraint_4 rfl ?_
    refine g_aload_n (pc := 5) 0 S dX5_hasConstraint_5 rfl ?_
    refine g_getI (pc := 6) S dX5_hasConstraint_6 fl_X5_18 k0 ?_
    refine g_icmp_ge (pc := 9) (tgt := 16) S dX5_hasConstraint_9 (by decide) hyp (fun hyp => ?_) (fun hyp => ?_)
    · refine g_iconst (pc := 12) (v := (1 : Int32)) S dX5_hasConstraint_12 (by decide) ?_
      refine g_goto (pc := 13) (tgt := 17) S dX5_hasConstraint_13 (by decide) ?_
      have hyp := Option.some.inj hyp
      subst hyp
      exact g_zret (pc := 17) S F dX5_hasConstraint_17 (Or.inr rfl)
    · refine g_iconst (pc := 16) (v := (0 : Int32)) S dX5_hasConstraint_16 (by decide) ?_
      have hyp := Option.some.inj hyp
      subst hyp
      exact g_zret (pc := 17) S F dX5_hasConstraint_17 (Or.inl rfl)
theorem m_X5_hasConstraint {l : Launch} {D : va_G} {cT : Nat → ClassId} {aD : Nat → Nat} {c0 : Nat} (k0 : kd c0 (10 + 5, 0)) (a1 : Int32) (h : Hp) {o : Int32} (hyp : s_X5_hasConstraint c0 a1 h = some o) : Ok l D cT aD yX5_hasConstraint cX5_hasConstraint 2 (some .boolean) 0 0 [.ref (aD c0), .int a1] h (some (.int o)) h :=
  Ok.of (by decide +kernel) rfl (Nat.le_of_ble_eq_true rfl) (fun K e1 e2 e3 e4 S F => by subst e1; exact o_X5_hasConstraint S k0 a1 h hyp F)
-- BoundProofs bound (II)I
noncomputable def s_X9_bound (c0 : Nat) (a1 : Int32) (a2 : Int32) (h : Hp) : Option (Int32) :=
  (s_X5_hasConstraint (c0 + 1) a1 h).bind fun y1 =>
  if y1 = 0 then (some (-1 : Int32))
  else (if a2 < 0 then (some (-1 : Int32))
  else (if (2 : Int32) < a2 then (some (-1 : Int32))
  else (if a2 = 0 then (ldI h ((c0 + 1) + 2) 10 a1 fun x2 =>
  some x2)
  else (if a2 = (1 : Int32) then (ldI h ((c0 + 1) + 3) 10 a1 fun x3 =>
  some x3)
  else (ldI h ((c0 + 1) + 4) 10 a1 fun x4 =>
  some (x4 + (100 : Int32)))))))
set_option maxRecDepth 100000 in
set_option maxHeartbeats 4000000 in
theorem o_X9_bound {K : gK} (S : Cx K RX9 cX9_bound 3 1 25) {c0 : Nat} (k0 : kd c0 (10 + 9, 0)) (a1 : Int32) (a2 : Int32) (h : Hp) {o : Int32} (hyp : s_X9_bound c0 a1 a2 h = some o) (F : Rt K (some .int) (some (.int o)) h) : Go K 0 [(0, .ref (ad K c0)), (1, .int a1), (2, .int a2)] [] h := by
  unfold s_X9_bound at hyp
  refine g_aload_n (pc := 0) 0 S dX9_bound_0 rfl ?_
  refine g_getR (pc := 1) S dX9_bound_1 fl_X9_12 k0 ?_
  refine g_iload_n (pc := 4) 1 S dX9_bound_4 rfl ?_
  refine g_bind hyp (fun y1 hy1 hyp => ?_)
  refine g_callV (pc := 5) (As := [.int a1]) (rest := []) S dX9_bound_5 (kf_9_1 k0) rfl tw_600 tw_601 tw_602 mw_X5_hasConstraint (m_X5_hasConstraint (kf_9_1 k0) a1 h hy1) rfl rfl (Nat.le_of_ble_eq_true rfl) (Nat.le_of_ble_eq_true rfl) (Nat.le_of_ble_eq_true rfl) ?_
  refine g_if_eq (pc := 8) (tgt := 20) S dX9_bound_8 (by decide) hyp (fun hyp => ?_) (fun hyp => ?_)
  · refine g_iconst (pc := 20) (v := (-1 : Int32)) S dX9_bound_20 (by decide) ?_
    have hyp := Option.some.inj hyp
    subst hyp
    exact g_iret (pc := 21) S F dX9_bound_21
  · refine g_iload_n (pc := 11) 2 S dX9_bound_11 rfl ?_
    refine g_if_lt (pc := 12) (tgt := 20) S dX9_bound_12 (by decide) hyp (fun hyp => ?_) (fun hyp => ?_)
    · refine g_iconst (pc := 20) (v := (-1 : Int32)) S dX9_bound_20 (by decide) ?_
      have hyp := Option.some.inj hyp
      subst hyp
      exact g_iret (pc := 21) S F dX9_bound_21
    · refine g_iload_n (pc := 15) 2 S dX9_bound_15 rfl ?_
      refine g_iconst (pc := 16) (v := (2 : Int32)) S dX9_bound_16 (by decide) ?_
      refine g_icmp_le (pc := 17) (tgt := 22) S dX9_bound_17 (by decide) hyp (fun hyp => ?_) (fun hyp => ?_)
      · refine g_iconst (pc := 20) (v := (-1 : Int32)) S dX9_bound_20 (by decide) ?_
        have hyp := Option.some.inj hyp
        subst hyp
        exact g_iret (pc := 21) S F dX9_bound_21
      · refine g_iload_n (pc := 22) 2 S dX9_bound_22 rfl ?_
        refine g_if_ne (pc := 23) (tgt := 36) S dX9_bound_23 (by decide) hyp (fun hyp => ?_) (fun hyp => ?_)
        · refine g_aload_n (pc := 26) 0 S dX9_bound_26 rfl ?_
          refine g_getR (pc := 27) S dX9_bound_27 fl_X9_12 k0 ?_
          refine g_getR (pc := 30) S dX9_bound_30 fl_X9_146 (kf_9_1 k0) ?_
          refine g_iload_n (pc := 33) 1 S dX9_bound_33 rfl ?_
          refine g_iald (pc := 34) S dX9_bound_34 (kf_5_2 (kf_9_1 k0)) hyp (fun x2 hyp => ?_)
          have hyp := Option.some.inj hyp
          subst hyp
          exact g_iret (pc := 35) S F dX9_bound_35
        · refine g_iload_n (pc := 36) 2 S dX9_bound_36 rfl ?_
          refine g_iconst (pc := 37) (v := (1 : Int32)) S dX9_bound_37 (by decide) ?_
          refine g_icmp_ne (pc := 38) (tgt := 53) S dX9_bound_38 (by decide) hyp (fun hyp => ?_) (fun hyp => ?_)
          · refine g_aload_n (pc := 41) 0 S dX9_bound_41 rfl ?_
            refine g_getR (pc := 42) S dX9_bound_42 fl_X9_12 k0 ?_
            refine g_getR (pc := 45) S dX9_bound_45 fl_X9_150 (kf_9_1 k0) ?_
            refine g_iload_n (pc := 48) 1 S dX9_bound_48 rfl ?_
            refine g_iald (pc := 49) S dX9_bound_49 (kf_5_3 (kf_9_1 k0)) hyp (fun x3 hyp => ?_)
            refine g_goto (pc := 50) (tgt := 65) S dX9_bound_50 (by decide) ?_
            have hyp := Option.some.inj hyp
            subst hyp
            exact g_iret (pc := 65) S F dX9_bound_65
          · refine g_aload_n (pc := 53) 0 S dX9_bound_53 rfl ?_
            refine g_getR (pc := 54) S dX9_bound_54 fl_X9_12 k0 ?_
            refine g_getR (pc := 57) S dX9_bound_57 fl_X9_153 (kf_9_1 k0) ?_
            refine g_iload_n (pc := 60) 1 S dX9_bound_60 rfl ?_
            refine g_iald (pc := 61) S dX9_bound_61 (kf_5_4 (kf_9_1 k0)) hyp (fun x4 hyp => ?_)
            refine g_bipush (pc := 62) (v := (100 : Int32)) S dX9_bound_62 (by decide) ?_
            refine g_iadd (pc := 64) S dX9_bound_64 ?_
            have hyp := Option.some.inj hyp
            subst hyp
            exact g_iret (pc := 65) S F dX9_bound_65
theorem m_X9_bound {l : Launch} {D : va_G} {cT : Nat → ClassId} {aD : Nat → Nat} {c0 : Nat} (k0 : kd c0 (10 + 9, 0)) (a1 : Int32) (a2 : Int32) (h : Hp) {o : Int32} (hyp : s_X9_bound c0 a1 a2 h = some o) : Ok l D cT aD yX9_bound cX9_bound 3 (some .int) 1 25 [.ref (aD c0), .int a1, .int a2] h (some (.int o)) h :=
  Ok.of (by decide +kernel) rfl (Nat.le_of_ble_eq_true rfl) (fun K e1 e2 e3 e4 S F => by subst e1; exact o_X9_bound S k0 a1 a2 h hyp F)
-- BoundProofs level ()I
noncomputable def s_X9_level (c0 : Nat)  (h : Hp) : Option (Int32 × Hp) :=
  if (h.1 (c0 + 1) 3) < (4 : Int32) then (stI h ((c0 + 1) + 5) 4 (h.1 (c0 + 1) 3) (h.1 (c0 + 1) 2) fun h1 =>
  lt (sI h1 (c0 + 1) 3 ((h1.1 (c0 + 1) 3) + (1 : Int32))) fun h2 =>
  some ((h2.1 (c0 + 1) 3), h2))
  else (some ((-3 : Int32), h))
set_option maxRecDepth 100000 in
set_option maxHeartbeats 4000000 in
theorem o_X9_level {K : gK} (S : Cx K RX9 cX9_level 1 0 0) {c0 : Nat} (k0 : kd c0 (10 + 9, 0))  (h : Hp) {o : Int32 × Hp} (hyp : s_X9_level c0  h = some o) (F : Rt K (some .int) (some (.int o.1)) o.2) : Go K 0 [(0, .ref (ad K c0))] [] h := by
  unfold s_X9_level at hyp
  refine g_aload_n (pc := 0) 0 S dX9_level_0 rfl ?_
  refine g_getR (pc := 1) S dX9_level_1 fl_X9_12 k0 ?_
  refine g_getI (pc := 4) S dX9_level_4 fl_X9_156 (kf_9_1 k0) ?_
  refine g_iconst (pc := 7) (v := (4 : Int32)) S dX9_level_7 (by decide) ?_
  refine g_icmp_lt (pc := 8) (tgt := 14) S dX9_level_8 (by decide) hyp (fun hyp => ?_) (fun hyp => ?_)
  · refine g_aload_n (pc := 14) 0 S dX9_level_14 rfl ?_
    refine g_getR (pc := 15) S dX9_level_15 fl_X9_12 k0 ?_
    refine g_getR (pc := 18) S dX9_level_18 fl_X9_159 (kf_9_1 k0) ?_
    refine g_aload_n (pc := 21) 0 S dX9_level_21 rfl ?_
    refine g_getR (pc := 22) S dX9_level_22 fl_X9_12 k0 ?_
    refine g_getI (pc := 25) S dX9_level_25 fl_X9_156 (kf_9_1 k0) ?_
    refine g_aload_n (pc := 28) 0 S dX9_level_28 rfl ?_
    refine g_getR (pc := 29) S dX9_level_29 fl_X9_12 k0 ?_
    refine g_getI (pc := 32) S dX9_level_32 fl_X9_140 (kf_9_1 k0) ?_
    refine g_iast (pc := 35) S dX9_level_35 (kf_5_5 (kf_9_1 k0)) hyp (fun h1 hyp => ?_)
    refine g_aload_n (pc := 36) 0 S dX9_level_36 rfl ?_
    refine g_getR (pc := 37) S dX9_level_37 fl_X9_12 k0 ?_
    refine g_dup (pc := 40) S dX9_level_40 rfl ?_
    refine g_getI (pc := 41) S dX9_level_41 fl_X9_156 (kf_9_1 k0) ?_
    refine g_iconst (pc := 44) (v := (1 : Int32)) S dX9_level_44 (by decide) ?_
    refine g_iadd (pc := 45) S dX9_level_45 ?_
    refine g_putI (pc := 46) S dX9_level_46 fl_X9_156 (kf_9_1 k0) hyp (fun h2 hyp => ?_)
    refine g_aload_n (pc := 49) 0 S dX9_level_49 rfl ?_
    refine g_getR (pc := 50) S dX9_level_50 fl_X9_12 k0 ?_
    refine g_getI (pc := 53) S dX9_level_53 fl_X9_156 (kf_9_1 k0) ?_
    have hyp := Option.some.inj hyp
    subst hyp
    exact g_iret (pc := 56) S F dX9_level_56
  · refine g_bipush (pc := 11) (v := (-3 : Int32)) S dX9_level_11 (by decide) ?_
    have hyp := Option.some.inj hyp
    subst hyp
    exact g_iret (pc := 13) S F dX9_level_13
theorem m_X9_level {l : Launch} {D : va_G} {cT : Nat → ClassId} {aD : Nat → Nat} {c0 : Nat} (k0 : kd c0 (10 + 9, 0))  (h : Hp) {o : Int32 × Hp} (hyp : s_X9_level c0  h = some o) : Ok l D cT aD yX9_level cX9_level 1 (some .int) 0 0 [.ref (aD c0)] h (some (.int o.1)) o.2 :=
  Ok.of (by decide +kernel) rfl (Nat.le_of_ble_eq_true rfl) (fun K e1 e2 e3 e4 S F => by subst e1; exact o_X9_level S k0  h hyp F)
-- BoundProofs$Rows cut (I)V
noncomputable def s_X7_cut (c0 : Nat) (a1 : Int32) (h : Hp) : Option (Hp) :=
  if a1 < 0 then (some h)
  else (if a1 < (h.1 c0 4) then (lt (sI h c0 4 a1) fun h1 =>
  some h1)
  else (some h))
set_option maxRecDepth 100000 in
set_option maxHeartbeats 4000000 in
theorem o_X7_cut {K : gK} (S : Cx K RX7 cX7_cut 2 0 0) {c0 : Nat} (k0 : kd c0 (10 + 7, 0)) (a1 : Int32) (h : Hp) {o : Hp} (hyp : s_X7_cut c0 a1 h = some o) (F : Rt K none none o) : Go K 0 [(0, .ref (ad K c0)), (1, .int a1)] [] h := by
  unfold s_X7_cut at hyp
  refine g_iload_n (pc := 0) 1 S dX7_cut_0 rfl ?_
  refine g_if_lt (pc := 1) (tgt := 17) S dX7_cut_1 (by decide) hyp (fun hyp => ?_) (fun hyp => ?_)
  · have hyp := Option.some.inj hyp
    subst hyp
    exact g_vret (pc := 17) S F dX7_cut_17
  · refine g_iload_n (pc := 4) 1 S dX7_cut_4 rfl ?_
    refine g_aload_n (pc := 5) 0 S dX7_cut_5 rfl ?_
    refine g_getI (pc := 6) S dX7_cut_6 fl_X7_26 k0 ?_
    refine g_icmp_ge (pc := 9) (tgt := 17) S dX7_cut_9 (by decide) hyp (fun hyp => ?_) (fun hyp => ?_)
    · refine g_aload_n (pc := 12) 0 S dX7_cut_12 rfl ?_
      refine g_iload_n (pc := 13) 1 S dX7_cut_13 rfl ?_
      refine g_putI (pc := 14) S dX7_cut_14 fl_X7_26 k0 hyp (fun h1 hyp => ?_)
      have hyp := Option.some.inj hyp
      subst hyp
      exact g_vret (pc := 17) S F dX7_cut_17
    · have hyp := Option.some.inj hyp
      subst hyp
      exact g_vret (pc := 17) S F dX7_cut_17
theorem m_X7_cut {l : Launch} {D : va_G} {cT : Nat → ClassId} {aD : Nat → Nat} {c0 : Nat} (k0 : kd c0 (10 + 7, 0)) (a1 : Int32) (h : Hp) {o : Hp} (hyp : s_X7_cut c0 a1 h = some o) : Ok l D cT aD yX7_cut cX7_cut 2 none 0 0 [.ref (aD c0), .int a1] h none o :=
  Ok.of (by decide +kernel) rfl (Nat.le_of_ble_eq_true rfl) (fun K e1 e2 e3 e4 S F => by subst e1; exact o_X7_cut S k0 a1 h hyp F)
-- BoundProofs withdraws (I)I
noncomputable def s_X9_withdraws (c0 : Nat) (a1 : Int32) (h : Hp) : Option (Int32 × Hp) :=
  if a1 < (1 : Int32) then (some ((-1 : Int32), h))
  else (if (h.1 (c0 + 1) 3) < a1 then (some ((-1 : Int32), h))
  else (lt (sI h (c0 + 1) 3 ((h.1 (c0 + 1) 3) - a1)) fun h1 =>
  ldI h1 ((c0 + 1) + 5) 4 (h1.1 (c0 + 1) 3) fun x2 =>
  lt (sI h1 (c0 + 1) 2 x2) fun h3 =>
  (s_X7_cut (c0 + 32) (h3.1 (c0 + 1) 2) h3).bind fun y4 =>
  some ((y4.1 (c0 + 1) 2), y4)))
set_option maxRecDepth 100000 in
set_option maxHeartbeats 4000000 in
theorem o_X9_withdraws {K : gK} (S : Cx K RX9 cX9_withdraws 2 1 25) {c0 : Nat} (k0 : kd c0 (10 + 9, 0)) (a1 : Int32) (h : Hp) {o : Int32 × Hp} (hyp : s_X9_withdraws c0 a1 h = some o) (F : Rt K (some .int) (some (.int o.1)) o.2) : Go K 0 [(0, .ref (ad K c0)), (1, .int a1)] [] h := by
  unfold s_X9_withdraws at hyp
  refine g_iload_n (pc := 0) 1 S dX9_withdraws_0 rfl ?_
  refine g_iconst (pc := 1) (v := (1 : Int32)) S dX9_withdraws_1 (by decide) ?_
  refine g_icmp_lt (pc := 2) (tgt := 16) S dX9_withdraws_2 (by decide) hyp (fun hyp => ?_) (fun hyp => ?_)
  · refine g_iconst (pc := 16) (v := (-1 : Int32)) S dX9_withdraws_16 (by decide) ?_
    have hyp := Option.some.inj hyp
    subst hyp
    exact g_iret (pc := 17) S F dX9_withdraws_17
  · refine g_iload_n (pc := 5) 1 S dX9_withdraws_5 rfl ?_
    refine g_aload_n (pc := 6) 0 S dX9_withdraws_6 rfl ?_
    refine g_getR (pc := 7) S dX9_withdraws_7 fl_X9_12 k0 ?_
    refine g_getI (pc := 10) S dX9_withdraws_10 fl_X9_156 (kf_9_1 k0) ?_
    refine g_icmp_le (pc := 13) (tgt := 18) S dX9_withdraws_13 (by decide) hyp (fun hyp => ?_) (fun hyp => ?_)
    · refine g_iconst (pc := 16) (v := (-1 : Int32)) S dX9_withdraws_16 (by decide) ?_
      have hyp := Option.some.inj hyp
      subst hyp
      exact g_iret (pc := 17) S F dX9_withdraws_17
    · refine g_aload_n (pc := 18) 0 S dX9_withdraws_18 rfl ?_
      refine g_getR (pc := 19) S dX9_withdraws_19 fl_X9_12 k0 ?_
      refine g_dup (pc := 22) S dX9_withdraws_22 rfl ?_
      refine g_getI (pc := 23) S dX9_withdraws_23 fl_X9_156 (kf_9_1 k0) ?_
      refine g_iload_n (pc := 26) 1 S dX9_withdraws_26 rfl ?_
      refine g_isub (pc := 27) S dX9_withdraws_27 ?_
      refine g_putI (pc := 28) S dX9_withdraws_28 fl_X9_156 (kf_9_1 k0) hyp (fun h1 hyp => ?_)
      refine g_aload_n (pc := 31) 0 S dX9_withdraws_31 rfl ?_
      refine g_getR (pc := 32) S dX9_withdraws_32 fl_X9_12 k0 ?_
      refine g_aload_n (pc := 35) 0 S dX9_withdraws_35 rfl ?_
      refine g_getR (pc := 36) S dX9_withdraws_36 fl_X9_12 k0 ?_
      refine g_getR (pc := 39) S dX9_withdraws_39 fl_X9_159 (kf_9_1 k0) ?_
      refine g_aload_n (pc := 42) 0 S dX9_withdraws_42 rfl ?_
      refine g_getR (pc := 43) S dX9_withdraws_43 fl_X9_12 k0 ?_
      refine g_getI (pc := 46) S dX9_withdraws_46 fl_X9_156 (kf_9_1 k0) ?_
      refine g_iald (pc := 49) S dX9_withdraws_49 (kf_5_5 (kf_9_1 k0)) hyp (fun x2 hyp => ?_)
      refine g_putI (pc := 50) S dX9_withdraws_50 fl_X9_140 (kf_9_1 k0) hyp (fun h3 hyp => ?_)
      refine g_aload_n (pc := 53) 0 S dX9_withdraws_53 rfl ?_
      refine g_getR (pc := 54) S dX9_withdraws_54 fl_X9_52 k0 ?_
      refine g_aload_n (pc := 57) 0 S dX9_withdraws_57 rfl ?_
      refine g_getR (pc := 58) S dX9_withdraws_58 fl_X9_12 k0 ?_
      refine g_getI (pc := 61) S dX9_withdraws_61 fl_X9_140 (kf_9_1 k0) ?_
      refine g_bind hyp (fun y4 hy4 hyp => ?_)
      refine g_callV (pc := 64) (As := [.int (h3.1 (c0 + 1) 2)]) (rest := []) S dX9_withdraws_64 (kf_9_32 k0) rfl tw_612 tw_613 tw_614 mw_X7_cut (m_X7_cut (kf_9_32 k0) (h3.1 (c0 + 1) 2) h3 hy4) rfl rfl (Nat.le_of_ble_eq_true rfl) (Nat.le_of_ble_eq_true rfl) (Nat.le_of_ble_eq_true rfl) ?_
      refine g_aload_n (pc := 67) 0 S dX9_withdraws_67 rfl ?_
      refine g_getR (pc := 68) S dX9_withdraws_68 fl_X9_12 k0 ?_
      refine g_getI (pc := 71) S dX9_withdraws_71 fl_X9_140 (kf_9_1 k0) ?_
      have hyp := Option.some.inj hyp
      subst hyp
      exact g_iret (pc := 74) S F dX9_withdraws_74
theorem m_X9_withdraws {l : Launch} {D : va_G} {cT : Nat → ClassId} {aD : Nat → Nat} {c0 : Nat} (k0 : kd c0 (10 + 9, 0)) (a1 : Int32) (h : Hp) {o : Int32 × Hp} (hyp : s_X9_withdraws c0 a1 h = some o) : Ok l D cT aD yX9_withdraws cX9_withdraws 2 (some .int) 1 25 [.ref (aD c0), .int a1] h (some (.int o.1)) o.2 :=
  Ok.of (by decide +kernel) rfl (Nat.le_of_ble_eq_true rfl) (fun K e1 e2 e3 e4 S F => by subst e1; exact o_X9_withdraws S k0 a1 h hyp F)
-- BoundProofs allConstraints ()I
noncomputable def s_X9_allConstraints (c0 : Nat)  (h : Hp) : Option (Int32) :=
  some (((1 : Int32) <<< ((h.1 (c0 + 1) 2) &&& 31)) - (1 : Int32))
set_option maxRecDepth 100000 in
set_option maxHeartbeats 4000000 in
theorem o_X9_allConstraints {K : gK} (S : Cx K RX9 cX9_allConstraints 1 0 0) {c0 : Nat} (k0 : kd c0 (10 + 9, 0))  (h : Hp) {o : Int32} (hyp : s_X9_allConstraints c0  h = some o) (F : Rt K (some .int) (some (.int o)) h) : Go K 0 [(0, .ref (ad K c0))] [] h := by
  unfold s_X9_allConstraints at hyp
  refine g_iconst (pc := 0) (v := (1 : Int32)) S dX9_allConstraints_0 (by decide) ?_
  refine g_aload_n (pc := 1) 0 S dX9_allConstraints_1 rfl ?_
  refine g_getR (pc := 2) S dX9_allConstraints_2 fl_X9_12 k0 ?_
  refine g_getI (pc := 5) S dX9_allConstraints_5 fl_X9_140 (kf_9_1 k0) ?_
  refine g_ishl (pc := 8) S dX9_allConstraints_8 ?_
  refine g_iconst (pc := 9) (v := (1 : Int32)) S dX9_allConstraints_9 (by decide) ?_
  refine g_isub (pc := 10) S dX9_allConstraints_10 ?_
  have hyp := Option.some.inj hyp
  subst hyp
  exact g_iret (pc := 11) S F dX9_allConstraints_11
theorem m_X9_allConstraints {l : Launch} {D : va_G} {cT : Nat → ClassId} {aD : Nat → Nat} {c0 : Nat} (k0 : kd c0 (10 + 9, 0))  (h : Hp) {o : Int32} (hyp : s_X9_allConstraints c0  h = some o) : Ok l D cT aD yX9_allConstraints cX9_allConstraints 1 (some .int) 0 0 [.ref (aD c0)] h (some (.int o)) h :=
  Ok.of (by decide +kernel) rfl (Nat.le_of_ble_eq_true rfl) (fun K e1 e2 e3 e4 S F => by subst e1; exact o_X9_allConstraints S k0  h hyp F)
-- BoundProofs$Clashes size ()I
noncomputable def s_X1_size (c0 : Nat)  (h : Hp) : Option (Int32) :=
  ldI h (c0 + 10) 13 (h.1 (c0 + 2) 4) fun x1 =>
  some x1
set_option maxRecDepth 100000 in
set_option maxHeartbeats 4000000 in
theorem o_X1_size {K : gK} (S : Cx K RX1 cX1_size 1 0 0) {c0 : Nat} (k0 : kd c0 (10 + 1, 0))  (h : Hp) {o : Int32} (hyp : s_X1_size c0  h = some o) (F : Rt K (some .int) (some (.int o)) h) : Go K 0 [(0, .ref (ad K c0))] [] h := by
  unfold s_X1_size at hyp
  refine g_aload_n (pc := 0) 0 S dX1_size_0 rfl ?_
  refine g_getR (pc := 1) S dX1_size_1 fl_X1_27 k0 ?_
  refine g_aload_n (pc := 4) 0 S dX1_size_4 rfl ?_
  refine g_getR (pc := 5) S dX1_size_5 fl_X1_22 k0 ?_
  refine g_getI (pc := 8) S dX1_size_8 fl_X1_30 (kf_1_2 k0) ?_
  refine g_iald (pc := 11) S dX1_size_11 (kf_1_10 k0) hyp (fun x1 hyp => ?_)
  have hyp := Option.some.inj hyp
  subst hyp
  exact g_iret (pc := 12) S F dX1_size_12
theorem m_X1_size {l : Launch} {D : va_G} {cT : Nat → ClassId} {aD : Nat → Nat} {c0 : Nat} (k0 : kd c0 (10 + 1, 0))  (h : Hp) {o : Int32} (hyp : s_X1_size c0  h = some o) : Ok l D cT aD yX1_size cX1_size 1 (some .int) 0 0 [.ref (aD c0)] h (some (.int o)) h :=
  Ok.of (by decide +kernel) rfl (Nat.le_of_ble_eq_true rfl) (fun K e1 e2 e3 e4 S F => by subst e1; exact o_X1_size S k0  h hyp F)
-- BoundProofs$Clashes within (I)Z
noncomputable def s_X1_within_l7 (c0 : Nat) (a1 : Int32) (a2 : Int32) (a3 : Int32) (h : Hp) : Option ((Int32) ⊕ ((Unit) ⊕ (Int32))) :=
  if a3 < a2 then (ldI h (c0 + 9) 781 a3 fun x2 =>
  if (x2 &&& (a1 ^^^ (-1 : Int32))) = 0 then (some (.inr (.inr (1 : Int32))))
  else (lt (a3 + (1 : Int32)) fun v3_3 =>
  some (.inl v3_3)))
  else (some (.inr (.inl ())))
noncomputable def s_X1_within (c0 : Nat) (a1 : Int32) (h : Hp) : Option (Int32) :=
  (s_X1_size c0  h).bind fun y1 =>
  (iter (fun s : Int32 => s_X1_within_l7 c0 a1 y1 s h) FUEL (0 : Int32)).bind (Sum.elim (fun t5 => some (0 : Int32))
  (fun t6 => some t6))
set_option maxRecDepth 100000 in
set_option maxHeartbeats 4000000 in
theorem o_X1_within_l7 {K : gK} (S : Cx K RX1 cX1_within 4 1 24) {c0 : Nat} (k0 : kd c0 (10 + 1, 0)) (a1 : Int32) (a2 : Int32) (a3 : Int32) (h : Hp) {o : (Int32) ⊕ ((Unit) ⊕ (Int32))} (hyp : s_X1_within_l7 c0 a1 a2 a3 h = some o) (hin : ∀ s', o = .inl s' → Go K 7 [(0, .ref (ad K c0)), (1, .int a1), (2, .int a2), (3, .int s')] [] h) (hex0 : ∀ s', o = .inr (.inl s') → Go K 33 [] [] h) (hret : ∀ x', o = .inr (.inr x') → Rt K (some .boolean) (some (.int x')) h) : Go K 7 [(0, .ref (ad K c0)), (1, .int a1), (2, .int a2), (3, .int a3)] [] h := by
  unfold s_X1_within_l7 at hyp
  refine g_iload_n (pc := 7) 3 S dX1_within_7 rfl ?_
  refine g_iload_n (pc := 8) 2 S dX1_within_8 rfl ?_
  refine g_icmp_ge (pc := 9) (tgt := 33) S dX1_within_9 (by decide) hyp (fun hyp => ?_) (fun hyp => ?_)
  · refine g_aload_n (pc := 12) 0 S dX1_within_12 rfl ?_
    refine g_getR (pc := 13) S dX1_within_13 fl_X1_23 k0 ?_
    refine g_iload_n (pc := 16) 3 S dX1_within_16 rfl ?_
    refine g_iald (pc := 17) S dX1_within_17 (kf_1_9 k0) hyp (fun x2 hyp => ?_)
    refine g_iload_n (pc := 18) 1 S dX1_within_18 rfl ?_
    refine g_iconst (pc := 19) (v := (-1 : Int32)) S dX1_within_19 (by decide) ?_
    refine g_ixor (pc := 20) S dX1_within_20 ?_
    refine g_iand (pc := 21) S dX1_within_21 ?_
    refine g_if_ne (pc := 22) (tgt := 27) S dX1_within_22 (by decide) hyp (fun hyp => ?_) (fun hyp => ?_)
    · refine g_iconst (pc := 25) (v := (1 : Int32)) S dX1_within_25 (by decide) ?_
      have hyp := Option.some.inj hyp
      subst hyp
      exact g_zret (pc := 26) S (hret (1 : Int32) rfl) dX1_within_26 (Or.inr rfl)
    · refine g_iinc (pc := 27) (v := (a3 + (1 : Int32))) (lv' := [(3, .int (a3 + (1 : Int32))), (0, .ref (ad K c0)), (1, .int a1), (2, .int a2)]) 3 S dX1_within_27 rfl (by rfl) (by decide) rfl ?_
      refine g_lti (C := fun v3_3 => Go K (27 + 3) [(3, .int v3_3), (0, .ref (ad K c0)), (1, .int a1), (2, .int a2)] [] h) hyp (fun v3_3 hyp => ?_)
      refine g_goto (pc := 30) (tgt := 7) S dX1_within_30 (by decide) ?_
      have hyp := Option.some.inj hyp
      subst hyp
      exact g_sub [1, 2, 3, 0] rfl (hin v3_3 rfl)
  · have hyp := Option.some.inj hyp
    subst hyp
    exact g_sub [] rfl (hex0 () rfl)
set_option maxRecDepth 100000 in
set_option maxHeartbeats 4000000 in
theorem o_X1_within {K : gK} (S : Cx K RX1 cX1_within 4 1 24) {c0 : Nat} (k0 : kd c0 (10 + 1, 0)) (a1 : Int32) (h : Hp) {o : Int32} (hyp : s_X1_within c0 a1 h = some o) (F : Rt K (some .boolean) (some (.int o)) h) : Go K 0 [(0, .ref (ad K c0)), (1, .int a1)] [] h := by
  unfold s_X1_within at hyp
  refine g_aload_n (pc := 0) 0 S dX1_within_0 rfl ?_
  refine g_bind hyp (fun y1 hy1 hyp => ?_)
  refine g_callV (pc := 1) (As := []) (rest := []) S dX1_within_1 k0 rfl tw_630 tw_631 tw_632 mw_X1_size (m_X1_size k0  h hy1) rfl rfl (Nat.le_of_ble_eq_true rfl) (Nat.le_of_ble_eq_true rfl) (Nat.le_of_ble_eq_true rfl) ?_
  refine g_istore_n (pc := 4) (lv' := [(2, .int y1), (0, .ref (ad K c0)), (1, .int a1)]) S dX1_within_4 rfl (by decide) rfl ?_
  refine g_iconst (pc := 5) (v := (0 : Int32)) S dX1_within_5 (by decide) ?_
  refine g_istore_n (pc := 6) (lv' := [(3, .int (0 : Int32)), (2, .int y1), (0, .ref (ad K c0)), (1, .int a1)]) S dX1_within_6 rfl (by decide) rfl ?_
  refine g_bind hyp (fun e4 he4 hyp => ?_)
  refine g_sub [2, 3, 1, 0] rfl (g_loop (f := fun s : Int32 => s_X1_within_l7 c0 a1 y1 s h) (ρ := (Unit) ⊕ (Int32)) (Hd := fun s : Int32 => Go K 7 [(0, .ref (ad K c0)), (1, .int a1), (2, .int y1), (3, .int s)] [] h) (Ex := fun e4 => (∀ t, e4 = .inl t → Go K 33 [] [] h) ∧ (∀ t, e4 = .inr t → Rt K (some .boolean) (some (.int t)) h)) (fun s o h1 h2 h3 => o_X1_within_l7 S k0 a1 y1 s h h1 h2 (fun t q => (h3 _ q).1 t rfl) (fun t q => (h3 _ q).2 t rfl)) FUEL _ e4 he4 ?_)
  refine ⟨?_, ?_⟩
  · intro t5 q
    subst q
    try dsimp only [Sum.elim] at hyp
    refine g_iconst (pc := 33) (v := (0 : Int32)) S dX1_within_33 (by decide) ?_
    have hyp := Option.some.inj hyp
    subst hyp
    exact g_zret (pc := 34) S F dX1_within_34 (Or.inl rfl)
  · intro t6 q
    subst q
    try dsimp only [Sum.elim] at hyp
    have hyp := Option.some.inj hyp
    subst hyp
    exact F
theorem m_X1_within {l : Launch} {D : va_G} {cT : Nat → ClassId} {aD : Nat → Nat} {c0 : Nat} (k0 : kd c0 (10 + 1, 0)) (a1 : Int32) (h : Hp) {o : Int32} (hyp : s_X1_within c0 a1 h = some o) : Ok l D cT aD yX1_within cX1_within 4 (some .boolean) 1 24 [.ref (aD c0), .int a1] h (some (.int o)) h :=
  Ok.of (by decide +kernel) rfl (Nat.le_of_ble_eq_true rfl) (fun K e1 e2 e3 e4 S F => by subst e1; exact o_X1_within S k0 a1 h hyp F)
-- BoundProofs satisfiable ()Z
noncomputable def s_X9_satisfiable (c0 : Nat)  (h : Hp) : Option (Int32) :=
  (s_X9_allConstraints c0  h).bind fun y1 =>
  (s_X1_within (c0 + 30) y1 h).bind fun y2 =>
  if y2 = 0 then (some (1 : Int32))
  else (some (0 : Int32))
set_option maxRecDepth 100000 in
set_option maxHeartbeats 4000000 in
theorem o_X9_satisfiable {K : gK} (S : Cx K RX9 cX9_satisfiable 1 2 51) {c0 : Nat} (k0 : kd c0 (10 + 9, 0))  (h : Hp) {o : Int32} (hyp : s_X9_satisfiable c0  h = some o) (F : Rt K (some .boolean) (some (.int o)) h) : Go K 0 [(0, .ref (ad K c0))] [] h := by
  unfold s_X9_satisfiable at hyp
  refine g_aload_n (pc := 0) 0 S dX9_satisfiable_0 rfl ?_
  refine g_getR (pc := 1) S dX9_satisfiable_1 fl_X9_37 k0 ?_
  refine g_aload_n (pc := 4) 0 S dX9_satisfiable_4 rfl ?_
  refine g_bind hyp (fun y1 hy1 hyp => ?_)
  refine g_callV (pc := 5) (As := []) (rest := [.ref (ad K (c0 + 30))]) S dX9_satisfiable_5 k0 rfl tw_623 tw_624 tw_17 mw_X9_allConstraints (m_X9_allConstraints k0  h hy1) rfl rfl (Nat.le_of_ble_eq_true rfl) (Nat.le_of_ble_eq_true rfl) (Nat.le_of_ble_eq_true rfl) ?_
  refine g_bind hyp (fun y2 hy2 hyp => ?_)
  refine g_callV (pc := 8) (As := [.int y1]) (rest := []) S dX9_satisfiable_8 (kf_9_30 k0) rfl tw_626 tw_627 tw_628 mw_X1_within (m_X1_within (kf_9_30 k0) y1 h hy2) rfl rfl (Nat.le_of_ble_eq_true rfl) (Nat.le_of_ble_eq_true rfl) (Nat.le_of_ble_eq_true rfl) ?_
  refine g_if_ne (pc := 11) (tgt := 18) S dX9_satisfiable_11 (by decide) hyp (fun hyp => ?_) (fun hyp => ?_)
  · refine g_iconst (pc := 14) (v := (1 : Int32)) S dX9_satisfiable_14 (by decide) ?_
    refine g_goto (pc := 15) (tgt := 19) S dX9_satisfiable_15 (by decide) ?_
    have hyp := Option.some.inj hyp
    subst hyp
    exact g_zret (pc := 19) S F dX9_satisfiable_19 (Or.inr rfl)
  · refine g_iconst (pc := 18) (v := (0 : Int32)) S dX9_satisfiable_18 (by decide) ?_
    have hyp := Option.some.inj hyp
    subst hyp
    exact g_zret (pc := 19) S F dX9_satisfiable_19 (Or.inl rfl)
theorem m_X9_satisfiable {l : Launch} {D : va_G} {cT : Nat → ClassId} {aD : Nat → Nat} {c0 : Nat} (k0 : kd c0 (10 + 9, 0))  (h : Hp) {o : Int32} (hyp : s_X9_satisfiable c0  h = some o) : Ok l D cT aD yX9_satisfiable cX9_satisfiable 1 (some .boolean) 2 51 [.ref (aD c0)] h (some (.int o)) h :=
  Ok.of (by decide +kernel) rfl (Nat.le_of_ble_eq_true rfl) (fun K e1 e2 e3 e4 S F => by subst e1; exact o_X9_satisfiable S k0  h hyp F)
-- BoundProofs met ()I
noncomputable def s_X9_met (c0 : Nat)  (h : Hp) : Option (Int32) :=
  (s_X9_satisfiable c0  h).bind fun y1 =>
  if y1 = 0 then (some (0 : Int32))
  else (some (1 : Int32))
set_option maxRecDepth 100000 in
set_option maxHeartbeats 4000000 in
theorem o_X9_met {K : gK} (S : Cx K RX9 cX9_met 1 3 75) {c0 : Nat} (k0 : kd c0 (10 + 9, 0))  (h : Hp) {o : Int32} (hyp : s_X9_met c0  h = some o) (F : Rt K (some .int) (some (.int o)) h) : Go K 0 [(0, .ref (ad K c0))] [] h := by
  unfold s_X9_met at hyp
  refine g_aload_n (pc := 0) 0 S dX9_met_0 rfl ?_
  refine g_bind hyp (fun y1 hy1 hyp => ?_)
  refine g_callV (pc := 1) (As := []) (rest := []) S dX9_met_1 k0 rfl tw_620 tw_621 tw_16 mw_X9_satisfiable (m_X9_satisfiable k0  h hy1) rfl rfl (Nat.le_of_ble_eq_true rfl) (Nat.le_of_ble_eq_true rfl) (Nat.le_of_ble_eq_true rfl) ?_
  refine g_if_eq (pc := 4) (tgt := 11) S dX9_met_4 (by decide) hyp (fun hyp => ?_) (fun hyp => ?_)
  · refine g_iconst (pc := 11) (v := (0 : Int32)) S dX9_met_11 (by decide) ?_
    have hyp := Option.some.inj hyp
    subst hyp
    exact g_iret (pc := 12) S F dX9_met_12
  · refine g_iconst (pc := 7) (v := (1 : Int32)) S dX9_met_7 (by decide) ?_
    refine g_goto (pc := 8) (tgt := 12) S dX9_met_8 (by decide) ?_
    have hyp := Option.some.inj hyp
    subst hyp
    exact g_iret (pc := 12) S F dX9_met_12
theorem m_X9_met {l : Launch} {D : va_G} {cT : Nat → ClassId} {aD : Nat → Nat} {c0 : Nat} (k0 : kd c0 (10 + 9, 0))  (h : Hp) {o : Int32} (hyp : s_X9_met c0  h = some o) : Ok l D cT aD yX9_met cX9_met 1 (some .int) 3 75 [.ref (aD c0)] h (some (.int o)) h :=
  Ok.of (by decide +kernel) rfl (Nat.le_of_ble_eq_true rfl) (fun K e1 e2 e3 e4 S F => by subst e1; exact o_X9_met S k0  h hyp F)
-- BoundProofs coreSet ()I
noncomputable def s_X9_coreSet_b44 (c0 : Nat) (a1 : Int32) (a2 : Int32) (h : Hp) : Option ((Int32 × Int32) ⊕ (Int32)) :=
  lt (a2 + (-1 : Int32)) fun v2_4 =>
  some (.inl (a1, v2_4))
noncomputable def s_X9_coreSet_l15 (c0 : Nat) (a1 : Int32) (a2 : Int32) (h : Hp) : Option ((Int32 × Int32) ⊕ (Int32)) :=
  if a2 < 0 then (some (.inr (a1)))
  else ((s_X1_within (c0 + 30) (a1 &&& (((1 : Int32) <<< (a2 &&& 31)) ^^^ (-1 : Int32))) h).bind fun y3 =>
  if y3 = 0 then (s_X9_coreSet_b44 c0 a1 a2 h)
  else (lt (a1 &&& (((1 : Int32) <<< (a2 &&& 31)) ^^^ (-1 : Int32))) fun v1_5 =>
  s_X9_coreSet_b44 c0 v1_5 a2 h))
noncomputable def s_X9_coreSet (c0 : Nat)  (h : Hp) : Option (Int32) :=
  (s_X9_allConstraints c0  h).bind fun y1 =>
  lt ((h.1 (c0 + 1) 2) - (1 : Int32)) fun v2_2 =>
  (iter (fun s : Int32 × Int32 => s_X9_coreSet_l15 c0 s.1 s.2 h) FUEL (y1, v2_2)).bind fun e6 =>
  some e6
set_option maxRecDepth 100000 in
set_option maxHeartbeats 4000000 in
theorem o_X9_coreSet_b44 {K : gK} (S : Cx K RX9 cX9_coreSet 3 2 51) {c0 : Nat} (k0 : kd c0 (10 + 9, 0)) (a1 : Int32) (a2 : Int32) (h : Hp) {o : (Int32 × Int32) ⊕ (Int32)} (hyp : s_X9_coreSet_b44 c0 a1 a2 h = some o) (hin : ∀ s', o = .inl s' → Go K 15 [(0, .ref (ad K c0)), (1, .int s'.1), (2, .int s'.2)] [] h) (hex0 : ∀ s', o = .inr (s') → Go K 50 [(1, .int s')] [] h) : Go K 44 [(0, .ref (ad K c0)), (1, .int a1), (2, .int a2)] [] h := by
  unfold s_X9_coreSet_b44 at hyp
  refine g_iinc (pc := 44) (v := (a2 + (-1 : Int32))) (lv' := [(2, .int (a2 + (-1 : Int32))), (0, .ref (ad K c0)), (1, .int a1)]) 2 S dX9_coreSet_44 rfl (by rfl) (by decide) rfl ?_
  refine g_lti (C := fun v2_4 => Go K (44 + 3) [(2, .int v2_4), (0, .ref (ad K c0)), (1, .int a1)] [] h) hyp (fun v2_4 hyp => ?_)
  refine g_goto (pc := 47) (tgt := 15) S dX9_coreSet_47 (by decide) ?_
  have hyp := Option.some.inj hyp
  subst hyp
  exact g_sub [1, 2, 0] rfl (hin (a1, v2_4) rfl)
set_option maxRecDepth 100000 in
set_option maxHeartbeats 4000000 in
theorem o_X9_coreSet_l15 {K : gK} (S : Cx K RX9 cX9_coreSet 3 2 51) {c0 : Nat} (k0 : kd c0 (10 + 9, 0)) (a1 : Int32) (a2 : Int32) (h : Hp) {o : (Int32 × Int32) ⊕ (Int32)} (hyp : s_X9_coreSet_l15 c0 a1 a2 h = some o) (hin : ∀ s', o = .inl s' → Go K 15 [(0, .ref (ad K c0)), (1, .int s'.1), (2, .int s'.2)] [] h) (hex0 : ∀ s', o = .inr (s') → Go K 50 [(1, .int s')] [] h) : Go K 15 [(0, .ref (ad K c0)), (1, .int a1), (2, .int a2)] [] h := by
  unfold s_X9_coreSet_l15 at hyp
  refine g_iload_n (pc := 15) 2 S dX9_coreSet_15 rfl ?_
  refine g_if_lt (pc := 16) (tgt := 50) S dX9_coreSet_16 (by decide) hyp (fun hyp => ?_) (fun hyp => ?_)
  · have hyp := Option.some.inj hyp
    subst hyp
    exact g_sub [1] rfl (hex0 a1 rfl)
  · refine g_aload_n (pc := 19) 0 S dX9_coreSet_19 rfl ?_
    refine g_getR (pc := 20) S dX9_coreSet_20 fl_X9_37 k0 ?_
    refine g_iload_n (pc := 23) 1 S dX9_coreSet_23 rfl ?_
    refine g_iconst (pc := 24) (v := (1 : Int32)) S dX9_coreSet_24 (by decide) ?_
    refine g_iload_n (pc := 25) 2 S dX9_coreSet_25 rfl ?_
    refine g_ishl (pc := 26) S dX9_coreSet_26 ?_
    refine g_iconst (pc := 27) (v := (-1 : Int32)) S dX9_coreSet_27 (by decide) ?_
    refine g_ixor (pc := 28) S dX9_coreSet_28 ?_
    refine g_iand (pc := 29) S dX9_coreSet_29 ?_
    refine g_bind hyp (fun y3 hy3 hyp => ?_)
    refine g_callV (pc := 30) (As := [.int (a1 &&& (((1 : Int32) <<< (a2 &&& 31)) ^^^ (-1 : Int32)))]) (rest := []) S dX9_coreSet_30 (kf_9_30 k0) rfl tw_626 tw_627 tw_628 mw_X1_within (m_X1_within (kf_9_30 k0) (a1 &&& (((1 : Int32) <<< (a2 &&& 31)) ^^^ (-1 : Int32))) h hy3) rfl rfl (Nat.le_of_ble_eq_true rfl) (Nat.le_of_ble_eq_true rfl) (Nat.le_of_ble_eq_true rfl) ?_
    refine g_if_eq (pc := 33) (tgt := 44) S dX9_coreSet_33 (by decide) hyp (fun hyp => ?_) (fun hyp => ?_)
    · exact g_sub [0, 1, 2] rfl (o_X9_coreSet_b44 S k0 a1 a2 h hyp hin hex0)
    · refine g_iload_n (pc := 36) 1 S dX9_coreSet_36 rfl ?_
      refine g_iconst (pc := 37) (v := (1 : Int32)) S dX9_coreSet_37 (by decide) ?_
      refine g_iload_n (pc := 38) 2 S dX9_coreSet_38 rfl ?_
      refine g_ishl (pc := 39) S dX9_coreSet_39 ?_
      refine g_iconst (pc := 40) (v := (-1 : Int32)) S dX9_coreSet_40 (by decide) ?_
      refine g_ixor (pc := 41) S dX9_coreSet_41 ?_
      refine g_iand (pc := 42) S dX9_coreSet_42 ?_
      refine g_lti (C := fun v1_5 => Go K 43 [(0, .ref (ad K c0)), (1, .int a1), (2, .int a2)] [.int v1_5] h) hyp (fun v1_5 hyp => ?_)
      refine g_istore_n (pc := 43) (lv' := [(1, .int v1_5), (0, .ref (ad K c0)), (2, .int a2)]) S dX9_coreSet_43 rfl (by decide) rfl ?_
      exact g_sub [1, 0, 2] rfl (o_X9_coreSet_b44 S k0 v1_5 a2 h hyp hin hex0)
set_option maxRecDepth 100000 in
set_option maxHeartbeats 4000000 in
theorem o_X9_coreSet {K : gK} (S : Cx K RX9 cX9_coreSet 3 2 51) {c0 : Nat} (k0 : kd c0 (10 + 9, 0))  (h : Hp) {o : Int32} (hyp : s_X9_coreSet c0  h = some o) (F : Rt K (some .int) (some (.int o)) h) : Go K 0 [(0, .ref (ad K c0))] [] h := by
  unfold s_X9_coreSet at hyp
  refine g_aload_n (pc := 0) 0 S dX9_coreSet_0 rfl ?_
  refine g_bind hyp (fun y1 hy1 hyp => ?_)
  refine g_callV (pc := 1) (As := []) (rest := []) S dX9_coreSet_1 k0 rfl tw_623 tw_624 tw_17 mw_X9_allConstraints (m_X9_allConstraints k0  h hy1) rfl rfl (Nat.le_of_ble_eq_true rfl) (Nat.le_of_ble_eq_true rfl) (Nat.le_of_ble_eq_true rfl) ?_
  refine g_istore_n (pc := 4) (lv' := [(1, .int y1), (0, .ref (ad K c0))]) S dX9_coreSet_4 rfl (by decide) rfl ?_
  refine g_aload_n (pc := 5) 1 S dX9_coreSet_5 rfl ?_
  refine g_getR (pc := 6) S dX9_coreSet_6 fl_X9_12 k0 ?_
  refine g_getI (pc := 9) S dX9_coreSet_9 fl_X9_140 (kf_9_1 k0) ?_
  refine g_iconst (pc := 12) (v := (1 : Int32)) S dX9_coreSet_12 (by decide) ?_
  refine g_isub (pc := 13) S dX9_coreSet_13 ?_
  refine g_lti (C := fun v2_2 => Go K 14 [(1, .int y1), (0, .ref (ad K c0))] [.int v2_2] h) hyp (fun v2_2 hyp => ?_)
  refine g_istore_n (pc := 14) (lv' := [(2, .int v2_2), (1, .int y1), (0, .ref (ad K c0))]) S dX9_coreSet_14 rfl (by decide) rfl ?_
  refine g_bind hyp (fun e6 he6 hyp => ?_)
  refine g_sub [2, 1, 0] rfl (g_loop (f := fun s : Int32 × Int32 => s_X9_coreSet_l15 c0 s.1 s.2 h) (ρ := Int32) (Hd := fun s : Int32 × Int32 => Go K 15 [(0, .ref (ad K c0)), (1, .int s.1), (2, .int s.2)] [] h) (Ex := fun e6 => Go K 50 [(1, .int e6)] [] h) (fun s o h1 h2 h3 => o_X9_coreSet_l15 S k0 s.1 s.2 h h1 h2 h3) FUEL _ e6 he6 ?_)
  refine g_iload_n (pc := 50) 0 S dX9_coreSet_50 rfl ?_
  have hyp := Option.some.inj hyp
  subst hyp
  exact g_iret (pc := 51) S F dX9_coreSet_51
theorem m_X9_coreSet {l : Launch} {D : va_G} {cT : Nat → ClassId} {aD : Nat → Nat} {c0 : Nat} (k0 : kd c0 (10 + 9, 0))  (h : Hp) {o : Int32} (hyp : s_X9_coreSet c0  h = some o) : Ok l D cT aD yX9_coreSet cX9_coreSet 3 (some .int) 2 51 [.ref (aD c0)] h (some (.int o)) h :=
  Ok.of (by decide +kernel) rfl (Nat.le_of_ble_eq_true rfl) (fun K e1 e2 e3 e4 S F => by subst e1; exact o_X9_coreSet S k0  h hyp F)
-- BoundProofs core ()I
noncomputable def s_X9_core (c0 : Nat)  (h : Hp) : Option (Int32) :=
  (s_X9_satisfiable c0  h).bind fun y1 =>
  if y1 = 0 then ((s_X9_coreSet c0  h).bind fun y2 =>
  some y2)
  else (some (0 : Int32))
set_option maxRecDepth 100000 in
set_option maxHeartbeats 4000000 in
theorem o_X9_core {K : gK} (S : Cx K RX9 cX9_core 1 3 77) {c0 : Nat} (k0 : kd c0 (10 + 9, 0))  (h : Hp) {o : Int32} (hyp : s_X9_core c0  h = some o) (F : Rt K (some .int) (some (.int o)) h) : Go K 0 [(0, .ref (ad K c0))] [] h := by
  unfold s_X9_core at hyp
  refine g_aload_n (pc := 0) 0 S dX9_core_0 rfl ?_
  refine g_bind hyp (fun y1 hy1 hyp => ?_)
  refine g_callV (pc := 1) (As := []) (rest := []) S dX9_core_1 k0 rfl tw_620 tw_621 tw_16 mw_X9_satisfiable (m_X9_satisfiable k0  h hy1) rfl rfl (Nat.le_of_ble_eq_true rfl) (Nat.le_of_ble_eq_true rfl) (Nat.le_of_ble_eq_true rfl) ?_
  refine g_if_eq (pc := 4) (tgt := 11) S dX9_core_4 (by decide) hyp (fun hyp => ?_) (fun hyp => ?_)
  · refine g_aload_n (pc := 11) 0 S dX9_core_11 rfl ?_
    refine g_bind hyp (fun y2 hy2 hyp => ?_)
    refine g_callV (pc := 12) (As := []) (rest := []) S dX9_core_12 k0 rfl tw_638 tw_639 tw_18 mw_X9_coreSet (m_X9_coreSet k0  h hy2) rfl rfl (Nat.le_of_ble_eq_true rfl) (Nat.le_of_ble_eq_true rfl) (Nat.le_of_ble_eq_true rfl) ?_
    have hyp := Option.some.inj hyp
    subst hyp
    exact g_iret (pc := 15) S F dX9_core_15
  · refine g_iconst (pc := 7) (v := (0 : Int32)) S dX9_core_7 (by decide) ?_
    refine g_goto (pc := 8) (tgt := 15) S dX9_core_8 (by decide) ?_
    have hyp := Option.some.inj hyp
    subst hyp
    exact g_iret (pc := 15) S F dX9_core_15
theorem m_X9_core {l : Launch} {D : va_G} {cT : Nat → ClassId} {aD : Nat → Nat} {c0 : Nat} (k0 : kd c0 (10 + 9, 0))  (h : Hp) {o : Int32} (hyp : s_X9_core c0  h = some o) : Ok l D cT aD yX9_core cX9_core 1 (some .int) 3 77 [.ref (aD c0)] h (some (.int o)) h :=
  Ok.of (by decide +kernel) rfl (Nat.le_of_ble_eq_true rfl) (fun K e1 e2 e3 e4 S F => by subst e1; exact o_X9_core S k0  h hyp F)
-- java/lang/Math abs (J)J
noncomputable def s_J9_abs_067f4  (a0 : Int64) (h : Hp) : Option (Int64) :=
  if a0 < (0 : Int64) then (some (-a0))
  else (some a0)
set_option maxRecDepth 100000 in
set_option maxHeartbeats 4000000 in
theorem o_J9_abs_067f4 {K : gK} (S : Cx K RJ9 cJ9_abs_067f4 2 0 0)  (a0 : Int64) (h : Hp) {o : Int64} (hyp : s_J9_abs_067f4  a0 h = some o) (F : Rt K (some .long) (some (.long o)) h) : Go K 0 [(0, .long a0)] [] h := by
  unfold s_J9_abs_067f4 at hyp
  refine g_lload_n (pc := 0) 0 S dJ9_abs_067f4_0 rfl ?_
  refine g_lconst (pc := 1) (v := (0 : Int64)) S dJ9_abs_067f4_1 (by decide) ?_
  refine g_lcmp_ge (pc := 2) (tgt := 11) S dJ9_abs_067f4_2 dJ9_abs_067f4_3 (by decide) hyp (fun hyp => ?_) (fun hyp => ?_)
  · refine g_lload_n (pc := 6) 0 S dJ9_abs_067f4_6 rfl ?_
    refine g_lneg (pc := 7) S dJ9_abs_067f4_7 ?_
    refine g_goto (pc := 8) (tgt := 12) S dJ9_abs_067f4_8 (by decide) ?_
    have hyp := Option.some.inj hyp
    subst hyp
    exact g_lret (pc := 12) S F dJ9_abs_067f4_12
  · refine g_lload_n (pc := 11) 0 S dJ9_abs_067f4_11 rfl ?_
    have hyp := Option.some.inj hyp
    subst hyp
    exact g_lret (pc := 12) S F dJ9_abs_067f4_12
theorem m_J9_abs_067f4 {l : Launch} {D : va_G} {cT : Nat → ClassId} {aD : Nat → Nat}  (a0 : Int64) (h : Hp) {o : Int64} (hyp : s_J9_abs_067f4  a0 h = some o) : Ok l D cT aD yJ9_abs_067f4 cJ9_abs_067f4 2 (some .long) 0 0 [.long a0] h (some (.long o)) h :=
  Ok.of (by decide +kernel) rfl (Nat.le_of_ble_eq_true rfl) (fun K e1 e2 e3 e4 S F => by subst e1; exact o_J9_abs_067f4 S  a0 h hyp F)
-- BoundProofs commonDivisor (JJ)J
noncomputable def s_X9_commonDivisor_l15  (a4 : Int64) (a6 : Int64) (a8 : Int32) (h : Hp) : Option ((Int64 × Int64 × Int32) ⊕ (Int64)) :=
  if a8 < (100 : Int32) then (if a6 = (0 : Int64) then (some (.inr (a4)))
  else (nzJ a6 <|
  lt (a4 - a4 / a6 * a6) fun v9_3 =>
  lt (a8 + (1 : Int32)) fun v8_4 =>
  some (.inl (a6, v9_3, v8_4))))
  else (some (.inr (a4)))
noncomputable def s_X9_commonDivisor  (a0 : Int64) (a2 : Int64) (h : Hp) : Option (Int64) :=
  (s_J9_abs_067f4  a0 h).bind fun y1 =>
  (s_J9_abs_067f4  a2 h).bind fun y2 =>
  (iter (fun s : Int64 × Int64 × Int32 => s_X9_commonDivisor_l15  s.1 s.2.1 s.2.2 h) FUEL (y1, y2, (0 : Int32))).bind fun e5 =>
  some e5
set_option maxRecDepth 100000 in
set_option maxHeartbeats 4000000 in
theorem o_X9_commonDivisor_l15 {K : gK} (S : Cx K RX9 cX9_commonDivisor 11 1 25)  (a4 : Int64) (a6 : Int64) (a8 : Int32) (h : Hp) {o : (Int64 × Int64 × Int32) ⊕ (Int64)} (hyp : s_X9_commonDivisor_l15  a4 a6 a8 h = some o) (hin : ∀ s', o = .inl s' → Go K 15 [(4, .long s'.1), (6, .long s'.2.1), (8, .int s'.2.2)] [] h) (hex0 : ∀ s', o = .inr (s') → Go K 50 [(4, .long s')] [] h) : Go K 15 [(4, .long a4), (6, .long a6), (8, .int a8)] [] h := by
  unfold s_X9_commonDivisor_l15 at hyp
  refine g_iload (pc := 15) 2 S dX9_commonDivisor_15 rfl ?_
  refine g_bipush (pc := 17) (v := (100 : Int32)) S dX9_commonDivisor_17 (by decide) ?_
  refine g_icmp_ge (pc := 19) (tgt := 50) S dX9_commonDivisor_19 (by decide) hyp (fun hyp => ?_) (fun hyp => ?_)
  · refine g_lload (pc := 22) 1 S dX9_commonDivisor_22 rfl ?_
    refine g_lconst (pc := 24) (v := (0 : Int64)) S dX9_commonDivisor_24 (by decide) ?_
    refine g_lcmp_eq (pc := 25) (tgt := 50) S dX9_commonDivisor_25 dX9_commonDivisor_26 (by decide) hyp (fun hyp => ?_) (fun hyp => ?_)
    · have hyp := Option.some.inj hyp
      subst hyp
      exact g_sub [0] rfl (hex0 a4 rfl)
    · refine g_lload (pc := 29) 0 S dX9_commonDivisor_29 rfl ?_
      refine g_lload (pc := 31) 1 S dX9_commonDivisor_31 rfl ?_
      refine g_nzJ hyp (fun hz hyp => ?_)
      refine g_lrem (pc := 33) S dX9_commonDivisor_33 hz ?_
      refine g_lti (C := fun v9_3 => Go K 34 [(4, .long a4), (6, .long a6), (8, .int a8)] [.long v9_3] h) hyp (fun v9_3 hyp => ?_)
      refine g_lstore (pc := 34) (lv' := [(9, .long v9_3), (4, .long a4), (6, .long a6), (8, .int a8)]) S dX9_commonDivisor_34 (by decide) rfl ?_
      refine g_lload (pc := 36) 2 S dX9_commonDivisor_36 rfl ?_
      refine g_lstore (pc := 38) (lv' := [(4, .long a6), (9, .long v9_3), (6, .long a6), (8, .int a8)]) S dX9_commonDivisor_38 (by decide) rfl ?_
      refine g_lload (pc := 40) 1 S dX9_commonDivisor_40 rfl ?_
      refine g_lstore (pc := 42) (lv' := [(6, .long v9_3), (4, .long a6), (9, .long v9_3), (8, .int a8)]) S dX9_commonDivisor_42 (by decide) rfl ?_
      refine g_iinc (pc := 44) (v := (a8 + (1 : Int32))) (lv' := [(8, .int (a8 + (1 : Int32))), (6, .long v9_3), (4, .long a6), (9, .long v9_3)]) 3 S dX9_commonDivisor_44 rfl (by rfl) (by decide) rfl ?_
      refine g_lti (C := fun v8_4 => Go K (44 + 3) [(8, .int v8_4), (6, .long v9_3), (4, .long a6), (9, .long v9_3)] [] h) hyp (fun v8_4 hyp => ?_)
      refine g_goto (pc := 47) (tgt := 15) S dX9_commonDivisor_47 (by decide) ?_
      have hyp := Option.some.inj hyp
      subst hyp
      exact g_sub [2, 1, 0] rfl (hin (a6, v9_3, v8_4) rfl)
  · have hyp := Option.some.inj hyp
    subst hyp
    exact g_sub [0] rfl (hex0 a4 rfl)
set_option maxRecDepth 100000 in
set_option maxHeartbeats 4000000 in
theorem o_X9_commonDivisor {K : gK} (S : Cx K RX9 cX9_commonDivisor 11 1 25)  (a0 : Int64) (a2 : Int64) (h : Hp) {o : Int64} (hyp : s_X9_commonDivisor  a0 a2 h = some o) (F : Rt K (some .long) (some (.long o)) h) : Go K 0 [(0, .long a0), (2, .long a2)] [] h := by
  unfold s_X9_commonDivisor at hyp
  refine g_lload_n (pc := 0) 0 S dX9_commonDivisor_0 rfl ?_
  refine g_bind hyp (fun y1 hy1 hyp => ?_)
  refine g_callS (pc := 1) (As := [.long a0]) (rest := []) S dX9_commonDivisor_1 tw_652 tw_653 mw_J9_abs_067f4 (m_J9_abs_067f4  a0 h hy1) rfl rfl (Nat.le_of_ble_eq_true rfl) (Nat.le_of_ble_eq_true rfl) (Nat.le_of_ble_eq_true rfl) ?_
  refine g_lstore (pc := 4) (lv' := [(4, .long y1), (0, .long a0), (2, .long a2)]) S dX9_commonDivisor_4 (by decide) rfl ?_
  refine g_lload_n (pc := 6) 2 S dX9_commonDivisor_6 rfl ?_
  refine g_bind hyp (fun y2 hy2 hyp => ?_)
  refine g_callS (pc := 7) (As := [.long a2]) (rest := []) S dX9_commonDivisor_7 tw_652 tw_653 mw_J9_abs_067f4 (m_J9_abs_067f4  a2 h hy2) rfl rfl (Nat.le_of_ble_eq_true rfl) (Nat.le_of_ble_eq_true rfl) (Nat.le_of_ble_eq_true rfl) ?_
  refine g_lstore (pc := 10) (lv' := [(6, .long y2), (4, .long y1), (0, .long a0), (2, .long a2)]) S dX9_commonDivisor_10 (by decide) rfl ?_
  refine g_iconst (pc := 12) (v := (0 : Int32)) S dX9_commonDivisor_12 (by decide) ?_
  refine g_istore (pc := 13) (lv' := [(8, .int (0 : Int32)), (6, .long y2), (4, .long y1), (0, .long a0), (2, .long a2)]) S dX9_commonDivisor_13 (by decide) rfl ?_
  refine g_bind hyp (fun e5 he5 hyp => ?_)
  refine g_sub [2, 1, 0] rfl (g_loop (f := fun s : Int64 × Int64 × Int32 => s_X9_commonDivisor_l15  s.1 s.2.1 s.2.2 h) (ρ := Int64) (Hd := fun s : Int64 × Int64 × Int32 => Go K 15 [(4, .long s.1), (6, .long s.2.1), (8, .int s.2.2)] [] h) (Ex := fun e5 => Go K 50 [(4, .long e5)] [] h) (fun s o h1 h2 h3 => o_X9_commonDivisor_l15 S  s.1 s.2.1 s.2.2 h h1 h2 h3) FUEL _ e5 he5 ?_)
  refine g_lload (pc := 50) 0 S dX9_commonDivisor_50 rfl ?_
  have hyp := Option.some.inj hyp
  subst hyp
  exact g_lret (pc := 52) S F dX9_commonDivisor_52
theorem m_X9_commonDivisor {l : Launch} {D : va_G} {cT : Nat → ClassId} {aD : Nat → Nat}  (a0 : Int64) (a2 : Int64) (h : Hp) {o : Int64} (hyp : s_X9_commonDivisor  a0 a2 h = some o) : Ok l D cT aD yX9_commonDivisor cX9_commonDivisor 11 (some .long) 1 25 [.long a0, .long a2] h (some (.long o)) h :=
  Ok.of (by decide +kernel) rfl (Nat.le_of_ble_eq_true rfl) (fun K e1 e2 e3 e4 S F => by subst e1; exact o_X9_commonDivisor S  a0 a2 h hyp F)
