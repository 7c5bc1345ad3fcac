-- BoundProofsModel count (I)I
noncomputable def s_X10_count (c0 : Nat) (a1 : Int32) (h : Hp) : Option (Int32 × Hp) :=
  if a1 = (0 : Int32) then (some ((h.1 c0 0), h))
  else if a1 = (1 : Int32) then (some ((h.1 c0 1), h))
  else if a1 = (2 : Int32) then (some ((h.1 c0 3), h))
  else if a1 = (3 : Int32) then (some ((h.1 c0 5), h))
  else if a1 = (4 : Int32) then ((s_X10_setCorners c0  h).bind fun y1 =>
  some ((y1.1 c0 39), y1))
  else if a1 = (5 : Int32) then ((s_X10_wholeAt c0 (-9 : Int32) h).bind fun y2 =>
  some (((-y2) - (1 : Int32)), h))
  else if a1 = (6 : Int32) then (some ((h.1 c0 43), h))
  else (some ((-1 : Int32), h))
set_option maxRecDepth 100000 in
set_option maxHeartbeats 4000000 in
theorem o_X10_count {K : gK} (S : Cx K RX10 cX10_count 2 6 171) {c0 : Nat} (k0 : kd c0 (10 + 10, 0)) (a1 : Int32) (h : Hp) {o : Int32 × Hp} (hyp : s_X10_count c0 a1 h = some o) (F : Rt K (some .int) (some (.int o.1)) o.2) : Go K 0 [(0, .ref (ad K c0)), (1, .int a1)] [] h := by
  unfold s_X10_count at hyp
  refine g_iload_n (pc := 0) 1 S dX10_count_0 rfl ?_
  refine g_tab1 hyp (fun e hyp => ?_) (fun n0 hyp => ?_)
  · refine g_tabK (pc := 1) (tgt := 44) S dX10_count_1 e (by decide) (by decide) rfl (by decide) ?_
    refine g_aload_n (pc := 44) 0 S dX10_count_44 rfl ?_
    refine g_getI (pc := 45) S dX10_count_45 fl_X10_7 k0 ?_
    have hyp := Option.some.inj hyp
    subst hyp
    exact g_iret (pc := 48) S F dX10_count_48
  refine g_tab1 hyp (fun e hyp => ?_) (fun n1 hyp => ?_)
  · refine g_tabK (pc := 1) (tgt := 49) S dX10_count_1 e (by decide) (by decide) rfl (by decide) ?_
    refine g_aload_n (pc := 49) 0 S dX10_count_49 rfl ?_
    refine g_getI (pc := 50) S dX10_count_50 fl_X10_94 k0 ?_
    have hyp := Option.some.inj hyp
    subst hyp
    exact g_iret (pc := 53) S F dX10_count_53
  refine g_tab1 hyp (fun e hyp => ?_) (fun n2 hyp => ?_)
  · refine g_tabK (pc := 1) (tgt := 54) S dX10_count_1 e (by decide) (by decide) rfl (by decide) ?_
    refine g_aload_n (pc := 54) 0 S dX10_count_54 rfl ?_
    refine g_getI (pc := 55) S dX10_count_55 fl_X10_97 k0 ?_
    have hyp := Option.some.inj hyp
    subst hyp
    exact g_iret (pc := 58) S F dX10_count_58
  refine g_tab1 hyp (fun e hyp => ?_) (fun n3 hyp => ?_)
  · refine g_tabK (pc := 1) (tgt := 59) S dX10_count_1 e (by decide) (by decide) rfl (by decide) ?_
    refine g_aload_n (pc := 59) 0 S dX10_count_59 rfl ?_
    refine g_getI (pc := 60) S dX10_count_60 fl_X10_100 k0 ?_
    have hyp := Option.some.inj hyp
    subst hyp
    exact g_iret (pc := 63) S F dX10_count_63
  refine g_tab1 hyp (fun e hyp => ?_) (fun n4 hyp => ?_)
  · refine g_tabK (pc := 1) (tgt := 64) S dX10_count_1 e (by decide) (by decide) rfl (by decide) ?_
    refine g_aload_n (pc := 64) 0 S dX10_count_64 rfl ?_
    refine g_bind hyp (fun y1 hy1 hyp => ?_)
    refine g_callV (pc := 65) (As := []) (rest := []) S dX10_count_65 k0 rfl tw_1188 tw_1189 tw_67 mw_X10_setCorners (m_X10_setCorners k0  h hy1) rfl rfl (Nat.le_of_ble_eq_true rfl) (Nat.le_of_ble_eq_true rfl) (Nat.le_of_ble_eq_true rfl) ?_
    refine g_aload_n (pc := 68) 0 S dX10_count_68 rfl ?_
    refine g_getI (pc := 69) S dX10_count_69 fl_X10_305 k0 ?_
    have hyp := Option.some.inj hyp
    subst hyp
    exact g_iret (pc := 72) S F dX10_count_72
  refine g_tab1 hyp (fun e hyp => ?_) (fun n5 hyp => ?_)
  · refine g_tabK (pc := 1) (tgt := 73) S dX10_count_1 e (by decide) (by decide) rfl (by decide) ?_
    refine g_aload_n (pc := 73) 0 S dX10_count_73 rfl ?_
    refine g_bipush (pc := 74) (v := (-9 : Int32)) S dX10_count_74 (by decide) ?_
    refine g_bind hyp (fun y2 hy2 hyp => ?_)
    refine g_callV (pc := 76) (As := [.int (-9 : Int32)]) (rest := []) S dX10_count_76 k0 rfl tw_1222 tw_1223 tw_76 mw_X10_wholeAt (m_X10_wholeAt k0 (-9 : Int32) h hy2) rfl rfl (Nat.le_of_ble_eq_true rfl) (Nat.le_of_ble_eq_true rfl) (Nat.le_of_ble_eq_true rfl) ?_
    refine g_ineg (pc := 79) S dX10_count_79 ?_
    refine g_iconst (pc := 80) (v := (1 : Int32)) S dX10_count_80 (by decide) ?_
    refine g_isub (pc := 81) S dX10_count_81 ?_
    have hyp := Option.some.inj hyp
    subst hyp
    exact g_iret (pc := 82) S F dX10_count_82
  refine g_tab1 hyp (fun e hyp => ?_) (fun n6 hyp => ?_)
  · refine g_tabK (pc := 1) (tgt := 83) S dX10_count_1 e (by decide) (by decide) rfl (by decide) ?_
    refine g_aload_n (pc := 83) 0 S dX10_count_83 rfl ?_
    refine g_getI (pc := 84) S dX10_count_84 fl_X10_336 k0 ?_
    have hyp := Option.some.inj hyp
    subst hyp
    exact g_iret (pc := 87) S F dX10_count_87
  refine g_tabOut (pc := 1) (tgt := 88) S dX10_count_1 (by have q0 := lv_neT n0 (a := 0) rfl; have q1 := lv_neT n1 (a := 1) rfl; have q2 := lv_neT n2 (a := 2) rfl; have q3 := lv_neT n3 (a := 3) rfl; have q4 := lv_neT n4 (a := 4) rfl; have q5 := lv_neT n5 (a := 5) rfl; have q6 := lv_neT n6 (a := 6) rfl; omega) (by decide) ?_
  refine g_iconst (pc := 88) (v := (-1 : Int32)) S dX10_count_88 (by decide) ?_
  have hyp := Option.some.inj hyp
  subst hyp
  exact g_iret (pc := 89) S F dX10_count_89
theorem m_X10_count {l : Launch} {D : va_G} {cT : Nat → ClassId} {aD : Nat → Nat} {c0 : Nat} (k0 : kd c0 (10 + 10, 0)) (a1 : Int32) (h : Hp) {o : Int32 × Hp} (hyp : s_X10_count c0 a1 h = some o) : Ok l D cT aD yX10_count cX10_count 2 (some .int) 6 171 [.ref (aD c0), .int a1] h (some (.int o.1)) o.2 :=
  Ok.of (by decide +kernel) rfl (Nat.le_of_ble_eq_true rfl) (fun K e1 e2 e3 e4 S F => by subst e1; exact o_X10_count S k0 a1 h hyp F)
-- BoundProofsModel type (I)I
noncomputable def s_X10_type (c0 : Nat) (a1 : Int32) (h : Hp) : Option (Int32 × Hp) :=
  (s_X10_in  a1 (0 : Int32) (255 : Int32) h).bind fun y1 =>
  if y1 = 0 then (some ((-1 : Int32), h))
  else (if (h.1 c0 43) = (90 : Int32) then (some ((-3 : Int32), h))
  else (stI h (c0 + 23) 90 (h.1 c0 43) a1 fun h2 =>
  lt (sI h2 c0 43 ((h2.1 c0 43) + (1 : Int32))) fun h3 =>
  some ((h3.1 c0 43), h3)))
set_option maxRecDepth 100000 in
set_option maxHeartbeats 4000000 in
theorem o_X10_type {K : gK} (S : Cx K RX10 cX10_type 2 1 26) {c0 : Nat} (k0 : kd c0 (10 + 10, 0)) (a1 : Int32) (h : Hp) {o : Int32 × Hp} (hyp : s_X10_type c0 a1 h = some o) (F : Rt K (some .int) (some (.int o.1)) o.2) : Go K 0 [(0, .ref (ad K c0)), (1, .int a1)] [] h := by
  unfold s_X10_type at hyp
  refine g_iload_n (pc := 0) 1 S dX10_type_0 rfl ?_
  refine g_iconst (pc := 1) (v := (0 : Int32)) S dX10_type_1 (by decide) ?_
  refine g_sipush (pc := 2) (v := (255 : Int32)) S dX10_type_2 (by decide) ?_
  refine g_bind hyp (fun y1 hy1 hyp => ?_)
  refine g_callS (pc := 5) (As := [.int a1, .int (0 : Int32), .int (255 : Int32)]) (rest := []) S dX10_type_5 tw_990 tw_991 mw_X10_in (m_X10_in  a1 (0 : Int32) (255 : Int32) h hy1) rfl rfl (Nat.le_of_ble_eq_true rfl) (Nat.le_of_ble_eq_true rfl) (Nat.le_of_ble_eq_true rfl) ?_
  refine g_if_ne (pc := 8) (tgt := 13) S dX10_type_8 (by decide) hyp (fun hyp => ?_) (fun hyp => ?_)
  · refine g_iconst (pc := 11) (v := (-1 : Int32)) S dX10_type_11 (by decide) ?_
    have hyp := Option.some.inj hyp
    subst hyp
    exact g_iret (pc := 12) S F dX10_type_12
  · refine g_aload_n (pc := 13) 0 S dX10_type_13 rfl ?_
    refine g_getI (pc := 14) S dX10_type_14 fl_X10_336 k0 ?_
    refine g_bipush (pc := 17) (v := (90 : Int32)) S dX10_type_17 (by decide) ?_
    refine g_icmp_ne (pc := 19) (tgt := 25) S dX10_type_19 (by decide) hyp (fun hyp => ?_) (fun hyp => ?_)
    · refine g_bipush (pc := 22) (v := (-3 : Int32)) S dX10_type_22 (by decide) ?_
      have hyp := Option.some.inj hyp
      subst hyp
      exact g_iret (pc := 24) S F dX10_type_24
    · refine g_aload_n (pc := 25) 0 S dX10_type_25 rfl ?_
      refine g_getR (pc := 26) S dX10_type_26 fl_X10_85 k0 ?_
      refine g_aload_n (pc := 29) 0 S dX10_type_29 rfl ?_
      refine g_getI (pc := 30) S dX10_type_30 fl_X10_336 k0 ?_
      refine g_iload_n (pc := 33) 1 S dX10_type_33 rfl ?_
      refine g_iast (pc := 34) S dX10_type_34 (kf_10_23 k0) hyp (fun h2 hyp => ?_)
      refine g_aload_n (pc := 35) 0 S dX10_type_35 rfl ?_
      refine g_dup (pc := 36) S dX10_type_36 rfl ?_
      refine g_getI (pc := 37) S dX10_type_37 fl_X10_336 k0 ?_
      refine g_iconst (pc := 40) (v := (1 : Int32)) S dX10_type_40 (by decide) ?_
      refine g_iadd (pc := 41) S dX10_type_41 ?_
      refine g_putI (pc := 42) S dX10_type_42 fl_X10_336 k0 hyp (fun h3 hyp => ?_)
      refine g_aload_n (pc := 45) 0 S dX10_type_45 rfl ?_
      refine g_getI (pc := 46) S dX10_type_46 fl_X10_336 k0 ?_
      have hyp := Option.some.inj hyp
      subst hyp
      exact g_iret (pc := 49) S F dX10_type_49
theorem m_X10_type {l : Launch} {D : va_G} {cT : Nat → ClassId} {aD : Nat → Nat} {c0 : Nat} (k0 : kd c0 (10 + 10, 0)) (a1 : Int32) (h : Hp) {o : Int32 × Hp} (hyp : s_X10_type c0 a1 h = some o) : Ok l D cT aD yX10_type cX10_type 2 (some .int) 1 26 [.ref (aD c0), .int a1] h (some (.int o.1)) o.2 :=
  Ok.of (by decide +kernel) rfl (Nat.le_of_ble_eq_true rfl) (fun K e1 e2 e3 e4 S F => by subst e1; exact o_X10_type S k0 a1 h hyp F)
-- BoundProofsModel clear ()I
noncomputable def s_X10_clear (c0 : Nat)  (h : Hp) : Option (Int32 × Hp) :=
  lt (h.1 c0 43) fun v1_1 =>
  lt (sI h c0 43 (0 : Int32)) fun h2 =>
  some (v1_1, h2)
set_option maxRecDepth 100000 in
set_option maxHeartbeats 4000000 in
theorem o_X10_clear {K : gK} (S : Cx K RX10 cX10_clear 2 0 0) {c0 : Nat} (k0 : kd c0 (10 + 10, 0))  (h : Hp) {o : Int32 × Hp} (hyp : s_X10_clear c0  h = some o) (F : Rt K (some .int) (some (.int o.1)) o.2) : Go K 0 [(0, .ref (ad K c0))] [] h := by
  unfold s_X10_clear at hyp
  refine g_aload_n (pc := 0) 0 S dX10_clear_0 rfl ?_
  refine g_getI (pc := 1) S dX10_clear_1 fl_X10_336 k0 ?_
  refine g_lti (C := fun v1_1 => Go K 4 [(0, .ref (ad K c0))] [.int v1_1] h) hyp (fun v1_1 hyp => ?_)
  refine g_istore_n (pc := 4) (lv' := [(1, .int v1_1), (0, .ref (ad K c0))]) S dX10_clear_4 rfl (by decide) rfl ?_
  refine g_aload_n (pc := 5) 1 S dX10_clear_5 rfl ?_
  refine g_iconst (pc := 6) (v := (0 : Int32)) S dX10_clear_6 (by decide) ?_
  refine g_putI (pc := 7) S dX10_clear_7 fl_X10_336 k0 hyp (fun h2 hyp => ?_)
  refine g_iload_n (pc := 10) 0 S dX10_clear_10 rfl ?_
  have hyp := Option.some.inj hyp
  subst hyp
  exact g_iret (pc := 11) S F dX10_clear_11
theorem m_X10_clear {l : Launch} {D : va_G} {cT : Nat → ClassId} {aD : Nat → Nat} {c0 : Nat} (k0 : kd c0 (10 + 10, 0))  (h : Hp) {o : Int32 × Hp} (hyp : s_X10_clear c0  h = some o) : Ok l D cT aD yX10_clear cX10_clear 2 (some .int) 0 0 [.ref (aD c0)] h (some (.int o.1)) o.2 :=
  Ok.of (by decide +kernel) rfl (Nat.le_of_ble_eq_true rfl) (fun K e1 e2 e3 e4 S F => by subst e1; exact o_X10_clear S k0  h hyp F)
-- BoundProofsModel here ()I
noncomputable def s_X10_here_l0 (c0 : Nat)  (h : Hp) : Option ((Hp) ⊕ (Hp)) :=
  if (h.1 c0 44) < (h.1 c0 43) then (ldI h (c0 + 23) 90 (h.1 c0 44) fun x1 =>
  if x1 = (32 : Int32) then (lt (sI h c0 44 ((h.1 c0 44) + (1 : Int32))) fun h2 =>
  some (.inl h2))
  else (some (.inr (h))))
  else (some (.inr (h)))
noncomputable def s_X10_here (c0 : Nat)  (h : Hp) : Option (Int32 × Hp) :=
  (iter (fun s : Hp => s_X10_here_l0 c0  s) FUEL h).bind fun e3 =>
  if (e3.1 c0 44) < (e3.1 c0 43) then (ldI e3 (c0 + 23) 90 (e3.1 c0 44) fun x4 =>
  some (x4, e3))
  else (some ((-9 : Int32), e3))
set_option maxRecDepth 100000 in
set_option maxHeartbeats 4000000 in
theorem o_X10_here_l0 {K : gK} (S : Cx K RX10 cX10_here 1 0 0) {c0 : Nat} (k0 : kd c0 (10 + 10, 0))  (h : Hp) {o : (Hp) ⊕ (Hp)} (hyp : s_X10_here_l0 c0  h = some o) (hin : ∀ s', o = .inl s' → Go K 0 [(0, .ref (ad K c0))] [] s') (hex0 : ∀ s', o = .inr (s') → Go K 38 [(0, .ref (ad K c0))] [] s') : Go K 0 [(0, .ref (ad K c0))] [] h := by
  unfold s_X10_here_l0 at hyp
  refine g_aload_n (pc := 0) 0 S dX10_here_0 rfl ?_
  refine g_getI (pc := 1) S dX10_here_1 fl_X10_339 k0 ?_
  refine g_aload_n (pc := 4) 0 S dX10_here_4 rfl ?_
  refine g_getI (pc := 5) S dX10_here_5 fl_X10_336 k0 ?_
  refine g_icmp_ge (pc := 8) (tgt := 38) S dX10_here_8 (by decide) hyp (fun hyp => ?_) (fun hyp => ?_)
  · refine g_aload_n (pc := 11) 0 S dX10_here_11 rfl ?_
    refine g_getR (pc := 12) S dX10_here_12 fl_X10_85 k0 ?_
    refine g_aload_n (pc := 15) 0 S dX10_here_15 rfl ?_
    refine g_getI (pc := 16) S dX10_here_16 fl_X10_339 k0 ?_
    refine g_iald (pc := 19) S dX10_here_19 (kf_10_23 k0) hyp (fun x1 hyp => ?_)
    refine g_bipush (pc := 20) (v := (32 : Int32)) S dX10_here_20 (by decide) ?_
    refine g_icmp_ne (pc := 22) (tgt := 38) S dX10_here_22 (by decide) hyp (fun hyp => ?_) (fun hyp => ?_)
    · refine g_aload_n (pc := 25) 0 S dX10_here_25 rfl ?_
      refine g_dup (pc := 26) S dX10_here_26 rfl ?_
      refine g_getI (pc := 27) S dX10_here_27 fl_X10_339 k0 ?_
      refine g_iconst (pc := 30) (v := (1 : Int32)) S dX10_here_30 (by decide) ?_
      refine g_iadd (pc := 31) S dX10_here_31 ?_
      refine g_putI (pc := 32) S dX10_here_32 fl_X10_339 k0 hyp (fun h2 hyp => ?_)
      refine g_goto (pc := 35) (tgt := 0) S dX10_here_35 (by decide) ?_
      have hyp := Option.some.inj hyp
      subst hyp
      exact g_sub [0] rfl (hin h2 rfl)
    · have hyp := Option.some.inj hyp
      subst hyp
      exact g_sub [0] rfl (hex0 h rfl)
  · have hyp := Option.some.inj hyp
    subst hyp
    exact g_sub [0] rfl (hex0 h rfl)
set_option maxRecDepth 100000 in
set_option maxHeartbeats 4000000 in
theorem o_X10_here {K : gK} (S : Cx K RX10 cX10_here 1 0 0) {c0 : Nat} (k0 : kd c0 (10 + 10, 0))  (h : Hp) {o : Int32 × Hp} (hyp : s_X10_here c0  h = some o) (F : Rt K (some .int) (some (.int o.1)) o.2) : Go K 0 [(0, .ref (ad K c0))] [] h := by
  unfold s_X10_here at hyp
  refine g_bind hyp (fun e3 he3 hyp => ?_)
  refine g_sub [0] rfl (g_loop (f := fun s : Hp => s_X10_here_l0 c0  s) (ρ := Hp) (Hd := fun s : Hp => Go K 0 [(0, .ref (ad K c0))] [] s) (Ex := fun e3 => Go K 38 [(0, .ref (ad K c0))] [] e3) (fun s o h1 h2 h3 => o_X10_here_l0 S k0  s h1 h2 h3) FUEL _ e3 he3 ?_)
  refine g_aload_n (pc := 38) 0 S dX10_here_38 rfl ?_
  refine g_getI (pc := 39) S dX10_here_39 fl_X10_339 k0 ?_
  refine g_aload_n (pc := 42) 0 S dX10_here_42 rfl ?_
  refine g_getI (pc := 43) S dX10_here_43 fl_X10_336 k0 ?_
  refine g_icmp_ge (pc := 46) (tgt := 61) S dX10_here_46 (by decide) hyp (fun hyp => ?_) (fun hyp => ?_)
  · refine g_aload_n (pc := 49) 0 S dX10_here_49 rfl ?_
    refine g_getR (pc := 50) S dX10_here_50 fl_X10_85 k0 ?_
    refine g_aload_n (pc := 53) 0 S dX10_here_53 rfl ?_
    refine g_getI (pc := 54) S dX10_here_54 fl_X10_339 k0 ?_
    refine g_iald (pc := 57) S dX10_here_57 (kf_10_23 k0) hyp (fun x4 hyp => ?_)
    refine g_goto (pc := 58) (tgt := 63) S dX10_here_58 (by decide) ?_
    have hyp := Option.some.inj hyp
    subst hyp
    exact g_iret (pc := 63) S F dX10_here_63
  · refine g_bipush (pc := 61) (v := (-9 : Int32)) S dX10_here_61 (by decide) ?_
    have hyp := Option.some.inj hyp
    subst hyp
    exact g_iret (pc := 63) S F dX10_here_63
theorem m_X10_here {l : Launch} {D : va_G} {cT : Nat → ClassId} {aD : Nat → Nat} {c0 : Nat} (k0 : kd c0 (10 + 10, 0))  (h : Hp) {o : Int32 × Hp} (hyp : s_X10_here c0  h = some o) : Ok l D cT aD yX10_here cX10_here 1 (some .int) 0 0 [.ref (aD c0)] h (some (.int o.1)) o.2 :=
  Ok.of (by decide +kernel) rfl (Nat.le_of_ble_eq_true rfl) (fun K e1 e2 e3 e4 S F => by subst e1; exact o_X10_here S k0  h hyp F)
-- BoundProofsModel takes (I)Z
noncomputable def s_X10_takes (c0 : Nat) (a1 : Int32) (h : Hp) : Option (Int32 × Hp) :=
  (s_X10_here c0  h).bind fun y1 =>
  if y1.1 = a1 then (lt (sI y1.2 c0 44 ((y1.2.1 c0 44) + (1 : Int32))) fun h2 =>
  some ((1 : Int32), h2))
  else (some ((0 : Int32), y1.2))
set_option maxRecDepth 100000 in
set_option maxHeartbeats 4000000 in
theorem o_X10_takes {K : gK} (S : Cx K RX10 cX10_takes 2 1 24) {c0 : Nat} (k0 : kd c0 (10 + 10, 0)) (a1 : Int32) (h : Hp) {o : Int32 × Hp} (hyp : s_X10_takes c0 a1 h = some o) (F : Rt K (some .boolean) (some (.int o.1)) o.2) : Go K 0 [(0, .ref (ad K c0)), (1, .int a1)] [] h := by
  unfold s_X10_takes at hyp
  refine g_aload_n (pc := 0) 0 S dX10_takes_0 rfl ?_
  refine g_bind hyp (fun y1 hy1 hyp => ?_)
  refine g_callV (pc := 1) (As := []) (rest := []) S dX10_takes_1 k0 rfl tw_1259 tw_1260 tw_78 mw_X10_here (m_X10_here k0  h hy1) rfl rfl (Nat.le_of_ble_eq_true rfl) (Nat.le_of_ble_eq_true rfl) (Nat.le_of_ble_eq_true rfl) ?_
  refine g_iload_n (pc := 4) 1 S dX10_takes_4 rfl ?_
  refine g_icmp_eq (pc := 5) (tgt := 10) S dX10_takes_5 (by decide) hyp (fun hyp => ?_) (fun hyp => ?_)
  · refine g_aload_n (pc := 10) 0 S dX10_takes_10 rfl ?_
    refine g_dup (pc := 11) S dX10_takes_11 rfl ?_
    refine g_getI (pc := 12) S dX10_takes_12 fl_X10_339 k0 ?_
    refine g_iconst (pc := 15) (v := (1 : Int32)) S dX10_takes_15 (by decide) ?_
    refine g_iadd (pc := 16) S dX10_takes_16 ?_
    refine g_putI (pc := 17) S dX10_takes_17 fl_X10_339 k0 hyp (fun h2 hyp => ?_)
    refine g_iconst (pc := 20) (v := (1 : Int32)) S dX10_takes_20 (by decide) ?_
    have hyp := Option.some.inj hyp
    subst hyp
    exact g_zret (pc := 21) S F dX10_takes_21 (Or.inr rfl)
  · refine g_iconst (pc := 8) (v := (0 : Int32)) S dX10_takes_8 (by decide) ?_
    have hyp := Option.some.inj hyp
    subst hyp
    exact g_zret (pc := 9) S F dX10_takes_9 (Or.inl rfl)
theorem m_X10_takes {l : Launch} {D : va_G} {cT : Nat → ClassId} {aD : Nat → Nat} {c0 : Nat} (k0 : kd c0 (10 + 10, 0)) (a1 : Int32) (h : Hp) {o : Int32 × Hp} (hyp : s_X10_takes c0 a1 h = some o) : Ok l D cT aD yX10_takes cX10_takes 2 (some .boolean) 1 24 [.ref (aD c0), .int a1] h (some (.int o.1)) o.2 :=
  Ok.of (by decide +kernel) rfl (Nat.le_of_ble_eq_true rfl) (fun K e1 e2 e3 e4 S F => by subst e1; exact o_X10_takes S k0 a1 h hyp F)
-- BoundProofsModel number (II)Z
noncomputable def s_X10_number_b94 (c0 : Nat) (a1 : Int32) (a2 : Int32) (a3 : Int32) (t0 : Int32) (h : Hp) : Option ((Hp) ⊕ (Hp)) :=
  lt (sI h c0 45 t0) fun h8 =>
  lt (sI h8 c0 44 ((h8.1 c0 44) + (1 : Int32))) fun h9 =>
  some (.inl h9)
noncomputable def s_X10_number_l26 (c0 : Nat) (a1 : Int32) (a2 : Int32) (a3 : Int32) (h : Hp) : Option ((Hp) ⊕ (Hp)) :=
  if (h.1 c0 44) < (h.1 c0 43) then (ldI h (c0 + 23) 90 (h.1 c0 44) fun x5 =>
  (s_X10_in  x5 (48 : Int32) (57 : Int32) h).bind fun y6 =>
  if y6 = 0 then (some (.inr (h)))
  else (if (h.1 c0 45) < (1000 : Int32) then (ldI h (c0 + 23) 90 (h.1 c0 44) fun x7 =>
  s_X10_number_b94 c0 a1 a2 a3 ((((10 : Int32) * (h.1 c0 45)) + x7) - (48 : Int32)) h)
  else (s_X10_number_b94 c0 a1 a2 a3 (h.1 c0 45) h)))
  else (some (.inr (h)))
noncomputable def s_X10_number_b155 (c0 : Nat) (a3 : Int32) (h : Hp) : Option (Int32 × Hp) :=
  lt (sI h c0 44 a3) fun h13 =>
  some ((0 : Int32), h13)
noncomputable def s_X10_number_b136 (c0 : Nat) (a1 : Int32) (a2 : Int32) (a3 : Int32) (t0 : Int32) (h : Hp) : Option (Int32 × Hp) :=
  if t0 = 0 then ((s_X10_in  (h.1 c0 45) a1 a2 h).bind fun y12 =>
  if y12 = 0 then (s_X10_number_b155 c0 a3 h)
  else (some ((1 : Int32), h)))
  else (s_X10_number_b155 c0 a3 h)
noncomputable def s_X10_number_b135 (c0 : Nat) (a1 : Int32) (a2 : Int32) (a3 : Int32) (h : Hp) : Option (Int32 × Hp) :=
  s_X10_number_b136 c0 a1 a2 a3 (0 : Int32) h
noncomputable def s_X10_number (c0 : Nat) (a1 : Int32) (a2 : Int32) (h : Hp) : Option (Int32 × Hp) :=
  (s_X10_here c0  h).bind fun y1 =>
  (s_X10_in  y1.1 (48 : Int32) (57 : Int32) y1.2).bind fun y2 =>
  if y2 = 0 then (some ((0 : Int32), y1.2))
  else (lt (y1.2.1 c0 44) fun v3_3 =>
  lt (sI y1.2 c0 45 (0 : Int32)) fun h4 =>
  (iter (fun s : Hp => s_X10_number_l26 c0 a1 a2 v3_3 s) FUEL h4).bind fun e10 =>
  ldI e10 (c0 + 23) 90 v3_3 fun x11 =>
  if x11 = (48 : Int32) then (if (1 : Int32) < ((e10.1 c0 44) - v3_3) then (s_X10_number_b136 c0 a1 a2 v3_3 (1 : Int32) e10)
  else (s_X10_number_b135 c0 a1 a2 v3_3 e10))
  else (s_X10_number_b135 c0 a1 a2 v3_3 e10))
set_option maxRecDepth 100000 in
set_option maxHeartbeats 4000000 in
theorem o_X10_number_b94 {K : gK} (S : Cx K RX10 cX10_number 5 1 26) {c0 : Nat} (k0 : kd c0 (10 + 10, 0)) (a1 : Int32) (a2 : Int32) (a3 : Int32) (t0 : Int32) (h : Hp) {o : (Hp) ⊕ (Hp)} (hyp : s_X10_number_b94 c0 a1 a2 a3 t0 h = some o) (hin : ∀ s', o = .inl s' → Go K 26 [(0, .ref (ad K c0)), (1, .int a1), (2, .int a2), (3, .int a3)] [] s') (hex0 : ∀ s', o = .inr (s') → Go K 110 [(0, .ref (ad K c0)), (1, .int a1), (2, .int a2), (3, .int a3)] [] s') : Go K 94 [(0, .ref (ad K c0)), (1, .int a1), (2, .int a2), (3, .int a3)] [.int t0, .ref (ad K c0)] h := by
  unfold s_X10_number_b94 at hyp
  refine g_putI (pc := 94) S dX10_number_94 fl_X10_345 k0 hyp (fun h8 hyp => ?_)
  refine g_aload_n (pc := 97) 0 S dX10_number_97 rfl ?_
  refine g_dup (pc := 98) S dX10_number_98 rfl ?_
  refine g_getI (pc := 99) S dX10_number_99 fl_X10_339 k0 ?_
  refine g_iconst (pc := 102) (v := (1 : Int32)) S dX10_number_102 (by decide) ?_
  refine g_iadd (pc := 103) S dX10_number_103 ?_
  refine g_putI (pc := 104) S dX10_number_104 fl_X10_339 k0 hyp (fun h9 hyp => ?_)
  refine g_goto (pc := 107) (tgt := 26) S dX10_number_107 (by decide) ?_
  have hyp := Option.some.inj hyp
  subst hyp
  exact g_sub [0, 1, 2, 3] rfl (hin h9 rfl)
set_option maxRecDepth 100000 in
set_option maxHeartbeats 4000000 in
theorem o_X10_number_l26 {K : gK} (S : Cx K RX10 cX10_number 5 1 26) {c0 : Nat} (k0 : kd c0 (10 + 10, 0)) (a1 : Int32) (a2 : Int32) (a3 : Int32) (h : Hp) {o : (Hp) ⊕ (Hp)} (hyp : s_X10_number_l26 c0 a1 a2 a3 h = some o) (hin : ∀ s', o = .inl s' → Go K 26 [(0, .ref (ad K c0)), (1, .int a1), (2, .int a2), (3, .int a3)] [] s') (hex0 : ∀ s', o = .inr (s') → Go K 110 [(0, .ref (ad K c0)), (1, .int a1), (2, .int a2), (3, .int a3)] [] s') : Go K 26 [(0, .ref (ad K c0)), (1, .int a1), (2, .int a2), (3, .int a3)] [] h := by
  unfold s_X10_number_l26 at hyp
  refine g_aload_n (pc := 26) 0 S dX10_number_26 rfl ?_
  refine g_getI (pc := 27) S dX10_number_27 fl_X10_339 k0 ?_
  refine g_aload_n (pc := 30) 0 S dX10_number_30 rfl ?_
  refine g_getI (pc := 31) S dX10_number_31 fl_X10_336 k0 ?_
  refine g_icmp_ge (pc := 34) (tgt := 110) S dX10_number_34 (by decide) hyp (fun hyp => ?_) (fun hyp => ?_)
  · refine g_aload_n (pc := 37) 0 S dX10_number_37 rfl ?_
    refine g_getR (pc := 38) S dX10_number_38 fl_X10_85 k0 ?_
    refine g_aload_n (pc := 41) 0 S dX10_number_41 rfl ?_
    refine g_getI (pc := 42) S dX10_number_42 fl_X10_339 k0 ?_
    refine g_iald (pc := 45) S dX10_number_45 (kf_10_23 k0) hyp (fun x5 hyp => ?_)
    refine g_bipush (pc := 46) (v := (48 : Int32)) S dX10_number_46 (by decide) ?_
    refine g_bipush (pc := 48) (v := (57 : Int32)) S dX10_number_48 (by decide) ?_
    refine g_bind hyp (fun y6 hy6 hyp => ?_)
    refine g_callS (pc := 50) (As := [.int x5, .int (48 : Int32), .int (57 : Int32)]) (rest := []) S dX10_number_50 tw_990 tw_991 mw_X10_in (m_X10_in  x5 (48 : Int32) (57 : Int32) h hy6) rfl rfl (Nat.le_of_ble_eq_true rfl) (Nat.le_of_ble_eq_true rfl) (Nat.le_of_ble_eq_true rfl) ?_
    refine g_if_eq (pc := 53) (tgt := 110) S dX10_number_53 (by decide) hyp (fun hyp => ?_) (fun hyp => ?_)
    · have hyp := Option.some.inj hyp
      subst hyp
      exact g_sub [0, 1, 2, 3] rfl (hex0 h rfl)
    · refine g_aload_n (pc := 56) 0 S dX10_number_56 rfl ?_
      refine g_aload_n (pc := 57) 0 S dX10_number_57 rfl ?_
      refine g_getI (pc := 58) S dX10_number_58 fl_X10_345 k0 ?_
      refine g_sipush (pc := 61) (v := (1000 : Int32)) S dX10_number_61 (by decide) ?_
      refine g_icmp_ge (pc := 64) (tgt := 90) S dX10_number_64 (by decide) hyp (fun hyp => ?_) (fun hyp => ?_)
      · refine g_bipush (pc := 67) (v := (10 : Int32)) S dX10_number_67 (by decide) ?_
        refine g_aload_n (pc := 69) 0 S dX10_number_69 rfl ?_
        refine g_getI (pc := 70) S dX10_number_70 fl_X10_345 k0 ?_
        refine g_imul (pc := 73) S dX10_number_73 ?_
        refine g_aload_n (pc := 74) 0 S dX10_number_74 rfl ?_
        refine g_getR (pc := 75) S dX10_number_75 fl_X10_85 k0 ?_
        refine g_aload_n (pc := 78) 0 S dX10_number_78 rfl ?_
        refine g_getI (pc := 79) S dX10_number_79 fl_X10_339 k0 ?_
        refine g_iald (pc := 82) S dX10_number_82 (kf_10_23 k0) hyp (fun x7 hyp => ?_)
        refine g_iadd (pc := 83) S dX10_number_83 ?_
        refine g_bipush (pc := 84) (v := (48 : Int32)) S dX10_number_84 (by decide) ?_
        refine g_isub (pc := 86) S dX10_number_86 ?_
        refine g_goto (pc := 87) (tgt := 94) S dX10_number_87 (by decide) ?_
        exact g_sub [0, 1, 2, 3] rfl (o_X10_number_b94 S k0 a1 a2 a3 ((((10 : Int32) * (h.1 c0 45)) + x7) - (48 : Int32)) h hyp hin hex0)
      · refine g_aload_n (pc := 90) 0 S dX10_number_90 rfl ?_
        refine g_getI (pc := 91) S dX10_number_91 fl_X10_345 k0 ?_
        exact g_sub [0, 1, 2, 3] rfl (o_X10_number_b94 S k0 a1 a2 a3 (h.1 c0 45) h hyp hin hex0)
  · have hyp := Option.some.inj hyp
    subst hyp
    exact g_sub [0, 1, 2, 3] rfl (hex0 h rfl)
set_option maxRecDepth 100000 in
set_option maxHeartbeats 4000000 in
theorem o_X10_number_b155 {K : gK} (S : Cx K RX10 cX10_number 5 1 26) {c0 : Nat} (k0 : kd c0 (10 + 10, 0)) (a3 : Int32) (h : Hp) {o : Int32 × Hp} (hyp : s_X10_number_b155 c0 a3 h = some o) (F : Rt K (some .boolean) (some (.int o.1)) o.2) : Go K 155 [(0, .ref (ad K c0)), (3, .int a3)] [] h := by
  unfold s_X10_number_b155 at hyp
  refine g_aload_n (pc := 155) 0 S dX10_number_155 rfl ?_
  refine g_iload_n (pc := 156) 1 S dX10_number_156 rfl ?_
  refine g_putI (pc := 157) S dX10_number_157 fl_X10_339 k0 hyp (fun h13 hyp => ?_)
  refine g_iconst (pc := 160) (v := (0 : Int32)) S dX10_number_160 (by decide) ?_
  have hyp := Option.some.inj hyp
  subst hyp
  exact g_zret (pc := 161) S F dX10_number_161 (Or.inl rfl)
set_option maxRecDepth 100000 in
set_option maxHeartbeats 4000000 in
theorem o_X10_number_b136 {K : gK} (S : Cx K RX10 cX10_number 5 1 26) {c0 : Nat} (k0 : kd c0 (10 + 10, 0)) (a1 : Int32) (a2 : Int32) (a3 : Int32) (t0 : Int32) (h : Hp) {o : Int32 × Hp} (hyp : s_X10_number_b136 c0 a1 a2 a3 t0 h = some o) (F : Rt K (some .boolean) (some (.int o.1)) o.2) : Go K 136 [(0, .ref (ad K c0)), (1, .int a1), (2, .int a2), (3, .int a3)] [.int t0] h := by
  unfold s_X10_number_b136 at hyp
  refine g_istore (pc := 136) (lv' := [(4, .int t0), (0, .ref (ad K c0)), (1, .int a1), (2, .int a2), (3, .int a3)]) S dX10_number_136 (by decide) rfl ?_
  refine g_iload (pc := 138) 0 S dX10_number_138 rfl ?_
  refine g_if_ne (pc := 140) (tgt := 155) S dX10_number_140 (by decide) hyp (fun hyp => ?_) (fun hyp => ?_)
  · refine g_aload_n (pc := 143) 1 S dX10_number_143 rfl ?_
    refine g_getI (pc := 144) S dX10_number_144 fl_X10_345 k0 ?_
    refine g_iload_n (pc := 147) 2 S dX10_number_147 rfl ?_
    refine g_iload_n (pc := 148) 3 S dX10_number_148 rfl ?_
    refine g_bind hyp (fun y12 hy12 hyp => ?_)
    refine g_callS (pc := 149) (As := [.int (h.1 c0 45), .int a1, .int a2]) (rest := []) S dX10_number_149 tw_990 tw_991 mw_X10_in (m_X10_in  (h.1 c0 45) a1 a2 h hy12) rfl rfl (Nat.le_of_ble_eq_true rfl) (Nat.le_of_ble_eq_true rfl) (Nat.le_of_ble_eq_true rfl) ?_
    refine g_if_ne (pc := 152) (tgt := 162) S dX10_number_152 (by decide) hyp (fun hyp => ?_) (fun hyp => ?_)
    · exact g_sub [1, 4] rfl (o_X10_number_b155 S k0 a3 h hyp F)
    · refine g_iconst (pc := 162) (v := (1 : Int32)) S dX10_number_162 (by decide) ?_
      have hyp := Option.some.inj hyp
      subst hyp
      exact g_zret (pc := 163) S F dX10_number_163 (Or.inr rfl)
  · exact g_sub [1, 4] rfl (o_X10_number_b155 S k0 a3 h hyp F)
set_option maxRecDepth 100000 in
set_option maxHeartbeats 4000000 in
theorem o_X10_number_b135 {K : gK} (S : Cx K RX10 cX10_number 5 1 26) {c0 : Nat} (k0 : kd c0 (10 + 10, 0)) (a1 : Int32) (a2 : Int32) (a3 : Int32) (h : Hp) {o : Int32 × Hp} (hyp : s_X10_number_b135 c0 a1 a2 a3 h = some o) (F : Rt K (some .boolean) (some (.int o.1)) o.2) : Go K 135 [(0, .ref (ad K c0)), (1, .int a1), (2, .int a2), (3, .int a3)] [] h := by
  unfold s_X10_number_b135 at hyp
  refine g_iconst (pc := 135) (v := (0 : Int32)) S dX10_number_135 (by decide) ?_
  exact g_sub [0, 1, 2, 3] rfl (o_X10_number_b136 S k0 a1 a2 a3 (0 : Int32) h hyp F)
set_option maxRecDepth 100000 in
set_option maxHeartbeats 4000000 in
theorem o_X10_number {K : gK} (S : Cx K RX10 cX10_number 5 1 26) {c0 : Nat} (k0 : kd c0 (10 + 10, 0)) (a1 : Int32) (a2 : Int32) (h : Hp) {o : Int32 × Hp} (hyp : s_X10_number c0 a1 a2 h = some o) (F : Rt K (some .boolean) (some (.int o.1)) o.2) : Go K 0 [(0, .ref (ad K c0)), (1, .int a1), (2, .int a2)] [] h := by
  unfold s_X10_number at hyp
  refine g_aload_n (pc := 0) 0 S dX10_number_0 rfl ?_
  refine g_bind hyp (fun y1 hy1 hyp => ?_)
  refine g_callV (pc := 1) (As := []) (rest := []) S dX10_number_1 k0 rfl tw_1259 tw_1260 tw_78 mw_X10_here (m_X10_here k0  h hy1) rfl rfl (Nat.le_of_ble_eq_true rfl) (Nat.le_of_ble_eq_true rfl) (Nat.le_of_ble_eq_true rfl) ?_
  refine g_bipush (pc := 4) (v := (48 : Int32)) S dX10_number_4 (by decide) ?_
  refine g_bipush (pc := 6) (v := (57 : Int32)) S dX10_number_6 (by decide) ?_
  refine g_bind hyp (fun y2 hy2 hyp => ?_)
  refine g_callS (pc := 8) (As := [.int y1.1, .int (48 : Int32), .int (57 : Int32)]) (rest := []) S dX10_number_8 tw_990 tw_991 mw_X10_in (m_X10_in  y1.1 (48 : Int32) (57 : Int32) y1.2 hy2) rfl rfl (Nat.le_of_ble_eq_true rfl) (Nat.le_of_ble_eq_true rfl) (Nat.le_of_ble_eq_true rfl) ?_
  refine g_if_ne (pc := 11) (tgt := 16) S dX10_number_11 (by decide) hyp (fun hyp => ?_) (fun hyp => ?_)
  · refine g_iconst (pc := 14) (v := (0 : Int32)) S dX10_number_14 (by decide) ?_
    have hyp := Option.some.inj hyp
    subst hyp
    exact g_zret (pc := 15) S F dX10_number_15 (Or.inl rfl)
  · refine g_aload_n (pc := 16) 0 S dX10_number_16 rfl ?_
    refine g_getI (pc := 17) S dX10_number_17 fl_X10_339 k0 ?_
    refine g_lti (C := fun v3_3 => Go K 20 [(0, .ref (ad K c0)), (1, .int a1), (2, .int a2)] [.int v3_3] y1.2) hyp (fun v3_3 hyp => ?_)
    refine g_istore_n (pc := 20) (lv' := [(3, .int v3_3), (0, .ref (ad K c0)), (1, .int a1), (2, .int a2)]) S dX10_number_20 rfl (by decide) rfl ?_
    refine g_aload_n (pc := 21) 1 S dX10_number_21 rfl ?_
    refine g_iconst (pc := 22) (v := (0 : Int32)) S dX10_number_22 (by decide) ?_
    refine g_putI (pc := 23) S dX10_number_23 fl_X10_345 k0 hyp (fun h4 hyp => ?_)
    refine g_bind hyp (fun e10 he10 hyp => ?_)
    refine g_sub [1, 2, 3, 0] rfl (g_loop (f := fun s : Hp => s_X10_number_l26 c0 a1 a2 v3_3 s) (ρ := Hp) (Hd := fun s : Hp => Go K 26 [(0, .ref (ad K c0)), (1, .int a1), (2, .int a2), (3, .int v3_3)] [] s) (Ex := fun e10 => Go K 110 [(0, .ref (ad K c0)), (1, .int a1), (2, .int a2), (3, .int v3_3)] [] e10) (fun s o h1 h2 h3 => o_X10_number_l26 S k0 a1 a2 v3_3 s h1 h2 h3) FUEL _ e10 he10 ?_)
    refine g_aload_n (pc := 110) 0 S dX10_number_110 rfl ?_
    refine g_getR (pc := 111) S dX10_number_111 fl_X10_85 k0 ?_
    refine g_iload_n (pc := 114) 3 S dX10_number_114 rfl ?_
    refine g_iald (pc := 115) S dX10_number_115 (kf_10_23 k0) hyp (fun x11 hyp => ?_)
    refine g_bipush (pc := 116) (v := (48 : Int32)) S dX10_number_116 (by decide) ?_
    refine g_icmp_ne (pc := 118) (tgt := 135) S dX10_number_118 (by decide) hyp (fun hyp => ?_) (fun hyp => ?_)
    · refine g_aload_n (pc := 121) 0 S dX10_number_121 rfl ?_
      refine g_getI (pc := 122) S dX10_number_122 fl_X10_339 k0 ?_
      refine g_iload_n (pc := 125) 3 S dX10_number_125 rfl ?_
      refine g_isub (pc := 126) S dX10_number_126 ?_
      refine g_iconst (pc := 127) (v := (1 : Int32)) S dX10_number_127 (by decide) ?_
      refine g_icmp_le (pc := 128) (tgt := 135) S dX10_number_128 (by decide) hyp (fun hyp => ?_) (fun hyp => ?_)
      · refine g_iconst (pc := 131) (v := (1 : Int32)) S dX10_number_131 (by decide) ?_
        refine g_goto (pc := 132) (tgt := 136) S dX10_number_132 (by decide) ?_
        exact g_sub [0, 1, 2, 3] rfl (o_X10_number_b136 S k0 a1 a2 v3_3 (1 : Int32) e10 hyp F)
      · exact g_sub [0, 1, 2, 3] rfl (o_X10_number_b135 S k0 a1 a2 v3_3 e10 hyp F)
    · exact g_sub [0, 1, 2, 3] rfl (o_X10_number_b135 S k0 a1 a2 v3_3 e10 hyp F)
theorem m_X10_number {l : Launch} {D : va_G} {cT : Nat → ClassId} {aD : Nat → Nat} {c0 : Nat} (k0 : kd c0 (10 + 10, 0)) (a1 : Int32) (a2 : Int32) (h : Hp) {o : Int32 × Hp} (hyp : s_X10_number c0 a1 a2 h = some o) : Ok l D cT aD yX10_number cX10_number 5 (some .boolean) 1 26 [.ref (aD c0), .int a1, .int a2] h (some (.int o.1)) o.2 :=
  Ok.of (by decide +kernel) rfl (Nat.le_of_ble_eq_true rfl) (fun K e1 e2 e3 e4 S F => by subst e1; exact o_X10_number S k0 a1 a2 h hyp F)
-- BoundProofsModel readsVariables (I)Z
noncomputable def s_X10_readsVariables (c0 : Nat) (a1 : Int32) (h : Hp) : Option (Int32 × Hp) :=
  if 0 < a1 then (some ((0 : Int32), h))
  else (lt (sI h c0 44 ((h.1 c0 44) + (1 : Int32))) fun h1 =>
  (s_X10_number c0 (1 : Int32) (3 : Int32) h1).bind fun y2 =>
  if y2.1 = 0 then (some ((0 : Int32), y2.2))
  else (lt (sI y2.2 c0 46 (y2.2.1 c0 45)) fun h3 =>
  (s_X10_takes c0 (59 : Int32) h3).bind fun y4 =>
  ckB y4.1 <|
  some (y4.1, y4.2)))
set_option maxRecDepth 100000 in
set_option maxHeartbeats 4000000 in
theorem o_X10_readsVariables {K : gK} (S : Cx K RX10 cX10_readsVariables 2 2 54) {c0 : Nat} (k0 : kd c0 (10 + 10, 0)) (a1 : Int32) (h : Hp) {o : Int32 × Hp} (hyp : s_X10_readsVariables c0 a1 h = some o) (F : Rt K (some .boolean) (some (.int o.1)) o.2) : Go K 0 [(0, .ref (ad K c0)), (1, .int a1)] [] h := by
  unfold s_X10_readsVariables at hyp
  refine g_iload_n (pc := 0) 1 S dX10_readsVariables_0 rfl ?_
  refine g_if_le (pc := 1) (tgt := 6) S dX10_readsVariables_1 (by decide) hyp (fun hyp => ?_) (fun hyp => ?_)
  · refine g_iconst (pc := 4) (v := (0 : Int32)) S dX10_readsVariables_4 (by decide) ?_
    have hyp := Option.some.inj hyp
    subst hyp
    exact g_zret (pc := 5) S F dX10_readsVariables_5 (Or.inl rfl)
  · refine g_aload_n (pc := 6) 0 S dX10_readsVariables_6 rfl ?_
    refine g_dup (pc := 7) S dX10_readsVariables_7 rfl ?_
    refine g_getI (pc := 8) S dX10_readsVariables_8 fl_X10_339 k0 ?_
    refine g_iconst (pc := 11) (v := (1 : Int32)) S dX10_readsVariables_11 (by decide) ?_
    refine g_iadd (pc := 12) S dX10_readsVariables_12 ?_
    refine g_putI (pc := 13) S dX10_readsVariables_13 fl_X10_339 k0 hyp (fun h1 hyp => ?_)
    refine g_aload_n (pc := 16) 0 S dX10_readsVariables_16 rfl ?_
    refine g_iconst (pc := 17) (v := (1 : Int32)) S dX10_readsVariables_17 (by decide) ?_
    refine g_iconst (pc := 18) (v := (3 : Int32)) S dX10_readsVariables_18 (by decide) ?_
    refine g_bind hyp (fun y2 hy2 hyp => ?_)
    refine g_callV (pc := 19) (As := [.int (1 : Int32), .int (3 : Int32)]) (rest := []) S dX10_readsVariables_19 k0 rfl tw_1268 tw_1269 tw_81 mw_X10_number (m_X10_number k0 (1 : Int32) (3 : Int32) h1 hy2) rfl rfl (Nat.le_of_ble_eq_true rfl) (Nat.le_of_ble_eq_true rfl) (Nat.le_of_ble_eq_true rfl) ?_
    refine g_if_ne (pc := 22) (tgt := 27) S dX10_readsVariables_22 (by decide) hyp (fun hyp => ?_) (fun hyp => ?_)
    · refine g_iconst (pc := 25) (v := (0 : Int32)) S dX10_readsVariables_25 (by decide) ?_
      have hyp := Option.some.inj hyp
      subst hyp
      exact g_zret (pc := 26) S F dX10_readsVariables_26 (Or.inl rfl)
    · refine g_aload_n (pc := 27) 0 S dX10_readsVariables_27 rfl ?_
      refine g_aload_n (pc := 28) 0 S dX10_readsVariables_28 rfl ?_
      refine g_getI (pc := 29) S dX10_readsVariables_29 fl_X10_345 k0 ?_
      refine g_putI (pc := 32) S dX10_readsVariables_32 fl_X10_351 k0 hyp (fun h3 hyp => ?_)
      refine g_aload_n (pc := 35) 0 S dX10_readsVariables_35 rfl ?_
      refine g_bipush (pc := 36) (v := (59 : Int32)) S dX10_readsVariables_36 (by decide) ?_
      refine g_bind hyp (fun y4 hy4 hyp => ?_)
      refine g_callV (pc := 38) (As := [.int (59 : Int32)]) (rest := []) S dX10_readsVariables_38 k0 rfl tw_1271 tw_1272 tw_82 mw_X10_takes (m_X10_takes k0 (59 : Int32) h3 hy4) rfl rfl (Nat.le_of_ble_eq_true rfl) (Nat.le_of_ble_eq_true rfl) (Nat.le_of_ble_eq_true rfl) ?_
      refine g_ckB hyp (fun hz hyp => ?_)
      have hyp := Option.some.inj hyp
      subst hyp
      exact g_zret (pc := 41) S F dX10_readsVariables_41 hz
theorem m_X10_readsVariables {l : Launch} {D : va_G} {cT : Nat → ClassId} {aD : Nat → Nat} {c0 : Nat} (k0 : kd c0 (10 + 10, 0)) (a1 : Int32) (h : Hp) {o : Int32 × Hp} (hyp : s_X10_readsVariables c0 a1 h = some o) : Ok l D cT aD yX10_readsVariables cX10_readsVariables 2 (some .boolean) 2 54 [.ref (aD c0), .int a1] h (some (.int o.1)) o.2 :=
  Ok.of (by decide +kernel) rfl (Nat.le_of_ble_eq_true rfl) (fun K e1 e2 e3 e4 S F => by subst e1; exact o_X10_readsVariables S k0 a1 h hyp F)
-- BoundProofsModel readsTerm (I)Z
noncomputable def s_X10_readsTerm_b32 (c0 : Nat) (a1 : Int32) (a2 : Int32) (h : Hp) : Option (Int32 × Hp) :=
  (s_X10_here c0  h).bind fun y3 =>
  lt (y3.1 - (97 : Int32)) fun v3_4 =>
  (s_X10_in  v3_4 (0 : Int32) ((y3.2.1 c0 46) - (1 : Int32)) y3.2).bind fun y5 =>
  if y5 = 0 then (some ((0 : Int32), y3.2))
  else (lt (sI y3.2 c0 44 ((y3.2.1 c0 44) + (1 : Int32))) fun h6 =>
  ldI h6 (c0 + 24) 24 (((3 : Int32) * (h6.1 c0 47)) + v3_4) fun x7 =>
  stI h6 (c0 + 24) 24 (((3 : Int32) * (h6.1 c0 47)) + v3_4) (x7 + (a1 * a2)) fun h8 =>
  some ((1 : Int32), h8))
noncomputable def s_X10_readsTerm (c0 : Nat) (a1 : Int32) (h : Hp) : Option (Int32 × Hp) :=
  (s_X10_here c0  h).bind fun y1 =>
  (s_X10_in  y1.1 (48 : Int32) (57 : Int32) y1.2).bind fun y2 =>
  if y2 = 0 then (s_X10_readsTerm_b32 c0 a1 (1 : Int32) y1.2)
  else ((s_X10_number c0 (1 : Int32) (3 : Int32) y1.2).bind fun y9 =>
  if y9.1 = 0 then (some ((0 : Int32), y9.2))
  else (lt (y9.2.1 c0 45) fun v2_10 =>
  s_X10_readsTerm_b32 c0 a1 v2_10 y9.2))
set_option maxRecDepth 100000 in
set_option maxHeartbeats 4000000 in
theorem o_X10_readsTerm_b32 {K : gK} (S : Cx K RX10 cX10_readsTerm 4 2 54) {c0 : Nat} (k0 : kd c0 (10 + 10, 0)) (a1 : Int32) (a2 : Int32) (h : Hp) {o : Int32 × Hp} (hyp : s_X10_readsTerm_b32 c0 a1 a2 h = some o) (F : Rt K (some .boolean) (some (.int o.1)) o.2) : Go K 32 [(0, .ref (ad K c0)), (1, .int a1), (2, .int a2)] [] h := by
  unfold s_X10_readsTerm_b32 at hyp
  refine g_aload_n (pc := 32) 0 S dX10_readsTerm_32 rfl ?_
  refine g_bind hyp (fun y3 hy3 hyp => ?_)
  refine g_callV (pc := 33) (As := []) (rest := []) S dX10_readsTerm_33 k0 rfl tw_1259 tw_1260 tw_78 mw_X10_here (m_X10_here k0  h hy3) rfl rfl (Nat.le_of_ble_eq_true rfl) (Nat.le_of_ble_eq_true rfl) (Nat.le_of_ble_eq_true rfl) ?_
  refine g_bipush (pc := 36) (v := (97 : Int32)) S dX10_readsTerm_36 (by decide) ?_
  refine g_isub (pc := 38) S dX10_readsTerm_38 ?_
  refine g_lti (C := fun v3_4 => Go K 39 [(0, .ref (ad K c0)), (1, .int a1), (2, .int a2)] [.int v3_4] y3.2) hyp (fun v3_4 hyp => ?_)
  refine g_istore_n (pc := 39) (lv' := [(3, .int v3_4), (0, .ref (ad K c0)), (1, .int a1), (2, .int a2)]) S dX10_readsTerm_39 rfl (by decide) rfl ?_
  refine g_iload_n (pc := 40) 0 S dX10_readsTerm_40 rfl ?_
  refine g_iconst (pc := 41) (v := (0 : Int32)) S dX10_readsTerm_41 (by decide) ?_
  refine g_aload_n (pc := 42) 1 S dX10_readsTerm_42 rfl ?_
  refine g_getI (pc := 43) S dX10_readsTerm_43 fl_X10_351 k0 ?_
  refine g_iconst (pc := 46) (v := (1 : Int32)) S dX10_readsTerm_46 (by decide) ?_
  refine g_isub (pc := 47) S dX10_readsTerm_47 ?_
  refine g_bind hyp (fun y5 hy5 hyp => ?_)
  refine g_callS (pc := 48) (As := [.int v3_4, .int (0 : Int32), .int ((y3.2.1 c0 46) - (1 : Int32))]) (rest := []) S dX10_readsTerm_48 tw_990 tw_991 mw_X10_in (m_X10_in  v3_4 (0 : Int32) ((y3.2.1 c0 46) - (1 : Int32)) y3.2 hy5) rfl rfl (Nat.le_of_ble_eq_true rfl) (Nat.le_of_ble_eq_true rfl) (Nat.le_of_ble_eq_true rfl) ?_
  refine g_if_ne (pc := 51) (tgt := 56) S dX10_readsTerm_51 (by decide) hyp (fun hyp => ?_) (fun hyp => ?_)
  · refine g_iconst (pc := 54) (v := (0 : Int32)) S dX10_readsTerm_54 (by decide) ?_
    have hyp := Option.some.inj hyp
    subst hyp
    exact g_zret (pc := 55) S F dX10_readsTerm_55 (Or.inl rfl)
  · refine g_aload_n (pc := 56) 1 S dX10_readsTerm_56 rfl ?_
    refine g_dup (pc := 57) S dX10_readsTerm_57 rfl ?_
    refine g_getI (pc := 58) S dX10_readsTerm_58 fl_X10_339 k0 ?_
    refine g_iconst (pc := 61) (v := (1 : Int32)) S dX10_readsTerm_61 (by decide) ?_
    refine g_iadd (pc := 62) S dX10_readsTerm_62 ?_
    refine g_putI (pc := 63) S dX10_readsTerm_63 fl_X10_339 k0 hyp (fun h6 hyp => ?_)
    refine g_aload_n (pc := 66) 1 S dX10_readsTerm_66 rfl ?_
    refine g_getR (pc := 67) S dX10_readsTerm_67 fl_X10_88 k0 ?_
    refine g_iconst (pc := 70) (v := (3 : Int32)) S dX10_readsTerm_70 (by decide) ?_
    refine g_aload_n (pc := 71) 1 S dX10_readsTerm_71 rfl ?_
    refine g_getI (pc := 72) S dX10_readsTerm_72 fl_X10_357 k0 ?_
    refine g_imul (pc := 75) S dX10_readsTerm_75 ?_
    refine g_iload_n (pc := 76) 0 S dX10_readsTerm_76 rfl ?_
    refine g_iadd (pc := 77) S dX10_readsTerm_77 ?_
    refine g_dup2 (pc := 78) S dX10_readsTerm_78 rfl rfl ?_
    refine g_iald (pc := 79) S dX10_readsTerm_79 (kf_10_24 k0) hyp (fun x7 hyp => ?_)
    refine g_iload_n (pc := 80) 2 S dX10_readsTerm_80 rfl ?_
    refine g_iload_n (pc := 81) 3 S dX10_readsTerm_81 rfl ?_
    refine g_imul (pc := 82) S dX10_readsTerm_82 ?_
    refine g_iadd (pc := 83) S dX10_readsTerm_83 ?_
    refine g_iast (pc := 84) S dX10_readsTerm_84 (kf_10_24 k0) hyp (fun h8 hyp => ?_)
    refine g_iconst (pc := 85) (v := (1 : Int32)) S dX10_readsTerm_85 (by decide) ?_
    have hyp := Option.some.inj hyp
    subst hyp
    exact g_zret (pc := 86) S F dX10_readsTerm_86 (Or.inr rfl)
set_option maxRecDepth 100000 in
set_option maxHeartbeats 4000000 in
theorem o_X10_readsTerm {K : gK} (S : Cx K RX10 cX10_readsTerm 4 2 54) {c0 : Nat} (k0 : kd c0 (10 + 10, 0)) (a1 : Int32) (h : Hp) {o : Int32 × Hp} (hyp : s_X10_readsTerm c0 a1 h = some o) (F : Rt K (some .boolean) (some (.int o.1)) o.2) : Go K 0 [(0, .ref (ad K c0)), (1, .int a1)] [] h := by
  unfold s_X10_readsTerm at hyp
  refine g_iconst (pc := 0) (v := (1 : Int32)) S dX10_readsTerm_0 (by decide) ?_
  refine g_istore_n (pc := 1) (lv' := [(2, .int (1 : Int32)), (0, .ref (ad K c0)), (1, .int a1)]) S dX10_readsTerm_1 rfl (by decide) rfl ?_
  refine g_aload_n (pc := 2) 1 S dX10_readsTerm_2 rfl ?_
  refine g_bind hyp (fun y1 hy1 hyp => ?_)
  refine g_callV (pc := 3) (As := []) (rest := []) S dX10_readsTerm_3 k0 rfl tw_1259 tw_1260 tw_78 mw_X10_here (m_X10_here k0  h hy1) rfl rfl (Nat.le_of_ble_eq_true rfl) (Nat.le_of_ble_eq_true rfl) (Nat.le_of_ble_eq_true rfl) ?_
  refine g_bipush (pc := 6) (v := (48 : Int32)) S dX10_readsTerm_6 (by decide) ?_
  refine g_bipush (pc := 8) (v := (57 : Int32)) S dX10_readsTerm_8 (by decide) ?_
  refine g_bind hyp (fun y2 hy2 hyp => ?_)
  refine g_callS (pc := 10) (As := [.int y1.1, .int (48 : Int32), .int (57 : Int32)]) (rest := []) S dX10_readsTerm_10 tw_990 tw_991 mw_X10_in (m_X10_in  y1.1 (48 : Int32) (57 : Int32) y1.2 hy2) rfl rfl (Nat.le_of_ble_eq_true rfl) (Nat.le_of_ble_eq_true rfl) (Nat.le_of_ble_eq_true rfl) ?_
  refine g_if_eq (pc := 13) (tgt := 32) S dX10_readsTerm_13 (by decide) hyp (fun hyp => ?_) (fun hyp => ?_)
  · exact g_sub [1, 2, 0] rfl (o_X10_readsTerm_b32 S k0 a1 (1 : Int32) y1.2 hyp F)
  · refine g_aload_n (pc := 16) 1 S dX10_readsTerm_16 rfl ?_
    refine g_iconst (pc := 17) (v := (1 : Int32)) S dX10_readsTerm_17 (by decide) ?_
    refine g_iconst (pc := 18) (v := (3 : Int32)) S dX10_readsTerm_18 (by decide) ?_
    refine g_bind hyp (fun y9 hy9 hyp => ?_)
    refine g_callV (pc := 19) (As := [.int (1 : Int32), .int (3 : Int32)]) (rest := []) S dX10_readsTerm_19 k0 rfl tw_1268 tw_1269 tw_81 mw_X10_number (m_X10_number k0 (1 : Int32) (3 : Int32) y1.2 hy9) rfl rfl (Nat.le_of_ble_eq_true rfl) (Nat.le_of_ble_eq_true rfl) (Nat.le_of_ble_eq_true rfl) ?_
    refine g_if_ne (pc := 22) (tgt := 27) S dX10_readsTerm_22 (by decide) hyp (fun hyp => ?_) (fun hyp => ?_)
    · refine g_iconst (pc := 25) (v := (0 : Int32)) S dX10_readsTerm_25 (by decide) ?_
      have hyp := Option.some.inj hyp
      subst hyp
      exact g_zret (pc := 26) S F dX10_readsTerm_26 (Or.inl rfl)
    · refine g_aload_n (pc := 27) 1 S dX10_readsTerm_27 rfl ?_
      refine g_getI (pc := 28) S dX10_readsTerm_28 fl_X10_345 k0 ?_
      refine g_lti (C := fun v2_10 => Go K 31 [(2, .int (1 : Int32)), (0, .ref (ad K c0)), (1, .int a1)] [.int v2_10] y9.2) hyp (fun v2_10 hyp => ?_)
      refine g_istore_n (pc := 31) (lv' := [(2, .int v2_10), (0, .ref (ad K c0)), (1, .int a1)]) S dX10_readsTerm_31 rfl (by decide) rfl ?_
      exact g_sub [1, 2, 0] rfl (o_X10_readsTerm_b32 S k0 a1 v2_10 y9.2 hyp F)
theorem m_X10_readsTerm {l : Launch} {D : va_G} {cT : Nat → ClassId} {aD : Nat → Nat} {c0 : Nat} (k0 : kd c0 (10 + 10, 0)) (a1 : Int32) (h : Hp) {o : Int32 × Hp} (hyp : s_X10_readsTerm c0 a1 h = some o) : Ok l D cT aD yX10_readsTerm cX10_readsTerm 4 (some .boolean) 2 54 [.ref (aD c0), .int a1] h (some (.int o.1)) o.2 :=
  Ok.of (by decide +kernel) rfl (Nat.le_of_ble_eq_true rfl) (fun K e1 e2 e3 e4 S F => by subst e1; exact o_X10_readsTerm S k0 a1 h hyp F)
