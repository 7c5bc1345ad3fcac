-- BoundProofs$Reader append (I)Z
noncomputable def s_X6_append (c0 : Nat) (a1 : Int32) (h : Hp) : Option (Int32 × Hp) :=
  if (h.1 c0 1) < (90 : Int32) then (stI h (c0 + 1) 90 (h.1 c0 1) a1 fun h1 =>
  lt (sI h1 c0 1 ((h1.1 c0 1) + (1 : Int32))) fun h2 =>
  some ((1 : Int32), h2))
  else (some ((0 : Int32), h))
set_option maxRecDepth 100000 in
set_option maxHeartbeats 4000000 in
theorem o_X6_append {K : gK} (S : Cx K RX6 cX6_append 2 0 0) {c0 : Nat} (k0 : kd c0 (10 + 6, 0)) (a1 : Int32) (h : Hp) {o : Int32 × Hp} (hyp : s_X6_append c0 a1 h = some o) (F : Rt K (some .boolean) (some (.int o.1)) o.2) : Go K 0 [(0, .ref (ad K c0)), (1, .int a1)] [] h := by
  unfold s_X6_append at hyp
  refine g_aload_n (pc := 0) 0 S dX6_append_0 rfl ?_
  refine g_getI (pc := 1) S dX6_append_1 fl_X6_15 k0 ?_
  refine g_bipush (pc := 4) (v := (90 : Int32)) S dX6_append_4 (by decide) ?_
  refine g_icmp_lt (pc := 6) (tgt := 11) S dX6_append_6 (by decide) hyp (fun hyp => ?_) (fun hyp => ?_)
  · refine g_aload_n (pc := 11) 0 S dX6_append_11 rfl ?_
    refine g_getR (pc := 12) S dX6_append_12 fl_X6_9 k0 ?_
    refine g_aload_n (pc := 15) 0 S dX6_append_15 rfl ?_
    refine g_getI (pc := 16) S dX6_append_16 fl_X6_15 k0 ?_
    refine g_iload_n (pc := 19) 1 S dX6_append_19 rfl ?_
    refine g_iast (pc := 20) S dX6_append_20 (kf_6_1 k0) hyp (fun h1 hyp => ?_)
    refine g_aload_n (pc := 21) 0 S dX6_append_21 rfl ?_
    refine g_dup (pc := 22) S dX6_append_22 rfl ?_
    refine g_getI (pc := 23) S dX6_append_23 fl_X6_15 k0 ?_
    refine g_iconst (pc := 26) (v := (1 : Int32)) S dX6_append_26 (by decide) ?_
    refine g_iadd (pc := 27) S dX6_append_27 ?_
    refine g_putI (pc := 28) S dX6_append_28 fl_X6_15 k0 hyp (fun h2 hyp => ?_)
    refine g_iconst (pc := 31) (v := (1 : Int32)) S dX6_append_31 (by decide) ?_
    have hyp := Option.some.inj hyp
    subst hyp
    exact g_zret (pc := 32) S F dX6_append_32 (Or.inr rfl)
  · refine g_iconst (pc := 9) (v := (0 : Int32)) S dX6_append_9 (by decide) ?_
    have hyp := Option.some.inj hyp
    subst hyp
    exact g_zret (pc := 10) S F dX6_append_10 (Or.inl rfl)
theorem m_X6_append {l : Launch} {D : va_G} {cT : Nat → ClassId} {aD : Nat → Nat} {c0 : Nat} (k0 : kd c0 (10 + 6, 0)) (a1 : Int32) (h : Hp) {o : Int32 × Hp} (hyp : s_X6_append c0 a1 h = some o) : Ok l D cT aD yX6_append cX6_append 2 (some .boolean) 0 0 [.ref (aD c0), .int a1] h (some (.int o.1)) o.2 :=
  Ok.of (by decide +kernel) rfl (Nat.le_of_ble_eq_true rfl) (fun K e1 e2 e3 e4 S F => by subst e1; exact o_X6_append S k0 a1 h hyp F)
-- BoundProofs type (I)I
noncomputable def s_X9_type (c0 : Nat) (a1 : Int32) (h : Hp) : Option (Int32 × Hp) :=
  if a1 < 0 then (some ((-1 : Int32), h))
  else (if (255 : Int32) < a1 then (some ((-1 : Int32), h))
  else ((s_X6_append (c0 + 27) a1 h).bind fun y1 =>
  if y1.1 = 0 then (some ((-3 : Int32), y1.2))
  else (some ((y1.2.1 (c0 + 27) 1), y1.2))))
set_option maxRecDepth 100000 in
set_option maxHeartbeats 4000000 in
theorem o_X9_type {K : gK} (S : Cx K RX9 cX9_type 2 1 25) {c0 : Nat} (k0 : kd c0 (10 + 9, 0)) (a1 : Int32) (h : Hp) {o : Int32 × Hp} (hyp : s_X9_type c0 a1 h = some o) (F : Rt K (some .int) (some (.int o.1)) o.2) : Go K 0 [(0, .ref (ad K c0)), (1, .int a1)] [] h := by
  unfold s_X9_type at hyp
  refine g_iload_n (pc := 0) 1 S dX9_type_0 rfl ?_
  refine g_if_lt (pc := 1) (tgt := 11) S dX9_type_1 (by decide) hyp (fun hyp => ?_) (fun hyp => ?_)
  · refine g_iconst (pc := 11) (v := (-1 : Int32)) S dX9_type_11 (by decide) ?_
    have hyp := Option.some.inj hyp
    subst hyp
    exact g_iret (pc := 12) S F dX9_type_12
  · refine g_iload_n (pc := 4) 1 S dX9_type_4 rfl ?_
    refine g_sipush (pc := 5) (v := (255 : Int32)) S dX9_type_5 (by decide) ?_
    refine g_icmp_le (pc := 8) (tgt := 13) S dX9_type_8 (by decide) hyp (fun hyp => ?_) (fun hyp => ?_)
    · refine g_iconst (pc := 11) (v := (-1 : Int32)) S dX9_type_11 (by decide) ?_
      have hyp := Option.some.inj hyp
      subst hyp
      exact g_iret (pc := 12) S F dX9_type_12
    · refine g_aload_n (pc := 13) 0 S dX9_type_13 rfl ?_
      refine g_getR (pc := 14) S dX9_type_14 fl_X9_30 k0 ?_
      refine g_iload_n (pc := 17) 1 S dX9_type_17 rfl ?_
      refine g_bind hyp (fun y1 hy1 hyp => ?_)
      refine g_callV (pc := 18) (As := [.int a1]) (rest := []) S dX9_type_18 (kf_9_27 k0) rfl tw_427 tw_428 tw_429 mw_X6_append (m_X6_append (kf_9_27 k0) a1 h hy1) rfl rfl (Nat.le_of_ble_eq_true rfl) (Nat.le_of_ble_eq_true rfl) (Nat.le_of_ble_eq_true rfl) ?_
      refine g_if_eq (pc := 21) (tgt := 34) S dX9_type_21 (by decide) hyp (fun hyp => ?_) (fun hyp => ?_)
      · refine g_bipush (pc := 34) (v := (-3 : Int32)) S dX9_type_34 (by decide) ?_
        have hyp := Option.some.inj hyp
        subst hyp
        exact g_iret (pc := 36) S F dX9_type_36
      · refine g_aload_n (pc := 24) 0 S dX9_type_24 rfl ?_
        refine g_getR (pc := 25) S dX9_type_25 fl_X9_30 k0 ?_
        refine g_getI (pc := 28) S dX9_type_28 fl_X9_95 (kf_9_27 k0) ?_
        refine g_goto (pc := 31) (tgt := 36) S dX9_type_31 (by decide) ?_
        have hyp := Option.some.inj hyp
        subst hyp
        exact g_iret (pc := 36) S F dX9_type_36
theorem m_X9_type {l : Launch} {D : va_G} {cT : Nat → ClassId} {aD : Nat → Nat} {c0 : Nat} (k0 : kd c0 (10 + 9, 0)) (a1 : Int32) (h : Hp) {o : Int32 × Hp} (hyp : s_X9_type c0 a1 h = some o) : Ok l D cT aD yX9_type cX9_type 2 (some .int) 1 25 [.ref (aD c0), .int a1] h (some (.int o.1)) o.2 :=
  Ok.of (by decide +kernel) rfl (Nat.le_of_ble_eq_true rfl) (fun K e1 e2 e3 e4 S F => by subst e1; exact o_X9_type S k0 a1 h hyp F)
-- BoundProofs clear ()I
noncomputable def s_X9_clear (c0 : Nat)  (h : Hp) : Option (Int32 × Hp) :=
  lt (h.1 (c0 + 27) 1) fun v1_1 =>
  lt (sI h (c0 + 27) 1 (0 : Int32)) fun h2 =>
  some (v1_1, h2)
set_option maxRecDepth 100000 in
set_option maxHeartbeats 4000000 in
theorem o_X9_clear {K : gK} (S : Cx K RX9 cX9_clear 2 0 0) {c0 : Nat} (k0 : kd c0 (10 + 9, 0))  (h : Hp) {o : Int32 × Hp} (hyp : s_X9_clear c0  h = some o) (F : Rt K (some .int) (some (.int o.1)) o.2) : Go K 0 [(0, .ref (ad K c0))] [] h := by
  unfold s_X9_clear at hyp
  refine g_aload_n (pc := 0) 0 S dX9_clear_0 rfl ?_
  refine g_getR (pc := 1) S dX9_clear_1 fl_X9_30 k0 ?_
  refine g_getI (pc := 4) S dX9_clear_4 fl_X9_95 (kf_9_27 k0) ?_
  refine g_lti (C := fun v1_1 => Go K 7 [(0, .ref (ad K c0))] [.int v1_1] h) hyp (fun v1_1 hyp => ?_)
  refine g_istore_n (pc := 7) (lv' := [(1, .int v1_1), (0, .ref (ad K c0))]) S dX9_clear_7 rfl (by decide) rfl ?_
  refine g_aload_n (pc := 8) 1 S dX9_clear_8 rfl ?_
  refine g_getR (pc := 9) S dX9_clear_9 fl_X9_30 k0 ?_
  refine g_iconst (pc := 12) (v := (0 : Int32)) S dX9_clear_12 (by decide) ?_
  refine g_putI (pc := 13) S dX9_clear_13 fl_X9_95 (kf_9_27 k0) hyp (fun h2 hyp => ?_)
  refine g_iload_n (pc := 16) 0 S dX9_clear_16 rfl ?_
  have hyp := Option.some.inj hyp
  subst hyp
  exact g_iret (pc := 17) S F dX9_clear_17
theorem m_X9_clear {l : Launch} {D : va_G} {cT : Nat → ClassId} {aD : Nat → Nat} {c0 : Nat} (k0 : kd c0 (10 + 9, 0))  (h : Hp) {o : Int32 × Hp} (hyp : s_X9_clear c0  h = some o) : Ok l D cT aD yX9_clear cX9_clear 2 (some .int) 0 0 [.ref (aD c0)] h (some (.int o.1)) o.2 :=
  Ok.of (by decide +kernel) rfl (Nat.le_of_ble_eq_true rfl) (fun K e1 e2 e3 e4 S F => by subst e1; exact o_X9_clear S k0  h hyp F)
-- BoundProofs$Problem reset ()V
noncomputable def s_X5_reset (c0 : Nat)  (h : Hp) : Option (Hp) :=
  lt (sI h c0 0 (2 : Int32)) fun h1 =>
  lt (sI h1 c0 1 (0 : Int32)) fun h2 =>
  lt (sI h2 c0 2 (0 : Int32)) fun h3 =>
  lt (sI h3 c0 3 (0 : Int32)) fun h4 =>
  some h4
set_option maxRecDepth 100000 in
set_option maxHeartbeats 4000000 in
theorem o_X5_reset {K : gK} (S : Cx K RX5 cX5_reset 1 0 0) {c0 : Nat} (k0 : kd c0 (10 + 5, 0))  (h : Hp) {o : Hp} (hyp : s_X5_reset c0  h = some o) (F : Rt K none none o) : Go K 0 [(0, .ref (ad K c0))] [] h := by
  unfold s_X5_reset at hyp
  refine g_aload_n (pc := 0) 0 S dX5_reset_0 rfl ?_
  refine g_iconst (pc := 1) (v := (2 : Int32)) S dX5_reset_1 (by decide) ?_
  refine g_putI (pc := 2) S dX5_reset_2 fl_X5_9 k0 hyp (fun h1 hyp => ?_)
  refine g_aload_n (pc := 5) 0 S dX5_reset_5 rfl ?_
  refine g_iconst (pc := 6) (v := (0 : Int32)) S dX5_reset_6 (by decide) ?_
  refine g_putI (pc := 7) S dX5_reset_7 fl_X5_15 k0 hyp (fun h2 hyp => ?_)
  refine g_aload_n (pc := 10) 0 S dX5_reset_10 rfl ?_
  refine g_iconst (pc := 11) (v := (0 : Int32)) S dX5_reset_11 (by decide) ?_
  refine g_putI (pc := 12) S dX5_reset_12 fl_X5_18 k0 hyp (fun h3 hyp => ?_)
  refine g_aload_n (pc := 15) 0 S dX5_reset_15 rfl ?_
  refine g_iconst (pc := 16) (v := (0 : Int32)) S dX5_reset_16 (by decide) ?_
  refine g_putI (pc := 17) S dX5_reset_17 fl_X5_21 k0 hyp (fun h4 hyp => ?_)
  have hyp := Option.some.inj hyp
  subst hyp
  exact g_vret (pc := 20) S F dX5_reset_20
theorem m_X5_reset {l : Launch} {D : va_G} {cT : Nat → ClassId} {aD : Nat → Nat} {c0 : Nat} (k0 : kd c0 (10 + 5, 0))  (h : Hp) {o : Hp} (hyp : s_X5_reset c0  h = some o) : Ok l D cT aD yX5_reset cX5_reset 1 none 0 0 [.ref (aD c0)] h none o :=
  Ok.of (by decide +kernel) rfl (Nat.le_of_ble_eq_true rfl) (fun K e1 e2 e3 e4 S F => by subst e1; exact o_X5_reset S k0  h hyp F)
-- BoundProofs$Reader isDigit (I)Z
noncomputable def s_X6_isDigit  (a0 : Int32) (h : Hp) : Option (Int32) :=
  if a0 < (48 : Int32) then (some (0 : Int32))
  else (if (57 : Int32) < a0 then (some (0 : Int32))
  else (some (1 : Int32)))
set_option maxRecDepth 100000 in
set_option maxHeartbeats 4000000 in
theorem o_X6_isDigit {K : gK} (S : Cx K RX6 cX6_isDigit 1 0 0)  (a0 : Int32) (h : Hp) {o : Int32} (hyp : s_X6_isDigit  a0 h = some o) (F : Rt K (some .boolean) (some (.int o)) h) : Go K 0 [(0, .int a0)] [] h := by
  unfold s_X6_isDigit at hyp
  refine g_iload_n (pc := 0) 0 S dX6_isDigit_0 rfl ?_
  refine g_bipush (pc := 1) (v := (48 : Int32)) S dX6_isDigit_1 (by decide) ?_
  refine g_icmp_lt (pc := 3) (tgt := 16) S dX6_isDigit_3 (by decide) hyp (fun hyp => ?_) (fun hyp => ?_)
  · refine g_iconst (pc := 16) (v := (0 : Int32)) S dX6_isDigit_16 (by decide) ?_
    have hyp := Option.some.inj hyp
    subst hyp
    exact g_zret (pc := 17) S F dX6_isDigit_17 (Or.inl rfl)
  · refine g_iload_n (pc := 6) 0 S dX6_isDigit_6 rfl ?_
    refine g_bipush (pc := 7) (v := (57 : Int32)) S dX6_isDigit_7 (by decide) ?_
    refine g_icmp_gt (pc := 9) (tgt := 16) S dX6_isDigit_9 (by decide) hyp (fun hyp => ?_) (fun hyp => ?_)
    · refine g_iconst (pc := 16) (v := (0 : Int32)) S dX6_isDigit_16 (by decide) ?_
      have hyp := Option.some.inj hyp
      subst hyp
      exact g_zret (pc := 17) S F dX6_isDigit_17 (Or.inl rfl)
    · refine g_iconst (pc := 12) (v := (1 : Int32)) S dX6_isDigit_12 (by decide) ?_
      refine g_goto (pc := 13) (tgt := 17) S dX6_isDigit_13 (by decide) ?_
      have hyp := Option.some.inj hyp
      subst hyp
      exact g_zret (pc := 17) S F dX6_isDigit_17 (Or.inr rfl)
theorem m_X6_isDigit {l : Launch} {D : va_G} {cT : Nat → ClassId} {aD : Nat → Nat}  (a0 : Int32) (h : Hp) {o : Int32} (hyp : s_X6_isDigit  a0 h = some o) : Ok l D cT aD yX6_isDigit cX6_isDigit 1 (some .boolean) 0 0 [.int a0] h (some (.int o)) h :=
  Ok.of (by decide +kernel) rfl (Nat.le_of_ble_eq_true rfl) (fun K e1 e2 e3 e4 S F => by subst e1; exact o_X6_isDigit S  a0 h hyp F)
-- java/lang/Math min (II)I
noncomputable def s_J9_min_7cf53  (a0 : Int32) (a1 : Int32) (h : Hp) : Option (Int32) :=
  if a1 < a0 then (some a1)
  else (some a0)
set_option maxRecDepth 100000 in
set_option maxHeartbeats 4000000 in
theorem o_J9_min_7cf53 {K : gK} (S : Cx K RJ9 cJ9_min_7cf53 2 0 0)  (a0 : Int32) (a1 : Int32) (h : Hp) {o : Int32} (hyp : s_J9_min_7cf53  a0 a1 h = some o) (F : Rt K (some .int) (some (.int o)) h) : Go K 0 [(0, .int a0), (1, .int a1)] [] h := by
  unfold s_J9_min_7cf53 at hyp
  refine g_iload_n (pc := 0) 0 S dJ9_min_7cf53_0 rfl ?_
  refine g_iload_n (pc := 1) 1 S dJ9_min_7cf53_1 rfl ?_
  refine g_icmp_gt (pc := 2) (tgt := 9) S dJ9_min_7cf53_2 (by decide) hyp (fun hyp => ?_) (fun hyp => ?_)
  · refine g_iload_n (pc := 9) 1 S dJ9_min_7cf53_9 rfl ?_
    have hyp := Option.some.inj hyp
    subst hyp
    exact g_iret (pc := 10) S F dJ9_min_7cf53_10
  · refine g_iload_n (pc := 5) 0 S dJ9_min_7cf53_5 rfl ?_
    refine g_goto (pc := 6) (tgt := 10) S dJ9_min_7cf53_6 (by decide) ?_
    have hyp := Option.some.inj hyp
    subst hyp
    exact g_iret (pc := 10) S F dJ9_min_7cf53_10
theorem m_J9_min_7cf53 {l : Launch} {D : va_G} {cT : Nat → ClassId} {aD : Nat → Nat}  (a0 : Int32) (a1 : Int32) (h : Hp) {o : Int32} (hyp : s_J9_min_7cf53  a0 a1 h = some o) : Ok l D cT aD yJ9_min_7cf53 cJ9_min_7cf53 2 (some .int) 0 0 [.int a0, .int a1] h (some (.int o)) h :=
  Ok.of (by decide +kernel) rfl (Nat.le_of_ble_eq_true rfl) (fun K e1 e2 e3 e4 S F => by subst e1; exact o_J9_min_7cf53 S  a0 a1 h hyp F)
-- BoundProofs$Reader readNumber ()V
noncomputable def s_X6_readNumber_l13 (c0 : Nat)  (h : Hp) : Option ((Hp) ⊕ (Hp)) :=
  if (h.1 c0 4) < (h.1 c0 1) then (ldI h (c0 + 1) 90 (h.1 c0 4) fun x3 =>
  (s_X6_isDigit  x3 h).bind fun y4 =>
  if y4 = 0 then (some (.inr (h)))
  else (ldI h (c0 + 1) 90 (h.1 c0 4) fun x5 =>
  (s_J9_min_7cf53  (1000 : Int32) ((((h.1 c0 5) * (10 : Int32)) + x5) - (48 : Int32)) h).bind fun y6 =>
  lt (sI h c0 5 y6) fun h7 =>
  lt (sI h7 c0 4 ((h7.1 c0 4) + (1 : Int32))) fun h8 =>
  some (.inl h8)))
  else (some (.inr (h)))
noncomputable def s_X6_readNumber_b116 (c0 : Nat) (t0 : Int32) (h : Hp) : Option (Hp) :=
  lt (sI h c0 2 t0) fun h11 =>
  some h11
noncomputable def s_X6_readNumber_b115 (c0 : Nat)  (h : Hp) : Option (Hp) :=
  s_X6_readNumber_b116 c0 (-1 : Int32) h
noncomputable def s_X6_readNumber (c0 : Nat)  (h : Hp) : Option (Hp) :=
  lt (sI h c0 5 (0 : Int32)) fun h1 =>
  lt (sI h1 c0 4 (h1.1 c0 3)) fun h2 =>
  (iter (fun s : Hp => s_X6_readNumber_l13 c0  s) FUEL h2).bind fun e9 =>
  ldI e9 (c0 + 1) 90 (e9.1 c0 3) fun x10 =>
  if x10 = (48 : Int32) then (if (1 : Int32) < ((e9.1 c0 4) - (e9.1 c0 3)) then (s_X6_readNumber_b116 c0 (-3 : Int32) e9)
  else (s_X6_readNumber_b115 c0  e9))
  else (s_X6_readNumber_b115 c0  e9)
set_option maxRecDepth 100000 in
set_option maxHeartbeats 4000000 in
theorem o_X6_readNumber_l13 {K : gK} (S : Cx K RX6 cX6_readNumber 1 1 25) {c0 : Nat} (k0 : kd c0 (10 + 6, 0))  (h : Hp) {o : (Hp) ⊕ (Hp)} (hyp : s_X6_readNumber_l13 c0  h = some o) (hin : ∀ s', o = .inl s' → Go K 13 [(0, .ref (ad K c0))] [] s') (hex0 : ∀ s', o = .inr (s') → Go K 82 [(0, .ref (ad K c0))] [] s') : Go K 13 [(0, .ref (ad K c0))] [] h := by
  unfold s_X6_readNumber_l13 at hyp
  refine g_aload_n (pc := 13) 0 S dX6_readNumber_13 rfl ?_
  refine g_getI (pc := 14) S dX6_readNumber_14 fl_X6_27 k0 ?_
  refine g_aload_n (pc := 17) 0 S dX6_readNumber_17 rfl ?_
  refine g_getI (pc := 18) S dX6_readNumber_18 fl_X6_15 k0 ?_
  refine g_icmp_ge (pc := 21) (tgt := 82) S dX6_readNumber_21 (by decide) hyp (fun hyp => ?_) (fun hyp => ?_)
  · refine g_aload_n (pc := 24) 0 S dX6_readNumber_24 rfl ?_
    refine g_getR (pc := 25) S dX6_readNumber_25 fl_X6_9 k0 ?_
    refine g_aload_n (pc := 28) 0 S dX6_readNumber_28 rfl ?_
    refine g_getI (pc := 29) S dX6_readNumber_29 fl_X6_27 k0 ?_
    refine g_iald (pc := 32) S dX6_readNumber_32 (kf_6_1 k0) hyp (fun x3 hyp => ?_)
    refine g_bind hyp (fun y4 hy4 hyp => ?_)
    refine g_callS (pc := 33) (As := [.int x3]) (rest := []) S dX6_readNumber_33 tw_450 tw_451 mw_X6_isDigit (m_X6_isDigit  x3 h hy4) rfl rfl (Nat.le_of_ble_eq_true rfl) (Nat.le_of_ble_eq_true rfl) (Nat.le_of_ble_eq_true rfl) ?_
    refine g_if_eq (pc := 36) (tgt := 82) S dX6_readNumber_36 (by decide) hyp (fun hyp => ?_) (fun hyp => ?_)
    · have hyp := Option.some.inj hyp
      subst hyp
      exact g_sub [0] rfl (hex0 h rfl)
    · refine g_aload_n (pc := 39) 0 S dX6_readNumber_39 rfl ?_
      refine g_sipush (pc := 40) (v := (1000 : Int32)) S dX6_readNumber_40 (by decide) ?_
      refine g_aload_n (pc := 43) 0 S dX6_readNumber_43 rfl ?_
      refine g_getI (pc := 44) S dX6_readNumber_44 fl_X6_65 k0 ?_
      refine g_bipush (pc := 47) (v := (10 : Int32)) S dX6_readNumber_47 (by decide) ?_
      refine g_imul (pc := 49) S dX6_readNumber_49 ?_
      refine g_aload_n (pc := 50) 0 S dX6_readNumber_50 rfl ?_
      refine g_getR (pc := 51) S dX6_readNumber_51 fl_X6_9 k0 ?_
      refine g_aload_n (pc := 54) 0 S dX6_readNumber_54 rfl ?_
      refine g_getI (pc := 55) S dX6_readNumber_55 fl_X6_27 k0 ?_
      refine g_iald (pc := 58) S dX6_readNumber_58 (kf_6_1 k0) hyp (fun x5 hyp => ?_)
      refine g_iadd (pc := 59) S dX6_readNumber_59 ?_
      refine g_bipush (pc := 60) (v := (48 : Int32)) S dX6_readNumber_60 (by decide) ?_
      refine g_isub (pc := 62) S dX6_readNumber_62 ?_
      refine g_bind hyp (fun y6 hy6 hyp => ?_)
      refine g_callS (pc := 63) (As := [.int (1000 : Int32), .int ((((h.1 c0 5) * (10 : Int32)) + x5) - (48 : Int32))]) (rest := [.ref (ad K c0)]) S dX6_readNumber_63 tw_456 tw_457 mw_J9_min_7cf53 (m_J9_min_7cf53  (1000 : Int32) ((((h.1 c0 5) * (10 : Int32)) + x5) - (48 : Int32)) h hy6) rfl rfl (Nat.le_of_ble_eq_true rfl) (Nat.le_of_ble_eq_true rfl) (Nat.le_of_ble_eq_true rfl) ?_
      refine g_putI (pc := 66) S dX6_readNumber_66 fl_X6_65 k0 hyp (fun h7 hyp => ?_)
      refine g_aload_n (pc := 69) 0 S dX6_readNumber_69 rfl ?_
      refine g_dup (pc := 70) S dX6_readNumber_70 rfl ?_
      refine g_getI (pc := 71) S dX6_readNumber_71 fl_X6_27 k0 ?_
      refine g_iconst (pc := 74) (v := (1 : Int32)) S dX6_readNumber_74 (by decide) ?_
      refine g_iadd (pc := 75) S dX6_readNumber_75 ?_
      refine g_putI (pc := 76) S dX6_readNumber_76 fl_X6_27 k0 hyp (fun h8 hyp => ?_)
      refine g_goto (pc := 79) (tgt := 13) S dX6_readNumber_79 (by decide) ?_
      have hyp := Option.some.inj hyp
      subst hyp
      exact g_sub [0] rfl (hin h8 rfl)
  · have hyp := Option.some.inj hyp
    subst hyp
    exact g_sub [0] rfl (hex0 h rfl)
set_option maxRecDepth 100000 in
set_option maxHeartbeats 4000000 in
theorem o_X6_readNumber_b116 {K : gK} (S : Cx K RX6 cX6_readNumber 1 1 25) {c0 : Nat} (k0 : kd c0 (10 + 6, 0)) (t0 : Int32) (h : Hp) {o : Hp} (hyp : s_X6_readNumber_b116 c0 t0 h = some o) (F : Rt K none none o) : Go K 116 [] [.int t0, .ref (ad K c0)] h := by
  unfold s_X6_readNumber_b116 at hyp
  refine g_putI (pc := 116) S dX6_readNumber_116 fl_X6_33 k0 hyp (fun h11 hyp => ?_)
  have hyp := Option.some.inj hyp
  subst hyp
  exact g_vret (pc := 119) S F dX6_readNumber_119
set_option maxRecDepth 100000 in
set_option maxHeartbeats 4000000 in
theorem o_X6_readNumber_b115 {K : gK} (S : Cx K RX6 cX6_readNumber 1 1 25) {c0 : Nat} (k0 : kd c0 (10 + 6, 0))  (h : Hp) {o : Hp} (hyp : s_X6_readNumber_b115 c0  h = some o) (F : Rt K none none o) : Go K 115 [] [.ref (ad K c0)] h := by
  unfold s_X6_readNumber_b115 at hyp
  refine g_iconst (pc := 115) (v := (-1 : Int32)) S dX6_readNumber_115 (by decide) ?_
  exact g_sub [] rfl (o_X6_readNumber_b116 S k0 (-1 : Int32) h hyp F)
set_option maxRecDepth 100000 in
set_option maxHeartbeats 4000000 in
theorem o_X6_readNumber {K : gK} (S : Cx K RX6 cX6_readNumber 1 1 25) {c0 : Nat} (k0 : kd c0 (10 + 6, 0))  (h : Hp) {o : Hp} (hyp : s_X6_readNumber c0  h = some o) (F : Rt K none none o) : Go K 0 [(0, .ref (ad K c0))] [] h := by
  unfold s_X6_readNumber at hyp
  refine g_aload_n (pc := 0) 0 S dX6_readNumber_0 rfl ?_
  refine g_iconst (pc := 1) (v := (0 : Int32)) S dX6_readNumber_1 (by decide) ?_
  refine g_putI (pc := 2) S dX6_readNumber_2 fl_X6_65 k0 hyp (fun h1 hyp => ?_)
  refine g_aload_n (pc := 5) 0 S dX6_readNumber_5 rfl ?_
  refine g_aload_n (pc := 6) 0 S dX6_readNumber_6 rfl ?_
  refine g_getI (pc := 7) S dX6_readNumber_7 fl_X6_52 k0 ?_
  refine g_putI (pc := 10) S dX6_readNumber_10 fl_X6_27 k0 hyp (fun h2 hyp => ?_)
  refine g_bind hyp (fun e9 he9 hyp => ?_)
  refine g_sub [0] rfl (g_loop (f := fun s : Hp => s_X6_readNumber_l13 c0  s) (ρ := Hp) (Hd := fun s : Hp => Go K 13 [(0, .ref (ad K c0))] [] s) (Ex := fun e9 => Go K 82 [(0, .ref (ad K c0))] [] e9) (fun s o h1 h2 h3 => o_X6_readNumber_l13 S k0  s h1 h2 h3) FUEL _ e9 he9 ?_)
  refine g_aload_n (pc := 82) 0 S dX6_readNumber_82 rfl ?_
  refine g_aload_n (pc := 83) 0 S dX6_readNumber_83 rfl ?_
  refine g_getR (pc := 84) S dX6_readNumber_84 fl_X6_9 k0 ?_
  refine g_aload_n (pc := 87) 0 S dX6_readNumber_87 rfl ?_
  refine g_getI (pc := 88) S dX6_readNumber_88 fl_X6_52 k0 ?_
  refine g_iald (pc := 91) S dX6_readNumber_91 (kf_6_1 k0) hyp (fun x10 hyp => ?_)
  refine g_bipush (pc := 92) (v := (48 : Int32)) S dX6_readNumber_92 (by decide) ?_
  refine g_icmp_ne (pc := 94) (tgt := 115) S dX6_readNumber_94 (by decide) hyp (fun hyp => ?_) (fun hyp => ?_)
  · refine g_aload_n (pc := 97) 0 S dX6_readNumber_97 rfl ?_
    refine g_getI (pc := 98) S dX6_readNumber_98 fl_X6_27 k0 ?_
    refine g_aload_n (pc := 101) 0 S dX6_readNumber_101 rfl ?_
    refine g_getI (pc := 102) S dX6_readNumber_102 fl_X6_52 k0 ?_
    refine g_isub (pc := 105) S dX6_readNumber_105 ?_
    refine g_iconst (pc := 106) (v := (1 : Int32)) S dX6_readNumber_106 (by decide) ?_
    refine g_icmp_le (pc := 107) (tgt := 115) S dX6_readNumber_107 (by decide) hyp (fun hyp => ?_) (fun hyp => ?_)
    · refine g_bipush (pc := 110) (v := (-3 : Int32)) S dX6_readNumber_110 (by decide) ?_
      refine g_goto (pc := 112) (tgt := 116) S dX6_readNumber_112 (by decide) ?_
      exact g_sub [] rfl (o_X6_readNumber_b116 S k0 (-3 : Int32) e9 hyp F)
    · exact g_sub [] rfl (o_X6_readNumber_b115 S k0  e9 hyp F)
  · exact g_sub [] rfl (o_X6_readNumber_b115 S k0  e9 hyp F)
theorem m_X6_readNumber {l : Launch} {D : va_G} {cT : Nat → ClassId} {aD : Nat → Nat} {c0 : Nat} (k0 : kd c0 (10 + 6, 0))  (h : Hp) {o : Hp} (hyp : s_X6_readNumber c0  h = some o) : Ok l D cT aD yX6_readNumber cX6_readNumber 1 none 1 25 [.ref (aD c0)] h none o :=
  Ok.of (by decide +kernel) rfl (Nat.le_of_ble_eq_true rfl) (fun K e1 e2 e3 e4 S F => by subst e1; exact o_X6_readNumber S k0  h hyp F)
-- BoundProofs$Reader isToken (I)Z
noncomputable def s_X6_isToken_b23  (a0 : Int32) (t0 : Int32) (h : Hp) : Option (Int32) :=
  if t0 = 0 then (if a0 = (110 : Int32) then (some (1 : Int32))
  else (if a0 = (102 : Int32) then (some (1 : Int32))
  else (if a0 = (43 : Int32) then (some (1 : Int32))
  else (if a0 = (45 : Int32) then (some (1 : Int32))
  else (if a0 = (59 : Int32) then (some (1 : Int32))
  else (some (0 : Int32)))))))
  else (some (1 : Int32))
noncomputable def s_X6_isToken_b18  (a0 : Int32) (h : Hp) : Option (Int32) :=
  s_X6_isToken_b23  a0 (1 : Int32) h
noncomputable def s_X6_isToken  (a0 : Int32) (h : Hp) : Option (Int32) :=
  if a0 = (97 : Int32) then (s_X6_isToken_b18  a0 h)
  else (if a0 = (98 : Int32) then (s_X6_isToken_b18  a0 h)
  else (if a0 = (99 : Int32) then (s_X6_isToken_b18  a0 h)
  else (s_X6_isToken_b23  a0 (0 : Int32) h)))
set_option maxRecDepth 100000 in
set_option maxHeartbeats 4000000 in
theorem o_X6_isToken_b23 {K : gK} (S : Cx K RX6 cX6_isToken 2 0 0)  (a0 : Int32) (t0 : Int32) (h : Hp) {o : Int32} (hyp : s_X6_isToken_b23  a0 t0 h = some o) (F : Rt K (some .boolean) (some (.int o)) h) : Go K 23 [(0, .int a0)] [.int t0] h := by
  unfold s_X6_isToken_b23 at hyp
  refine g_istore_n (pc := 23) (lv' := [(1, .int t0), (0, .int a0)]) S dX6_isToken_23 rfl (by decide) rfl ?_
  refine g_iload_n (pc := 24) 0 S dX6_isToken_24 rfl ?_
  refine g_if_ne (pc := 25) (tgt := 58) S dX6_isToken_25 (by decide) hyp (fun hyp => ?_) (fun hyp => ?_)
  · refine g_iload_n (pc := 28) 1 S dX6_isToken_28 rfl ?_
    refine g_bipush (pc := 29) (v := (110 : Int32)) S dX6_isToken_29 (by decide) ?_
    refine g_icmp_eq (pc := 31) (tgt := 58) S dX6_isToken_31 (by decide) hyp (fun hyp => ?_) (fun hyp => ?_)
    · refine g_iconst (pc := 58) (v := (1 : Int32)) S dX6_isToken_58 (by decide) ?_
      refine g_goto (pc := 59) (tgt := 63) S dX6_isToken_59 (by decide) ?_
      have hyp := Option.some.inj hyp
      subst hyp
      exact g_zret (pc := 63) S F dX6_isToken_63 (Or.inr rfl)
    · refine g_iload_n (pc := 34) 1 S dX6_isToken_34 rfl ?_
      refine g_bipush (pc := 35) (v := (102 : Int32)) S dX6_isToken_35 (by decide) ?_
      refine g_icmp_eq (pc := 37) (tgt := 58) S dX6_isToken_37 (by decide) hyp (fun hyp => ?_) (fun hyp => ?_)
      · refine g_iconst (pc := 58) (v := (1 : Int32)) S dX6_isToken_58 (by decide) ?_
        refine g_goto (pc := 59) (tgt := 63) S dX6_isToken_59 (by decide) ?_
        have hyp := Option.some.inj hyp
        subst hyp
        exact g_zret (pc := 63) S F dX6_isToken_63 (Or.inr rfl)
      · refine g_iload_n (pc := 40) 1 S dX6_isToken_40 rfl ?_
        refine g_bipush (pc := 41) (v := (43 : Int32)) S dX6_isToken_41 (by decide) ?_
        refine g_icmp_eq (pc := 43) (tgt := 58) S dX6_isToken_43 (by decide) hyp (fun hyp => ?_) (fun hyp => ?_)
        · refine g_iconst (pc := 58) (v := (1 : Int32)) S dX6_isToken_58 (by decide) ?_
          refine g_goto (pc := 59) (tgt := 63) S dX6_isToken_59 (by decide) ?_
          have hyp := Option.some.inj hyp
          subst hyp
          exact g_zret (pc := 63) S F dX6_isToken_63 (Or.inr rfl)
        · refine g_iload_n (pc := 46) 1 S dX6_isToken_46 rfl ?_
          refine g_bipush (pc := 47) (v := (45 : Int32)) S dX6_isToken_47 (by decide) ?_
          refine g_icmp_eq (pc := 49) (tgt := 58) S dX6_isToken_49 (by decide) hyp (fun hyp => ?_) (fun hyp => ?_)
          · refine g_iconst (pc := 58) (v := (1 : Int32)) S dX6_isToken_58 (by decide) ?_
            refine g_goto (pc := 59) (tgt := 63) S dX6_isToken_59 (by decide) ?_
            have hyp := Option.some.inj hyp
            subst hyp
            exact g_zret (pc := 63) S F dX6_isToken_63 (Or.inr rfl)
          · refine g_iload_n (pc := 52) 1 S dX6_isToken_52 rfl ?_
            refine g_bipush (pc := 53) (v := (59 : Int32)) S dX6_isToken_53 (by decide) ?_
            refine g_icmp_ne (pc := 55) (tgt := 62) S dX6_isToken_55 (by decide) hyp (fun hyp => ?_) (fun hyp => ?_)
            · refine g_iconst (pc := 58) (v := (1 : Int32)) S dX6_isToken_58 (by decide) ?_
              refine g_goto (pc := 59) (tgt := 63) S dX6_isToken_59 (by decide) ?_
              have hyp := Option.some.inj hyp
              subst hyp
              exact g_zret (pc := 63) S F dX6_isToken_63 (Or.inr rfl)
            · refine g_iconst (pc := 62) (v := (0 : Int32)) S dX6_isToken_62 (by decide) ?_
              have hyp := Option.some.inj hyp
              subst hyp
              exact g_zret (pc := 63) S F dX6_isToken_63 (Or.inl rfl)
  · refine g_iconst (pc := 58) (v := (1 : Int32)) S dX6_isToken_58 (by decide) ?_
    refine g_goto (pc := 59) (tgt := 63) S dX6_isToken_59 (by decide) ?_
    have hyp := Option.some.inj hyp
    subst hyp
    exact g_zret (pc := 63) S F dX6_isToken_63 (Or.inr rfl)
set_option maxRecDepth 100000 in
set_option maxHeartbeats 4000000 in
theorem o_X6_isToken_b18 {K : gK} (S : Cx K RX6 cX6_isToken 2 0 0)  (a0 : Int32) (h : Hp) {o : Int32} (hyp : s_X6_isToken_b18  a0 h = some o) (F : Rt K (some .boolean) (some (.int o)) h) : Go K 18 [(0, .int a0)] [] h := by
  unfold s_X6_isToken_b18 at hyp
  refine g_iconst (pc := 18) (v := (1 : Int32)) S dX6_isToken_18 (by decide) ?_
  refine g_goto (pc := 19) (tgt := 23) S dX6_isToken_19 (by decide) ?_
  exact g_sub [0] rfl (o_X6_isToken_b23 S  a0 (1 : Int32) h hyp F)
set_option maxRecDepth 100000 in
set_option maxHeartbeats 4000000 in
theorem o_X6_isToken {K : gK} (S : Cx K RX6 cX6_isToken 2 0 0)  (a0 : Int32) (h : Hp) {o : Int32} (hyp : s_X6_isToken  a0 h = some o) (F : Rt K (some .boolean) (some (.int o)) h) : Go K 0 [(0, .int a0)] [] h := by
  unfold s_X6_isToken at hyp
  refine g_iload_n (pc := 0) 0 S dX6_isToken_0 rfl ?_
  refine g_bipush (pc := 1) (v := (97 : Int32)) S dX6_isToken_1 (by decide) ?_
  refine g_icmp_eq (pc := 3) (tgt := 18) S dX6_isToken_3 (by decide) hyp (fun hyp => ?_) (fun hyp => ?_)
  · exact g_sub [0] rfl (o_X6_isToken_b18 S  a0 h hyp F)
  · refine g_iload_n (pc := 6) 0 S dX6_isToken_6 rfl ?_
    refine g_bipush (pc := 7) (v := (98 : Int32)) S dX6_isToken_7 (by decide) ?_
    refine g_icmp_eq (pc := 9) (tgt := 18) S dX6_isToken_9 (by decide) hyp (fun hyp => ?_) (fun hyp => ?_)
    · exact g_sub [0] rfl (o_X6_isToken_b18 S  a0 h hyp F)
    · refine g_iload_n (pc := 12) 0 S dX6_isToken_12 rfl ?_
      refine g_bipush (pc := 13) (v := (99 : Int32)) S dX6_isToken_13 (by decide) ?_
      refine g_icmp_ne (pc := 15) (tgt := 22) S dX6_isToken_15 (by decide) hyp (fun hyp => ?_) (fun hyp => ?_)
      · exact g_sub [0] rfl (o_X6_isToken_b18 S  a0 h hyp F)
      · refine g_iconst (pc := 22) (v := (0 : Int32)) S dX6_isToken_22 (by decide) ?_
        exact g_sub [0] rfl (o_X6_isToken_b23 S  a0 (0 : Int32) h hyp F)
theorem m_X6_isToken {l : Launch} {D : va_G} {cT : Nat → ClassId} {aD : Nat → Nat}  (a0 : Int32) (h : Hp) {o : Int32} (hyp : s_X6_isToken  a0 h = some o) : Ok l D cT aD yX6_isToken cX6_isToken 2 (some .boolean) 0 0 [.int a0] h (some (.int o)) h :=
  Ok.of (by decide +kernel) rfl (Nat.le_of_ble_eq_true rfl) (fun K e1 e2 e3 e4 S F => by subst e1; exact o_X6_isToken S  a0 h hyp F)
-- BoundProofs$Reader step ()V
noncomputable def s_X6_step_l8 (c0 : Nat)  (h : Hp) : Option ((Hp) ⊕ (Hp)) :=
  if (h.1 c0 3) < (h.1 c0 1) then (ldI h (c0 + 1) 90 (h.1 c0 3) fun x2 =>
  if x2 = (32 : Int32) then (lt (sI h c0 3 ((h.1 c0 3) + (1 : Int32))) fun h3 =>
  some (.inl h3))
  else (some (.inr (h))))
  else (some (.inr (h)))
noncomputable def s_X6_step_b136 (c0 : Nat) (t0 : Int32) (h : Hp) : Option (Hp) :=
  lt (sI h c0 2 t0) fun h10 =>
  some h10
noncomputable def s_X6_step (c0 : Nat)  (h : Hp) : Option (Hp) :=
  lt (sI h c0 3 (h.1 c0 4)) fun h1 =>
  (iter (fun s : Hp => s_X6_step_l8 c0  s) FUEL h1).bind fun e4 =>
  lt (sI e4 c0 4 ((e4.1 c0 3) + (1 : Int32))) fun h5 =>
  if (h5.1 c0 3) < (h5.1 c0 1) then (ldI h5 (c0 + 1) 90 (h5.1 c0 3) fun x6 =>
  (s_X6_isDigit  x6 h5).bind fun y7 =>
  if y7 = 0 then (ldI h5 (c0 + 1) 90 (h5.1 c0 3) fun x8 =>
  (s_X6_isToken  x8 h5).bind fun y9 =>
  if y9 = 0 then (s_X6_step_b136 c0 (-3 : Int32) h5)
  else (ldI h5 (c0 + 1) 90 (h5.1 c0 3) fun x11 =>
  s_X6_step_b136 c0 x11 h5))
  else ((s_X6_readNumber c0  h5).bind fun y12 =>
  some y12))
  else (lt (sI h5 c0 4 (h5.1 c0 1)) fun h13 =>
  lt (sI h13 c0 2 (-2 : Int32)) fun h14 =>
  some h14)
set_option maxRecDepth 100000 in
set_option maxHeartbeats 4000000 in
theorem o_X6_step_l8 {K : gK} (S : Cx K RX6 cX6_step 1 2 49) {c0 : Nat} (k0 : kd c0 (10 + 6, 0))  (h : Hp) {o : (Hp) ⊕ (Hp)} (hyp : s_X6_step_l8 c0  h = some o) (hin : ∀ s', o = .inl s' → Go K 8 [(0, .ref (ad K c0))] [] s') (hex0 : ∀ s', o = .inr (s') → Go K 46 [(0, .ref (ad K c0))] [] s') : Go K 8 [(0, .ref (ad K c0))] [] h := by
  unfold s_X6_step_l8 at hyp
  refine g_aload_n (pc := 8) 0 S dX6_step_8 rfl ?_
  refine g_getI (pc := 9) S dX6_step_9 fl_X6_52 k0 ?_
  refine g_aload_n (pc := 12) 0 S dX6_step_12 rfl ?_
  refine g_getI (pc := 13) S dX6_step_13 fl_X6_15 k0 ?_
  refine g_icmp_ge (pc := 16) (tgt := 46) S dX6_step_16 (by decide) hyp (fun hyp => ?_) (fun hyp => ?_)
  · refine g_aload_n (pc := 19) 0 S dX6_step_19 rfl ?_
    refine g_getR (pc := 20) S dX6_step_20 fl_X6_9 k0 ?_
    refine g_aload_n (pc := 23) 0 S dX6_step_23 rfl ?_
    refine g_getI (pc := 24) S dX6_step_24 fl_X6_52 k0 ?_
    refine g_iald (pc := 27) S dX6_step_27 (kf_6_1 k0) hyp (fun x2 hyp => ?_)
    refine g_bipush (pc := 28) (v := (32 : Int32)) S dX6_step_28 (by decide) ?_
    refine g_icmp_ne (pc := 30) (tgt := 46) S dX6_step_30 (by decide) hyp (fun hyp => ?_) (fun hyp => ?_)
    · refine g_aload_n (pc := 33) 0 S dX6_step_33 rfl ?_
      refine g_dup (pc := 34) S dX6_step_34 rfl ?_
      refine g_getI (pc := 35) S dX6_step_35 fl_X6_52 k0 ?_
      refine g_iconst (pc := 38) (v := (1 : Int32)) S dX6_step_38 (by decide) ?_
      refine g_iadd (pc := 39) S dX6_step_39 ?_
      refine g_putI (pc := 40) S dX6_step_40 fl_X6_52 k0 hyp (fun h3 hyp => ?_)
      refine g_goto (pc := 43) (tgt := 8) S dX6_step_43 (by decide) ?_
      have hyp := Option.some.inj hyp
      subst hyp
      exact g_sub [0] rfl (hin h3 rfl)
    · have hyp := Option.some.inj hyp
      subst hyp
      exact g_sub [0] rfl (hex0 h rfl)
  · have hyp := Option.some.inj hyp
    subst hyp
    exact g_sub [0] rfl (hex0 h rfl)
set_option maxRecDepth 100000 in
set_option maxHeartbeats 4000000 in
theorem o_X6_step_b136 {K : gK} (S : Cx K RX6 cX6_step 1 2 49) {c0 : Nat} (k0 : kd c0 (10 + 6, 0)) (t0 : Int32) (h : Hp) {o : Hp} (hyp : s_X6_step_b136 c0 t0 h = some o) (F : Rt K none none o) : Go K 136 [] [.int t0, .ref (ad K c0)] h := by
  unfold s_X6_step_b136 at hyp
  refine g_putI (pc := 136) S dX6_step_136 fl_X6_33 k0 hyp (fun h10 hyp => ?_)
  have hyp := Option.some.inj hyp
  subst hyp
  exact g_vret (pc := 139) S F dX6_step_139
set_option maxRecDepth 100000 in
set_option maxHeartbeats 4000000 in
theorem o_X6_step {K : gK} (S : Cx K RX6 cX6_step 1 2 49) {c0 : Nat} (k0 : kd c0 (10 + 6, 0))  (h : Hp) {o : Hp} (hyp : s_X6_step c0  h = some o) (F : Rt K none none o) : Go K 0 [(0, .ref (ad K c0))] [] h := by
  unfold s_X6_step at hyp
  refine g_aload_n (pc := 0) 0 S dX6_step_0 rfl ?_
  refine g_aload_n (pc := 1) 0 S dX6_step_1 rfl ?_
  refine g_getI (pc := 2) S dX6_step_2 fl_X6_27 k0 ?_
  refine g_putI (pc := 5) S dX6_step_5 fl_X6_52 k0 hyp (fun h1 hyp => ?_)
  refine g_bind hyp (fun e4 he4 hyp => ?_)
  refine g_sub [0] rfl (g_loop (f := fun s : Hp => s_X6_step_l8 c0  s) (ρ := Hp) (Hd := fun s : Hp => Go K 8 [(0, .ref (ad K c0))] [] s) (Ex := fun e4 => Go K 46 [(0, .ref (ad K c0))] [] e4) (fun s o h1 h2 h3 => o_X6_step_l8 S k0  s h1 h2 h3) FUEL _ e4 he4 ?_)
  refine g_aload_n (pc := 46) 0 S dX6_step_46 rfl ?_
  refine g_aload_n (pc := 47) 0 S dX6_step_47 rfl ?_
  refine g_getI (pc := 48) S dX6_step_48 fl_X6_52 k0 ?_
  refine g_iconst (pc := 51) (v := (1 : Int32)) S dX6_step_51 (by decide) ?_
  refine g_iadd (pc := 52) S dX6_step_52 ?_
  refine g_putI (pc := 53) S dX6_step_53 fl_X6_27 k0 hyp (fun h5 hyp => ?_)
  refine g_aload_n (pc := 56) 0 S dX6_step_56 rfl ?_
  refine g_getI (pc := 57) S dX6_step_57 fl_X6_52 k0 ?_
  refine g_aload_n (pc := 60) 0 S dX6_step_60 rfl ?_
  refine g_getI (pc := 61) S dX6_step_61 fl_X6_15 k0 ?_
  refine g_icmp_lt (pc := 64) (tgt := 84) S dX6_step_64 (by decide) hyp (fun hyp => ?_) (fun hyp => ?_)
  · refine g_aload_n (pc := 84) 0 S dX6_step_84 rfl ?_
    refine g_getR (pc := 85) S dX6_step_85 fl_X6_9 k0 ?_
    refine g_aload_n (pc := 88) 0 S dX6_step_88 rfl ?_
    refine g_getI (pc := 89) S dX6_step_89 fl_X6_52 k0 ?_
    refine g_iald (pc := 92) S dX6_step_92 (kf_6_1 k0) hyp (fun x6 hyp => ?_)
    refine g_bind hyp (fun y7 hy7 hyp => ?_)
    refine g_callS (pc := 93) (As := [.int x6]) (rest := []) S dX6_step_93 tw_450 tw_451 mw_X6_isDigit (m_X6_isDigit  x6 h5 hy7) rfl rfl (Nat.le_of_ble_eq_true rfl) (Nat.le_of_ble_eq_true rfl) (Nat.le_of_ble_eq_true rfl) ?_
    refine g_if_eq (pc := 96) (tgt := 106) S dX6_step_96 (by decide) hyp (fun hyp => ?_) (fun hyp => ?_)
    · refine g_aload_n (pc := 106) 0 S dX6_step_106 rfl ?_
      refine g_aload_n (pc := 107) 0 S dX6_step_107 rfl ?_
      refine g_getR (pc := 108) S dX6_step_108 fl_X6_9 k0 ?_
      refine g_aload_n (pc := 111) 0 S dX6_step_111 rfl ?_
      refine g_getI (pc := 112) S dX6_step_112 fl_X6_52 k0 ?_
      refine g_iald (pc := 115) S dX6_step_115 (kf_6_1 k0) hyp (fun x8 hyp => ?_)
      refine g_bind hyp (fun y9 hy9 hyp => ?_)
      refine g_callS (pc := 116) (As := [.int x8]) (rest := [.ref (ad K c0)]) S dX6_step_116 tw_459 tw_460 mw_X6_isToken (m_X6_isToken  x8 h5 hy9) rfl rfl (Nat.le_of_ble_eq_true rfl) (Nat.le_of_ble_eq_true rfl) (Nat.le_of_ble_eq_true rfl) ?_
      refine g_if_eq (pc := 119) (tgt := 134) S dX6_step_119 (by decide) hyp (fun hyp => ?_) (fun hyp => ?_)
      · refine g_bipush (pc := 134) (v := (-3 : Int32)) S dX6_step_134 (by decide) ?_
        exact g_sub [] rfl (o_X6_step_b136 S k0 (-3 : Int32) h5 hyp F)
      · refine g_aload_n (pc := 122) 0 S dX6_step_122 rfl ?_
        refine g_getR (pc := 123) S dX6_step_123 fl_X6_9 k0 ?_
        refine g_aload_n (pc := 126) 0 S dX6_step_126 rfl ?_
        refine g_getI (pc := 127) S dX6_step_127 fl_X6_52 k0 ?_
        refine g_iald (pc := 130) S dX6_step_130 (kf_6_1 k0) hyp (fun x11 hyp => ?_)
        refine g_goto (pc := 131) (tgt := 136) S dX6_step_131 (by decide) ?_
        exact g_sub [] rfl (o_X6_step_b136 S k0 x11 h5 hyp F)
    · refine g_aload_n (pc := 99) 0 S dX6_step_99 rfl ?_
      refine g_bind hyp (fun y12 hy12 hyp => ?_)
      refine g_callV (pc := 100) (As := []) (rest := []) S dX6_step_100 k0 rfl tw_453 tw_454 tw_1 mw_X6_readNumber (m_X6_readNumber k0  h5 hy12) rfl rfl (Nat.le_of_ble_eq_true rfl) (Nat.le_of_ble_eq_true rfl) (Nat.le_of_ble_eq_true rfl) ?_
      refine g_goto (pc := 103) (tgt := 139) S dX6_step_103 (by decide) ?_
      have hyp := Option.some.inj hyp
      subst hyp
      exact g_vret (pc := 139) S F dX6_step_139
  · refine g_aload_n (pc := 67) 0 S dX6_step_67 rfl ?_
    refine g_aload_n (pc := 68) 0 S dX6_step_68 rfl ?_
    refine g_getI (pc := 69) S dX6_step_69 fl_X6_15 k0 ?_
    refine g_putI (pc := 72) S dX6_step_72 fl_X6_27 k0 hyp (fun h13 hyp => ?_)
    refine g_aload_n (pc := 75) 0 S dX6_step_75 rfl ?_
    refine g_bipush (pc := 76) (v := (-2 : Int32)) S dX6_step_76 (by decide) ?_
    refine g_putI (pc := 78) S dX6_step_78 fl_X6_33 k0 hyp (fun h14 hyp => ?_)
    refine g_goto (pc := 81) (tgt := 139) S dX6_step_81 (by decide) ?_
    have hyp := Option.some.inj hyp
    subst hyp
    exact g_vret (pc := 139) S F dX6_step_139
theorem m_X6_step {l : Launch} {D : va_G} {cT : Nat → ClassId} {aD : Nat → Nat} {c0 : Nat} (k0 : kd c0 (10 + 6, 0))  (h : Hp) {o : Hp} (hyp : s_X6_step c0  h = some o) : Ok l D cT aD yX6_step cX6_step 1 none 2 49 [.ref (aD c0)] h none o :=
  Ok.of (by decide +kernel) rfl (Nat.le_of_ble_eq_true rfl) (fun K e1 e2 e3 e4 S F => by subst e1; exact o_X6_step S k0  h hyp F)
-- BoundProofs$Reader isNumber (II)Z
noncomputable def s_X6_isNumber (c0 : Nat) (a1 : Int32) (a2 : Int32) (h : Hp) : Option (Int32) :=
  if (h.1 c0 2) = (-1 : Int32) then (if (h.1 c0 5) < a1 then (some (0 : Int32))
  else (if a2 < (h.1 c0 5) then (some (0 : Int32))
  else (some (1 : Int32))))
  else (some (0 : Int32))
set_option maxRecDepth 100000 in
set_option maxHeartbeats 4000000 in
theorem o_X6_isNumber {K : gK} (S : Cx K RX6 cX6_isNumber 3 0 0) {c0 : Nat} (k0 : kd c0 (10 + 6, 0)) (a1 : Int32) (a2 : Int32) (h : Hp) {o : Int32} (hyp : s_X6_isNumber c0 a1 a2 h = some o) (F : Rt K (some .boolean) (some (.int o)) h) : Go K 0 [(0, .ref (ad K c0)), (1, .int a1), (2, .int a2)] [] h := by
  unfold s_X6_isNumber at hyp
  refine g_aload_n (pc := 0) 0 S dX6_isNumber_0 rfl ?_
  refine g_getI (pc := 1) S dX6_isNumber_1 fl_X6_33 k0 ?_
  refine g_iconst (pc := 4) (v := (-1 : Int32)) S dX6_isNumber_4 (by decide) ?_
  refine g_icmp_ne (pc := 5) (tgt := 28) S dX6_isNumber_5 (by decide) hyp (fun hyp => ?_) (fun hyp => ?_)
  · refine g_aload_n (pc := 8) 0 S dX6_isNumber_8 rfl ?_
    refine g_getI (pc := 9) S dX6_isNumber_9 fl_X6_65 k0 ?_
    refine g_iload_n (pc := 12) 1 S dX6_isNumber_12 rfl ?_
    refine g_icmp_lt (pc := 13) (tgt := 28) S dX6_isNumber_13 (by decide) hyp (fun hyp => ?_) (fun hyp => ?_)
    · refine g_iconst (pc := 28) (v := (0 : Int32)) S dX6_isNumber_28 (by decide) ?_
      have hyp := Option.some.inj hyp
      subst hyp
      exact g_zret (pc := 29) S F dX6_isNumber_29 (Or.inl rfl)
    · refine g_aload_n (pc := 16) 0 S dX6_isNumber_16 rfl ?_
      refine g_getI (pc := 17) S dX6_isNumber_17 fl_X6_65 k0 ?_
      refine g_iload_n (pc := 20) 2 S dX6_isNumber_20 rfl ?_
      refine g_icmp_gt (pc := 21) (tgt := 28) S dX6_isNumber_21 (by decide) hyp (fun hyp => ?_) (fun hyp => ?_)
      · refine g_iconst (pc := 28) (v := (0 : Int32)) S dX6_isNumber_28 (by decide) ?_
        have hyp := Option.some.inj hyp
        subst hyp
        exact g_zret (pc := 29) S F dX6_isNumber_29 (Or.inl rfl)
      · refine g_iconst (pc := 24) (v := (1 : Int32)) S dX6_isNumber_24 (by decide) ?_
        refine g_goto (pc := 25) (tgt := 29) S dX6_isNumber_25 (by decide) ?_
        have hyp := Option.some.inj hyp
        subst hyp
        exact g_zret (pc := 29) S F dX6_isNumber_29 (Or.inr rfl)
  · refine g_iconst (pc := 28) (v := (0 : Int32)) S dX6_isNumber_28 (by decide) ?_
    have hyp := Option.some.inj hyp
    subst hyp
    exact g_zret (pc := 29) S F dX6_isNumber_29 (Or.inl rfl)
theorem m_X6_isNumber {l : Launch} {D : va_G} {cT : Nat → ClassId} {aD : Nat → Nat} {c0 : Nat} (k0 : kd c0 (10 + 6, 0)) (a1 : Int32) (a2 : Int32) (h : Hp) {o : Int32} (hyp : s_X6_isNumber c0 a1 a2 h = some o) : Ok l D cT aD yX6_isNumber cX6_isNumber 3 (some .boolean) 0 0 [.ref (aD c0), .int a1, .int a2] h (some (.int o)) h :=
  Ok.of (by decide +kernel) rfl (Nat.le_of_ble_eq_true rfl) (fun K e1 e2 e3 e4 S F => by subst e1; exact o_X6_isNumber S k0 a1 a2 h hyp F)
-- BoundProofs$Reader readSemicolon ()Z
noncomputable def s_X6_readSemicolon (c0 : Nat)  (h : Hp) : Option (Int32 × Hp) :=
  if (h.1 c0 2) = (59 : Int32) then ((s_X6_step c0  h).bind fun y1 =>
  some ((1 : Int32), y1))
  else (some ((0 : Int32), h))
set_option maxRecDepth 100000 in
set_option maxHeartbeats 4000000 in
theorem o_X6_readSemicolon {K : gK} (S : Cx K RX6 cX6_readSemicolon 1 3 73) {c0 : Nat} (k0 : kd c0 (10 + 6, 0))  (h : Hp) {o : Int32 × Hp} (hyp : s_X6_readSemicolon c0  h = some o) (F : Rt K (some .boolean) (some (.int o.1)) o.2) : Go K 0 [(0, .ref (ad K c0))] [] h := by
  unfold s_X6_readSemicolon at hyp
  refine g_aload_n (pc := 0) 0 S dX6_readSemicolon_0 rfl ?_
  refine g_getI (pc := 1) S dX6_readSemicolon_1 fl_X6_33 k0 ?_
  refine g_bipush (pc := 4) (v := (59 : Int32)) S dX6_readSemicolon_4 (by decide) ?_
  refine g_icmp_eq (pc := 6) (tgt := 11) S dX6_readSemicolon_6 (by decide) hyp (fun hyp => ?_) (fun hyp => ?_)
  · refine g_aload_n (pc := 11) 0 S dX6_readSemicolon_11 rfl ?_
    refine g_bind hyp (fun y1 hy1 hyp => ?_)
    refine g_callV (pc := 12) (As := []) (rest := []) S dX6_readSemicolon_12 k0 rfl tw_447 tw_448 tw_0 mw_X6_step (m_X6_step k0  h hy1) rfl rfl (Nat.le_of_ble_eq_true rfl) (Nat.le_of_ble_eq_true rfl) (Nat.le_of_ble_eq_true rfl) ?_
    refine g_iconst (pc := 15) (v := (1 : Int32)) S dX6_readSemicolon_15 (by decide) ?_
    have hyp := Option.some.inj hyp
    subst hyp
    exact g_zret (pc := 16) S F dX6_readSemicolon_16 (Or.inr rfl)
  · refine g_iconst (pc := 9) (v := (0 : Int32)) S dX6_readSemicolon_9 (by decide) ?_
    have hyp := Option.some.inj hyp
    subst hyp
    exact g_zret (pc := 10) S F dX6_readSemicolon_10 (Or.inl rfl)
theorem m_X6_readSemicolon {l : Launch} {D : va_G} {cT : Nat → ClassId} {aD : Nat → Nat} {c0 : Nat} (k0 : kd c0 (10 + 6, 0))  (h : Hp) {o : Int32 × Hp} (hyp : s_X6_readSemicolon c0  h = some o) : Ok l D cT aD yX6_readSemicolon cX6_readSemicolon 1 (some .boolean) 3 73 [.ref (aD c0)] h (some (.int o.1)) o.2 :=
  Ok.of (by decide +kernel) rfl (Nat.le_of_ble_eq_true rfl) (fun K e1 e2 e3 e4 S F => by subst e1; exact o_X6_readSemicolon S k0  h hyp F)
-- BoundProofs$Reader readVariables (LBoundProofs$Problem;)Z
noncomputable def s_X6_readVariables (c0 : Nat) (c1 : Nat)  (h : Hp) : Option (Int32 × Hp) :=
  (s_X6_step c0  h).bind fun y1 =>
  (s_X6_isNumber c0 (1 : Int32) (3 : Int32) y1).bind fun y2 =>
  if y2 = 0 then (some ((0 : Int32), y1))
  else (lt (sI y1 c1 0 (y1.1 c0 5)) fun h3 =>
  (s_X6_step c0  h3).bind fun y4 =>
  (s_X6_readSemicolon c0  y4).bind fun y5 =>
  ckB y5.1 <|
  some (y5.1, y5.2))
set_option maxRecDepth 100000 in
set_option maxHeartbeats 4000000 in
theorem o_X6_readVariables {K : gK} (S : Cx K RX6 cX6_readVariables 2 4 97) {c0 : Nat} (k0 : kd c0 (10 + 6, 0)) {c1 : Nat} (k1 : kd c1 (10 + 5, 0))  (h : Hp) {o : Int32 × Hp} (hyp : s_X6_readVariables c0 c1  h = some o) (F : Rt K (some .boolean) (some (.int o.1)) o.2) : Go K 0 [(0, .ref (ad K c0)), (1, .ref (ad K c1))] [] h := by
  unfold s_X6_readVariables at hyp
  refine g_aload_n (pc := 0) 0 S dX6_readVariables_0 rfl ?_
  refine g_bind hyp (fun y1 hy1 hyp => ?_)
  refine g_callV (pc := 1) (As := []) (rest := []) S dX6_readVariables_1 k0 rfl tw_447 tw_448 tw_0 mw_X6_step (m_X6_step k0  h hy1) rfl rfl (Nat.le_of_ble_eq_true rfl) (Nat.le_of_ble_eq_true rfl) (Nat.le_of_ble_eq_true rfl) ?_
  refine g_aload_n (pc := 4) 0 S dX6_readVariables_4 rfl ?_
  refine g_iconst (pc := 5) (v := (1 : Int32)) S dX6_readVariables_5 (by decide) ?_
  refine g_iconst (pc := 6) (v := (3 : Int32)) S dX6_readVariables_6 (by decide) ?_
  refine g_bind hyp (fun y2 hy2 hyp => ?_)
  refine g_callV (pc := 7) (As := [.int (1 : Int32), .int (3 : Int32)]) (rest := []) S dX6_readVariables_7 k0 rfl tw_465 tw_466 tw_3 mw_X6_isNumber (m_X6_isNumber k0 (1 : Int32) (3 : Int32) y1 hy2) rfl rfl (Nat.le_of_ble_eq_true rfl) (Nat.le_of_ble_eq_true rfl) (Nat.le_of_ble_eq_true rfl) ?_
  refine g_if_ne (pc := 10) (tgt := 15) S dX6_readVariables_10 (by decide) hyp (fun hyp => ?_) (fun hyp => ?_)
  · refine g_iconst (pc := 13) (v := (0 : Int32)) S dX6_readVariables_13 (by decide) ?_
    have hyp := Option.some.inj hyp
    subst hyp
    exact g_zret (pc := 14) S F dX6_readVariables_14 (Or.inl rfl)
  · refine g_aload_n (pc := 15) 1 S dX6_readVariables_15 rfl ?_
    refine g_aload_n (pc := 16) 0 S dX6_readVariables_16 rfl ?_
    refine g_getI (pc := 17) S dX6_readVariables_17 fl_X6_65 k0 ?_
    refine g_putI (pc := 20) S dX6_readVariables_20 fl_X6_78 k1 hyp (fun h3 hyp => ?_)
    refine g_aload_n (pc := 23) 0 S dX6_readVariables_23 rfl ?_
    refine g_bind hyp (fun y4 hy4 hyp => ?_)
    refine g_callV (pc := 24) (As := []) (rest := []) S dX6_readVariables_24 k0 rfl tw_447 tw_448 tw_0 mw_X6_step (m_X6_step k0  h3 hy4) rfl rfl (Nat.le_of_ble_eq_true rfl) (Nat.le_of_ble_eq_true rfl) (Nat.le_of_ble_eq_true rfl) ?_
    refine g_aload_n (pc := 27) 0 S dX6_readVariables_27 rfl ?_
    refine g_bind hyp (fun y5 hy5 hyp => ?_)
    refine g_callV (pc := 28) (As := []) (rest := []) S dX6_readVariables_28 k0 rfl tw_468 tw_469 tw_4 mw_X6_readSemicolon (m_X6_readSemicolon k0  y4 hy5) rfl rfl (Nat.le_of_ble_eq_true rfl) (Nat.le_of_ble_eq_true rfl) (Nat.le_of_ble_eq_true rfl) ?_
    refine g_ckB hyp (fun hz hyp => ?_)
    have hyp := Option.some.inj hyp
    subst hyp
    exact g_zret (pc := 31) S F dX6_readVariables_31 hz
theorem m_X6_readVariables {l : Launch} {D : va_G} {cT : Nat → ClassId} {aD : Nat → Nat} {c0 : Nat} (k0 : kd c0 (10 + 6, 0)) {c1 : Nat} (k1 : kd c1 (10 + 5, 0))  (h : Hp) {o : Int32 × Hp} (hyp : s_X6_readVariables c0 c1  h = some o) : Ok l D cT aD yX6_readVariables cX6_readVariables 2 (some .boolean) 4 97 [.ref (aD c0), .ref (aD c1)] h (some (.int o.1)) o.2 :=
  Ok.of (by decide +kernel) rfl (Nat.le_of_ble_eq_true rfl) (fun K e1 e2 e3 e4 S F => by subst e1; exact o_X6_readVariables S k0 k1  h hyp F)
-- BoundProofs$Problem hasVariable (I)Z
noncomputable def s_X5_hasVariable (c0 : Nat) (a1 : Int32) (h : Hp) : Option (Int32) :=
  if a1 < 0 then (some (0 : Int32))
  else (if a1 < (h.1 c0 0) then (some (1 : Int32))
  else (some (0 : Int32)))
set_option maxRecDepth 100000 in
set_option maxHeartbeats 4000000 in
theorem o_X5_hasVariable {K : gK} (S : Cx K RX5 cX5_hasVariable 2 0 0) {c0 : Nat} (k0 : kd c0 (10 + 5, 0)) (a1 : Int32) (h : Hp) {o : Int32} (hyp : s_X5_hasVariable c0 a1 h = some o) (F : Rt K (some .boolean) (some (.int o)) h) : Go K 0 [(0, .ref (ad K c0)), (1, .int a1)] [] h := by
  unfold s_X5_hasVariable at hyp
  refine g_iload_n (pc := 0) 1 S dX5_hasVariable_0 rfl ?_
  refine g_if_lt (pc := 1) (tgt := 16) S dX5_hasVariable_1 (by decide) hyp (fun hyp => ?_) (fun hyp => ?_)
  · refine g_iconst (pc := 16) (v := (0 : Int32)) S dX5_hasVariable_16 (by decide) ?_
    have hyp := Option.some.inj hyp
    subst hyp
    exact g_zret (pc := 17) S F dX5_hasVariable_17 (Or.inl rfl)
  · refine g_iload_n (pc := 4) 1 S dX5_hasVariable_4 rfl ?_
    refine g_aload_n (pc := 5) 0 S dX5_hasVariable_5 rfl ?_
    refine g_getI (pc := 6) S dX5_hasVariable_6 fl_X5_9 k0 ?_
    refine g_icmp_ge (pc := 9) (tgt := 16) S dX5_hasVariable_9 (by decide) hyp (fun hyp => ?_) (fun hyp => ?_)
    · refine g_iconst (pc := 12) (v := (1 : Int32)) S dX5_hasVariable_12 (by decide) ?_
      refine g_goto (pc := 13) (tgt := 17) S dX5_hasVariable_13 (by decide) ?_
      have hyp := Option.some.inj hyp
      subst hyp
      exact g_zret (pc := 17) S F dX5_hasVariable_17 (Or.inr rfl)
    · refine g_iconst (pc := 16) (v := (0 : Int32)) S dX5_hasVariable_16 (by decide) ?_
      have hyp := Option.some.inj hyp
      subst hyp
      exact g_zret (pc := 17) S F dX5_hasVariable_17 (Or.inl rfl)
theorem m_X5_hasVariable {l : Launch} {D : va_G} {cT : Nat → ClassId} {aD : Nat → Nat} {c0 : Nat} (k0 : kd c0 (10 + 5, 0)) (a1 : Int32) (h : Hp) {o : Int32} (hyp : s_X5_hasVariable c0 a1 h = some o) : Ok l D cT aD yX5_hasVariable cX5_hasVariable 2 (some .boolean) 0 0 [.ref (aD c0), .int a1] h (some (.int o)) h :=
  Ok.of (by decide +kernel) rfl (Nat.le_of_ble_eq_true rfl) (fun K e1 e2 e3 e4 S F => by subst e1; exact o_X5_hasVariable S k0 a1 h hyp F)
-- BoundProofs$Reader readTerm (LBoundProofs$Problem;)Z
noncomputable def s_X6_readTerm_b57 (c0 : Nat) (c1 : Nat) (a2 : Int32) (h : Hp) : Option (Int32 × Hp) :=
  lt ((h.1 c0 2) - (97 : Int32)) fun v3_3 =>
  (s_X5_hasVariable c1 v3_3 h).bind fun y4 =>
  if y4 = 0 then (some ((0 : Int32), h))
  else (if v3_3 < (3 : Int32) then (ldI h (c0 + 2) 3 v3_3 fun x5 =>
  stI h (c0 + 2) 3 v3_3 (x5 + a2) fun h6 =>
  (s_X6_step c0  h6).bind fun y7 =>
  some ((1 : Int32), y7))
  else (some ((0 : Int32), h)))
noncomputable def s_X6_readTerm_b37 (c0 : Nat) (c1 : Nat) (a2 : Int32) (h : Hp) : Option (Int32 × Hp) :=
  (s_X6_isNumber c0 (1 : Int32) (3 : Int32) h).bind fun y2 =>
  if y2 = 0 then (s_X6_readTerm_b57 c0 c1 a2 h)
  else (lt (a2 * (h.1 c0 5)) fun v2_8 =>
  (s_X6_step c0  h).bind fun y9 =>
  s_X6_readTerm_b57 c0 c1 v2_8 y9)
noncomputable def s_X6_readTerm_b33 (c0 : Nat) (c1 : Nat) (a2 : Int32) (h : Hp) : Option (Int32 × Hp) :=
  (s_X6_step c0  h).bind fun y1 =>
  s_X6_readTerm_b37 c0 c1 a2 y1
noncomputable def s_X6_readTerm_b14 (c0 : Nat) (c1 : Nat) (t0 : Int32) (h : Hp) : Option (Int32 × Hp) :=
  if (h.1 c0 2) = (43 : Int32) then (s_X6_readTerm_b33 c0 c1 t0 h)
  else (if (h.1 c0 2) = (45 : Int32) then (s_X6_readTerm_b33 c0 c1 t0 h)
  else (s_X6_readTerm_b37 c0 c1 t0 h))
noncomputable def s_X6_readTerm (c0 : Nat) (c1 : Nat)  (h : Hp) : Option (Int32 × Hp) :=
  if (h.1 c0 2) = (45 : Int32) then (s_X6_readTerm_b14 c0 c1 (-1 : Int32) h)
  else (s_X6_readTerm_b14 c0 c1 (1 : Int32) h)
set_option maxRecDepth 100000 in
set_option maxHeartbeats 4000000 in
theorem o_X6_readTerm_b57 {K : gK} (S : Cx K RX6 cX6_readTerm 4 3 73) {c0 : Nat} (k0 : kd c0 (10 + 6, 0)) {c1 : Nat} (k1 : kd c1 (10 + 5, 0)) (a2 : Int32) (h : Hp) {o : Int32 × Hp} (hyp : s_X6_readTerm_b57 c0 c1 a2 h = some o) (F : Rt K (some .boolean) (some (.int o.1)) o.2) : Go K 57 [(0, .ref (ad K c0)), (1, .ref (ad K c1)), (2, .int a2)] [] h := by
  unfold s_X6_readTerm_b57 at hyp
  refine g_aload_n (pc := 57) 0 S dX6_readTerm_57 rfl ?_
  refine g_getI (pc := 58) S dX6_readTerm_58 fl_X6_33 k0 ?_
  refine g_bipush (pc := 61) (v := (97 : Int32)) S dX6_readTerm_61 (by decide) ?_
  refine g_isub (pc := 63) S dX6_readTerm_63 ?_
  refine g_lti (C := fun v3_3 => Go K 64 [(0, .ref (ad K c0)), (1, .ref (ad K c1)), (2, .int a2)] [.int v3_3] h) hyp (fun v3_3 hyp => ?_)
  refine g_istore_n (pc := 64) (lv' := [(3, .int v3_3), (0, .ref (ad K c0)), (1, .ref (ad K c1)), (2, .int a2)]) S dX6_readTerm_64 rfl (by decide) rfl ?_
  refine g_aload_n (pc := 65) 2 S dX6_readTerm_65 rfl ?_
  refine g_iload_n (pc := 66) 0 S dX6_readTerm_66 rfl ?_
  refine g_bind hyp (fun y4 hy4 hyp => ?_)
  refine g_callV (pc := 67) (As := [.int v3_3]) (rest := []) S dX6_readTerm_67 k1 rfl tw_477 tw_478 tw_479 mw_X5_hasVariable (m_X5_hasVariable k1 v3_3 h hy4) rfl rfl (Nat.le_of_ble_eq_true rfl) (Nat.le_of_ble_eq_true rfl) (Nat.le_of_ble_eq_true rfl) ?_
  refine g_if_eq (pc := 70) (tgt := 82) S dX6_readTerm_70 (by decide) hyp (fun hyp => ?_) (fun hyp => ?_)
  · refine g_iconst (pc := 82) (v := (0 : Int32)) S dX6_readTerm_82 (by decide) ?_
    have hyp := Option.some.inj hyp
    subst hyp
    exact g_zret (pc := 83) S F dX6_readTerm_83 (Or.inl rfl)
  · refine g_iload_n (pc := 73) 0 S dX6_readTerm_73 rfl ?_
    refine g_aload_n (pc := 74) 1 S dX6_readTerm_74 rfl ?_
    refine g_getR (pc := 75) S dX6_readTerm_75 fl_X6_19 k0 ?_
    refine g_alen (pc := 78) (v := (3 : Int32)) S dX6_readTerm_78 (kf_6_2 k0) (by decide) (by decide) ?_
    refine g_icmp_lt (pc := 79) (tgt := 84) S dX6_readTerm_79 (by decide) hyp (fun hyp => ?_) (fun hyp => ?_)
    · refine g_aload_n (pc := 84) 1 S dX6_readTerm_84 rfl ?_
      refine g_getR (pc := 85) S dX6_readTerm_85 fl_X6_19 k0 ?_
      refine g_iload_n (pc := 88) 0 S dX6_readTerm_88 rfl ?_
      refine g_dup2 (pc := 89) S dX6_readTerm_89 rfl rfl ?_
      refine g_iald (pc := 90) S dX6_readTerm_90 (kf_6_2 k0) hyp (fun x5 hyp => ?_)
      refine g_iload_n (pc := 91) 3 S dX6_readTerm_91 rfl ?_
      refine g_iadd (pc := 92) S dX6_readTerm_92 ?_
      refine g_iast (pc := 93) S dX6_readTerm_93 (kf_6_2 k0) hyp (fun h6 hyp => ?_)
      refine g_aload_n (pc := 94) 1 S dX6_readTerm_94 rfl ?_
      refine g_bind hyp (fun y7 hy7 hyp => ?_)
      refine g_callV (pc := 95) (As := []) (rest := []) S dX6_readTerm_95 k0 rfl tw_447 tw_448 tw_0 mw_X6_step (m_X6_step k0  h6 hy7) rfl rfl (Nat.le_of_ble_eq_true rfl) (Nat.le_of_ble_eq_true rfl) (Nat.le_of_ble_eq_true rfl) ?_
      refine g_iconst (pc := 98) (v := (1 : Int32)) S dX6_readTerm_98 (by decide) ?_
      have hyp := Option.some.inj hyp
      subst hyp
      exact g_zret (pc := 99) S F dX6_readTerm_99 (Or.inr rfl)
    · refine g_iconst (pc := 82) (v := (0 : Int32)) S dX6_readTerm_82 (by decide) ?_
      have hyp := Option.some.inj hyp
      subst hyp
      exact g_zret (pc := 83) S F dX6_readTerm_83 (Or.inl rfl)
set_option maxRecDepth 100000 in
set_option maxHeartbeats 4000000 in
theorem o_X6_readTerm_b37 {K : gK} (S : Cx K RX6 cX6_readTerm 4 3 73) {c0 : Nat} (k0 : kd c0 (10 + 6, 0)) {c1 : Nat} (k1 : kd c1 (10 + 5, 0)) (a2 : Int32) (h : Hp) {o : Int32 × Hp} (hyp : s_X6_readTerm_b37 c0 c1 a2 h = some o) (F : Rt K (some .boolean) (some (.int o.1)) o.2) : Go K 37 [(0, .ref (ad K c0)), (1, .ref (ad K c1)), (2, .int a2)] [] h := by
  unfold s_X6_readTerm_b37 at hyp
  refine g_aload_n (pc := 37) 0 S dX6_readTerm_37 rfl ?_
  refine g_iconst (pc := 38) (v := (1 : Int32)) S dX6_readTerm_38 (by decide) ?_
  refine g_iconst (pc := 39) (v := (3 : Int32)) S dX6_readTerm_39 (by decide) ?_
  refine g_bind hyp (fun y2 hy2 hyp => ?_)
  refine g_callV (pc := 40) (As := [.int (1 : Int32), .int (3 : Int32)]) (rest := []) S dX6_readTerm_40 k0 rfl tw_465 tw_466 tw_3 mw_X6_isNumber (m_X6_isNumber k0 (1 : Int32) (3 : Int32) h hy2) rfl rfl (Nat.le_of_ble_eq_true rfl) (Nat.le_of_ble_eq_true rfl) (Nat.le_of_ble_eq_true rfl) ?_
  refine g_if_eq (pc := 43) (tgt := 57) S dX6_readTerm_43 (by decide) hyp (fun hyp => ?_) (fun hyp => ?_)
  · exact g_sub [0, 1, 2] rfl (o_X6_readTerm_b57 S k0 k1 a2 h hyp F)
  · refine g_iload_n (pc := 46) 2 S dX6_readTerm_46 rfl ?_
    refine g_aload_n (pc := 47) 0 S dX6_readTerm_47 rfl ?_
    refine g_getI (pc := 48) S dX6_readTerm_48 fl_X6_65 k0 ?_
    refine g_imul (pc := 51) S dX6_readTerm_51 ?_
    refine g_lti (C := fun v2_8 => Go K 52 [(0, .ref (ad K c0)), (1, .ref (ad K c1)), (2, .int a2)] [.int v2_8] h) hyp (fun v2_8 hyp => ?_)
    refine g_istore_n (pc := 52) (lv' := [(2, .int v2_8), (0, .ref (ad K c0)), (1, .ref (ad K c1))]) S dX6_readTerm_52 rfl (by decide) rfl ?_
    refine g_aload_n (pc := 53) 1 S dX6_readTerm_53 rfl ?_
    refine g_bind hyp (fun y9 hy9 hyp => ?_)
    refine g_callV (pc := 54) (As := []) (rest := []) S dX6_readTerm_54 k0 rfl tw_447 tw_448 tw_0 mw_X6_step (m_X6_step k0  h hy9) rfl rfl (Nat.le_of_ble_eq_true rfl) (Nat.le_of_ble_eq_true rfl) (Nat.le_of_ble_eq_true rfl) ?_
    exact g_sub [1, 2, 0] rfl (o_X6_readTerm_b57 S k0 k1 v2_8 y9 hyp F)
set_option maxRecDepth 100000 in
set_option maxHeartbeats 4000000 in
theorem o_X6_readTerm_b33 {K : gK} (S : Cx K RX6 cX6_readTerm 4 3 73) {c0 : Nat} (k0 : kd c0 (10 + 6, 0)) {c1 : Nat} (k1 : kd c1 (10 + 5, 0)) (a2 : Int32) (h : Hp) {o : Int32 × Hp} (hyp : s_X6_readTerm_b33 c0 c1 a2 h = some o) (F : Rt K (some .boolean) (some (.int o.1)) o.2) : Go K 33 [(0, .ref (ad K c0)), (1, .ref (ad K c1)), (2, .int a2)] [] h := by
  unfold s_X6_readTerm_b33 at hyp
  refine g_aload_n (pc := 33) 0 S dX6_readTerm_33 rfl ?_
  refine g_bind hyp (fun y1 hy1 hyp => ?_)
  refine g_callV (pc := 34) (As := []) (rest := []) S dX6_readTerm_34 k0 rfl tw_447 tw_448 tw_0 mw_X6_step (m_X6_step k0  h hy1) rfl rfl (Nat.le_of_ble_eq_true rfl) (Nat.le_of_ble_eq_true rfl) (Nat.le_of_ble_eq_true rfl) ?_
  exact g_sub [0, 1, 2] rfl (o_X6_readTerm_b37 S k0 k1 a2 y1 hyp F)
set_option maxRecDepth 100000 in
set_option maxHeartbeats 4000000 in
theorem o_X6_readTerm_b14 {K : gK} (S : Cx K RX6 cX6_readTerm 4 3 73) {c0 : Nat} (k0 : kd c0 (10 + 6, 0)) {c1 : Nat} (k1 : kd c1 (10 + 5, 0)) (t0 : Int32) (h : Hp) {o : Int32 × Hp} (hyp : s_X6_readTerm_b14 c0 c1 t0 h = some o) (F : Rt K (some .boolean) (some (.int o.1)) o.2) : Go K 14 [(0, .ref (ad K c0)), (1, .ref (ad K c1))] [.int t0] h := by
  unfold s_X6_readTerm_b14 at hyp
  refine g_istore_n (pc := 14) (lv' := [(2, .int t0), (0, .ref (ad K c0)), (1, .ref (ad K c1))]) S dX6_readTerm_14 rfl (by decide) rfl ?_
  refine g_aload_n (pc := 15) 1 S dX6_readTerm_15 rfl ?_
  refine g_getI (pc := 16) S dX6_readTerm_16 fl_X6_33 k0 ?_
  refine g_bipush (pc := 19) (v := (43 : Int32)) S dX6_readTerm_19 (by decide) ?_
  refine g_icmp_eq (pc := 21) (tgt := 33) S dX6_readTerm_21 (by decide) hyp (fun hyp => ?_) (fun hyp => ?_)
  · exact g_sub [1, 2, 0] rfl (o_X6_readTerm_b33 S k0 k1 t0 h hyp F)
  · refine g_aload_n (pc := 24) 1 S dX6_readTerm_24 rfl ?_
    refine g_getI (pc := 25) S dX6_readTerm_25 fl_X6_33 k0 ?_
    refine g_bipush (pc := 28) (v := (45 : Int32)) S dX6_readTerm_28 (by decide) ?_
    refine g_icmp_ne (pc := 30) (tgt := 37) S dX6_readTerm_30 (by decide) hyp (fun hyp => ?_) (fun hyp => ?_)
    · exact g_sub [1, 2, 0] rfl (o_X6_readTerm_b33 S k0 k1 t0 h hyp F)
    · exact g_sub [1, 2, 0] rfl (o_X6_readTerm_b37 S k0 k1 t0 h hyp F)
set_option maxRecDepth 100000 in
set_option maxHeartbeats 4000000 in
theorem o_X6_readTerm {K : gK} (S : Cx K RX6 cX6_readTerm 4 3 73) {c0 : Nat} (k0 : kd c0 (10 + 6, 0)) {c1 : Nat} (k1 : kd c1 (10 + 5, 0))  (h : Hp) {o : Int32 × Hp} (hyp : s_X6_readTerm c0 c1  h = some o) (F : Rt K (some .boolean) (some (.int o.1)) o.2) : Go K 0 [(0, .ref (ad K c0)), (1, .ref (ad K c1))] [] h := by
  unfold s_X6_readTerm at hyp
  refine g_aload_n (pc := 0) 0 S dX6_readTerm_0 rfl ?_
  refine g_getI (pc := 1) S dX6_readTerm_1 fl_X6_33 k0 ?_
  refine g_bipush (pc := 4) (v := (45 : Int32)) S dX6_readTerm_4 (by decide) ?_
  refine g_icmp_ne (pc := 6) (tgt := 13) S dX6_readTerm_6 (by decide) hyp (fun hyp => ?_) (fun hyp => ?_)
  · refine g_iconst (pc := 9) (v := (-1 : Int32)) S dX6_readTerm_9 (by decide) ?_
    refine g_goto (pc := 10) (tgt := 14) S dX6_readTerm_10 (by decide) ?_
    exact g_sub [0, 1] rfl (o_X6_readTerm_b14 S k0 k1 (-1 : Int32) h hyp F)
  · refine g_iconst (pc := 13) (v := (1 : Int32)) S dX6_readTerm_13 (by decide) ?_
    exact g_sub [0, 1] rfl (o_X6_readTerm_b14 S k0 k1 (1 : Int32) h hyp F)
theorem m_X6_readTerm {l : Launch} {D : va_G} {cT : Nat → ClassId} {aD : Nat → Nat} {c0 : Nat} (k0 : kd c0 (10 + 6, 0)) {c1 : Nat} (k1 : kd c1 (10 + 5, 0))  (h : Hp) {o : Int32 × Hp} (hyp : s_X6_readTerm c0 c1  h = some o) : Ok l D cT aD yX6_readTerm cX6_readTerm 4 (some .boolean) 3 73 [.ref (aD c0), .ref (aD c1)] h (some (.int o.1)) o.2 :=
  Ok.of (by decide +kernel) rfl (Nat.le_of_ble_eq_true rfl) (fun K e1 e2 e3 e4 S F => by subst e1; exact o_X6_readTerm S k0 k1  h hyp F)
-- BoundProofs$Problem allowsCoefficient (II)Z
noncomputable def s_X5_allowsCoefficient (c0 : Nat) (a1 : Int32) (a2 : Int32) (h : Hp) : Option (Int32) :=
  if a1 < (h.1 c0 0) then (if a2 < (-3 : Int32) then (some (0 : Int32))
  else (if (3 : Int32) < a2 then (some (0 : Int32))
  else (some (1 : Int32))))
  else (if a2 = 0 then (some (1 : Int32))
  else (some (0 : Int32)))
set_option maxRecDepth 100000 in
set_option maxHeartbeats 4000000 in
theorem o_X5_allowsCoefficient {K : gK} (S : Cx K RX5 cX5_allowsCoefficient 3 0 0) {c0 : Nat} (k0 : kd c0 (10 + 5, 0)) (a1 : Int32) (a2 : Int32) (h : Hp) {o : Int32} (hyp : s_X5_allowsCoefficient c0 a1 a2 h = some o) (F : Rt K (some .boolean) (some (.int o)) h) : Go K 0 [(0, .ref (ad K c0)), (1, .int a1), (2, .int a2)] [] h := by
  unfold s_X5_allowsCoefficient at hyp
  refine g_iload_n (pc := 0) 1 S dX5_allowsCoefficient_0 rfl ?_
  refine g_aload_n (pc := 1) 0 S dX5_allowsCoefficient_1 rfl ?_
  refine g_getI (pc := 2) S dX5_allowsCoefficient_2 fl_X5_9 k0 ?_
  refine g_icmp_lt (pc := 5) (tgt := 18) S dX5_allowsCoefficient_5 (by decide) hyp (fun hyp => ?_) (fun hyp => ?_)
  · refine g_iload_n (pc := 18) 2 S dX5_allowsCoefficient_18 rfl ?_
    refine g_bipush (pc := 19) (v := (-3 : Int32)) S dX5_allowsCoefficient_19 (by decide) ?_
    refine g_icmp_lt (pc := 21) (tgt := 33) S dX5_allowsCoefficient_21 (by decide) hyp (fun hyp => ?_) (fun hyp => ?_)
    · refine g_iconst (pc := 33) (v := (0 : Int32)) S dX5_allowsCoefficient_33 (by decide) ?_
      have hyp := Option.some.inj hyp
      subst hyp
      exact g_zret (pc := 34) S F dX5_allowsCoefficient_34 (Or.inl rfl)
    · refine g_iload_n (pc := 24) 2 S dX5_allowsCoefficient_24 rfl ?_
      refine g_iconst (pc := 25) (v := (3 : Int32)) S dX5_allowsCoefficient_25 (by decide) ?_
      refine g_icmp_gt (pc := 26) (tgt := 33) S dX5_allowsCoefficient_26 (by decide) hyp (fun hyp => ?_) (fun hyp => ?_)
      · refine g_iconst (pc := 33) (v := (0 : Int32)) S dX5_allowsCoefficient_33 (by decide) ?_
        have hyp := Option.some.inj hyp
        subst hyp
        exact g_zret (pc := 34) S F dX5_allowsCoefficient_34 (Or.inl rfl)
      · refine g_iconst (pc := 29) (v := (1 : Int32)) S dX5_allowsCoefficient_29 (by decide) ?_
        refine g_goto (pc := 30) (tgt := 34) S dX5_allowsCoefficient_30 (by decide) ?_
        have hyp := Option.some.inj hyp
        subst hyp
        exact g_zret (pc := 34) S F dX5_allowsCoefficient_34 (Or.inr rfl)
  · refine g_iload_n (pc := 8) 2 S dX5_allowsCoefficient_8 rfl ?_
    refine g_if_ne (pc := 9) (tgt := 16) S dX5_allowsCoefficient_9 (by decide) hyp (fun hyp => ?_) (fun hyp => ?_)
    · refine g_iconst (pc := 12) (v := (1 : Int32)) S dX5_allowsCoefficient_12 (by decide) ?_
      refine g_goto (pc := 13) (tgt := 17) S dX5_allowsCoefficient_13 (by decide) ?_
      have hyp := Option.some.inj hyp
      subst hyp
      exact g_zret (pc := 17) S F dX5_allowsCoefficient_17 (Or.inr rfl)
    · refine g_iconst (pc := 16) (v := (0 : Int32)) S dX5_allowsCoefficient_16 (by decide) ?_
      have hyp := Option.some.inj hyp
      subst hyp
      exact g_zret (pc := 17) S F dX5_allowsCoefficient_17 (Or.inl rfl)
theorem m_X5_allowsCoefficient {l : Launch} {D : va_G} {cT : Nat → ClassId} {aD : Nat → Nat} {c0 : Nat} (k0 : kd c0 (10 + 5, 0)) (a1 : Int32) (a2 : Int32) (h : Hp) {o : Int32} (hyp : s_X5_allowsCoefficient c0 a1 a2 h = some o) : Ok l D cT aD yX5_allowsCoefficient cX5_allowsCoefficient 3 (some .boolean) 0 0 [.ref (aD c0), .int a1, .int a2] h (some (.int o)) h :=
  Ok.of (by decide +kernel) rfl (Nat.le_of_ble_eq_true rfl) (fun K e1 e2 e3 e4 S F => by subst e1; exact o_X5_allowsCoefficient S k0 a1 a2 h hyp F)
-- BoundProofs$Problem allowsForm (III)Z
noncomputable def s_X5_allowsForm (c0 : Nat) (a1 : Int32) (a2 : Int32) (a3 : Int32) (h : Hp) : Option (Int32) :=
  (s_X5_allowsCoefficient c0 (0 : Int32) a1 h).bind fun y1 =>
  if y1 = 0 then (some (0 : Int32))
  else ((s_X5_allowsCoefficient c0 (1 : Int32) a2 h).bind fun y2 =>
  if y2 = 0 then (some (0 : Int32))
  else ((s_X5_allowsCoefficient c0 (2 : Int32) a3 h).bind fun y3 =>
  if y3 = 0 then (some (0 : Int32))
  else (if a1 = 0 then (if a2 = 0 then (if a3 = 0 then (some (0 : Int32))
  else (some (1 : Int32)))
  else (some (1 : Int32)))
  else (some (1 : Int32)))))
set_option maxRecDepth 100000 in
set_option maxHeartbeats 4000000 in
theorem o_X5_allowsForm {K : gK} (S : Cx K RX5 cX5_allowsForm 4 1 26) {c0 : Nat} (k0 : kd c0 (10 + 5, 0)) (a1 : Int32) (a2 : Int32) (a3 : Int32) (h : Hp) {o : Int32} (hyp : s_X5_allowsForm c0 a1 a2 a3 h = some o) (F : Rt K (some .boolean) (some (.int o)) h) : Go K 0 [(0, .ref (ad K c0)), (1, .int a1), (2, .int a2), (3, .int a3)] [] h := by
  unfold s_X5_allowsForm at hyp
  refine g_aload_n (pc := 0) 0 S dX5_allowsForm_0 rfl ?_
  refine g_iconst (pc := 1) (v := (0 : Int32)) S dX5_allowsForm_1 (by decide) ?_
  refine g_iload_n (pc := 2) 1 S dX5_allowsForm_2 rfl ?_
  refine g_bind hyp (fun y1 hy1 hyp => ?_)
  refine g_callV (pc := 3) (As := [.int (0 : Int32), .int a1]) (rest := []) S dX5_allowsForm_3 k0 rfl tw_485 tw_486 tw_7 mw_X5_allowsCoefficient (m_X5_allowsCoefficient k0 (0 : Int32) a1 h hy1) rfl rfl (Nat.le_of_ble_eq_true rfl) (Nat.le_of_ble_eq_true rfl) (Nat.le_of_ble_eq_true rfl) ?_
  refine g_if_eq (pc := 6) (tgt := 27) S dX5_allowsForm_6 (by decide) hyp (fun hyp => ?_) (fun hyp => ?_)
  · refine g_iconst (pc := 27) (v := (0 : Int32)) S dX5_allowsForm_27 (by decide) ?_
    have hyp := Option.some.inj hyp
    subst hyp
    exact g_zret (pc := 28) S F dX5_allowsForm_28 (Or.inl rfl)
  · refine g_aload_n (pc := 9) 0 S dX5_allowsForm_9 rfl ?_
    refine g_iconst (pc := 10) (v := (1 : Int32)) S dX5_allowsForm_10 (by decide) ?_
    refine g_iload_n (pc := 11) 2 S dX5_allowsForm_11 rfl ?_
    refine g_bind hyp (fun y2 hy2 hyp => ?_)
    refine g_callV (pc := 12) (As := [.int (1 : Int32), .int a2]) (rest := []) S dX5_allowsForm_12 k0 rfl tw_485 tw_486 tw_7 mw_X5_allowsCoefficient (m_X5_allowsCoefficient k0 (1 : Int32) a2 h hy2) rfl rfl (Nat.le_of_ble_eq_true rfl) (Nat.le_of_ble_eq_true rfl) (Nat.le_of_ble_eq_true rfl) ?_
    refine g_if_eq (pc := 15) (tgt := 27) S dX5_allowsForm_15 (by decide) hyp (fun hyp => ?_) (fun hyp => ?_)
    · refine g_iconst (pc := 27) (v := (0 : Int32)) S dX5_allowsForm_27 (by decide) ?_
      have hyp := Option.some.inj hyp
      subst hyp
      exact g_zret (pc := 28) S F dX5_allowsForm_28 (Or.inl rfl)
    · refine g_aload_n (pc := 18) 0 S dX5_allowsForm_18 rfl ?_
      refine g_iconst (pc := 19) (v := (2 : Int32)) S dX5_allowsForm_19 (by decide) ?_
      refine g_iload_n (pc := 20) 3 S dX5_allowsForm_20 rfl ?_
      refine g_bind hyp (fun y3 hy3 hyp => ?_)
      refine g_callV (pc := 21) (As := [.int (2 : Int32), .int a3]) (rest := []) S dX5_allowsForm_21 k0 rfl tw_485 tw_486 tw_7 mw_X5_allowsCoefficient (m_X5_allowsCoefficient k0 (2 : Int32) a3 h hy3) rfl rfl (Nat.le_of_ble_eq_true rfl) (Nat.le_of_ble_eq_true rfl) (Nat.le_of_ble_eq_true rfl) ?_
      refine g_if_ne (pc := 24) (tgt := 29) S dX5_allowsForm_24 (by decide) hyp (fun hyp => ?_) (fun hyp => ?_)
      · refine g_iconst (pc := 27) (v := (0 : Int32)) S dX5_allowsForm_27 (by decide) ?_
        have hyp := Option.some.inj hyp
        subst hyp
        exact g_zret (pc := 28) S F dX5_allowsForm_28 (Or.inl rfl)
      · refine g_iload_n (pc := 29) 1 S dX5_allowsForm_29 rfl ?_
        refine g_if_ne (pc := 30) (tgt := 41) S dX5_allowsForm_30 (by decide) hyp (fun hyp => ?_) (fun hyp => ?_)
        · refine g_iload_n (pc := 33) 2 S dX5_allowsForm_33 rfl ?_
          refine g_if_ne (pc := 34) (tgt := 41) S dX5_allowsForm_34 (by decide) hyp (fun hyp => ?_) (fun hyp => ?_)
          · refine g_iload_n (pc := 37) 3 S dX5_allowsForm_37 rfl ?_
            refine g_if_eq (pc := 38) (tgt := 45) S dX5_allowsForm_38 (by decide) hyp (fun hyp => ?_) (fun hyp => ?_)
            · refine g_iconst (pc := 45) (v := (0 : Int32)) S dX5_allowsForm_45 (by decide) ?_
              have hyp := Option.some.inj hyp
              subst hyp
              exact g_zret (pc := 46) S F dX5_allowsForm_46 (Or.inl rfl)
            · refine g_iconst (pc := 41) (v := (1 : Int32)) S dX5_allowsForm_41 (by decide) ?_
              refine g_goto (pc := 42) (tgt := 46) S dX5_allowsForm_42 (by decide) ?_
              have hyp := Option.some.inj hyp
              subst hyp
              exact g_zret (pc := 46) S F dX5_allowsForm_46 (Or.inr rfl)
          · refine g_iconst (pc := 41) (v := (1 : Int32)) S dX5_allowsForm_41 (by decide) ?_
            refine g_goto (pc := 42) (tgt := 46) S dX5_allowsForm_42 (by decide) ?_
            have hyp := Option.some.inj hyp
            subst hyp
            exact g_zret (pc := 46) S F dX5_allowsForm_46 (Or.inr rfl)
        · refine g_iconst (pc := 41) (v := (1 : Int32)) S dX5_allowsForm_41 (by decide) ?_
          refine g_goto (pc := 42) (tgt := 46) S dX5_allowsForm_42 (by decide) ?_
          have hyp := Option.some.inj hyp
          subst hyp
          exact g_zret (pc := 46) S F dX5_allowsForm_46 (Or.inr rfl)
theorem m_X5_allowsForm {l : Launch} {D : va_G} {cT : Nat → ClassId} {aD : Nat → Nat} {c0 : Nat} (k0 : kd c0 (10 + 5, 0)) (a1 : Int32) (a2 : Int32) (a3 : Int32) (h : Hp) {o : Int32} (hyp : s_X5_allowsForm c0 a1 a2 a3 h = some o) : Ok l D cT aD yX5_allowsForm cX5_allowsForm 4 (some .boolean) 1 26 [.ref (aD c0), .int a1, .int a2, .int a3] h (some (.int o)) h :=
  Ok.of (by decide +kernel) rfl (Nat.le_of_ble_eq_true rfl) (fun K e1 e2 e3 e4 S F => by subst e1; exact o_X5_allowsForm S k0 a1 a2 a3 h hyp F)
