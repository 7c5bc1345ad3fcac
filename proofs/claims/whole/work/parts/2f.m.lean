-- BoundProofs$Circuit factorOf (I)I
noncomputable def s_X0_factorOf_l2 (c0 : Nat) (a1 : Int32) (a2 : Int32) (h : Hp) : Option ((Int32) ⊕ ((Unit) ⊕ (Int32))) :=
  if a2 < (h.1 c0 3) then (ldI h (c0 + 6) 4 a2 fun x1 =>
  if x1 = a1 then (ldI h (c0 + 7) 4 a2 fun x2 =>
  some (.inr (.inr x2)))
  else (lt (a2 + (1 : Int32)) fun v2_3 =>
  some (.inl v2_3)))
  else (some (.inr (.inl ())))
noncomputable def s_X0_factorOf (c0 : Nat) (a1 : Int32) (h : Hp) : Option (Int32) :=
  (iter (fun s : Int32 => s_X0_factorOf_l2 c0 a1 s h) FUEL (0 : Int32)).bind (Sum.elim (fun t5 => some (0 : Int32))
  (fun t6 => some t6))
set_option maxRecDepth 100000 in
set_option maxHeartbeats 4000000 in
theorem o_X0_factorOf_l2 {K : gK} (S : Cx K RX0 cX0_factorOf 3 0 0) {c0 : Nat} (k0 : kd c0 (10 + 0, 0)) (a1 : Int32) (a2 : Int32) (h : Hp) {o : (Int32) ⊕ ((Unit) ⊕ (Int32))} (hyp : s_X0_factorOf_l2 c0 a1 a2 h = some o) (hin : ∀ s', o = .inl s' → Go K 2 [(0, .ref (ad K c0)), (1, .int a1), (2, .int s')] [] h) (hex0 : ∀ s', o = .inr (.inl s') → Go K 33 [] [] h) (hret : ∀ x', o = .inr (.inr x') → Rt K (some .int) (some (.int x')) h) : Go K 2 [(0, .ref (ad K c0)), (1, .int a1), (2, .int a2)] [] h := by
  unfold s_X0_factorOf_l2 at hyp
  refine g_iload_n (pc := 2) 2 S dX0_factorOf_2 rfl ?_
  refine g_aload_n (pc := 3) 0 S dX0_factorOf_3 rfl ?_
  refine g_getI (pc := 4) S dX0_factorOf_4 fl_X0_25 k0 ?_
  refine g_icmp_ge (pc := 7) (tgt := 33) S dX0_factorOf_7 (by decide) hyp (fun hyp => ?_) (fun hyp => ?_)
  · refine g_aload_n (pc := 10) 0 S dX0_factorOf_10 rfl ?_
    refine g_getR (pc := 11) S dX0_factorOf_11 fl_X0_18 k0 ?_
    refine g_iload_n (pc := 14) 2 S dX0_factorOf_14 rfl ?_
    refine g_iald (pc := 15) S dX0_factorOf_15 (kf_0_6 k0) hyp (fun x1 hyp => ?_)
    refine g_iload_n (pc := 16) 1 S dX0_factorOf_16 rfl ?_
    refine g_icmp_ne (pc := 17) (tgt := 27) S dX0_factorOf_17 (by decide) hyp (fun hyp => ?_) (fun hyp => ?_)
    · refine g_aload_n (pc := 20) 0 S dX0_factorOf_20 rfl ?_
      refine g_getR (pc := 21) S dX0_factorOf_21 fl_X0_22 k0 ?_
      refine g_iload_n (pc := 24) 2 S dX0_factorOf_24 rfl ?_
      refine g_iald (pc := 25) S dX0_factorOf_25 (kf_0_7 k0) hyp (fun x2 hyp => ?_)
      have hyp := Option.some.inj hyp
      subst hyp
      exact g_iret (pc := 26) S (hret x2 rfl) dX0_factorOf_26
    · refine g_iinc (pc := 27) (v := (a2 + (1 : Int32))) (lv' := [(2, .int (a2 + (1 : Int32))), (0, .ref (ad K c0)), (1, .int a1)]) 2 S dX0_factorOf_27 rfl (by rfl) (by decide) rfl ?_
      refine g_lti (C := fun v2_3 => Go K (27 + 3) [(2, .int v2_3), (0, .ref (ad K c0)), (1, .int a1)] [] h) hyp (fun v2_3 hyp => ?_)
      refine g_goto (pc := 30) (tgt := 2) S dX0_factorOf_30 (by decide) ?_
      have hyp := Option.some.inj hyp
      subst hyp
      exact g_sub [1, 2, 0] rfl (hin v2_3 rfl)
  · have hyp := Option.some.inj hyp
    subst hyp
    exact g_sub [] rfl (hex0 () rfl)
set_option maxRecDepth 100000 in
set_option maxHeartbeats 4000000 in
theorem o_X0_factorOf {K : gK} (S : Cx K RX0 cX0_factorOf 3 0 0) {c0 : Nat} (k0 : kd c0 (10 + 0, 0)) (a1 : Int32) (h : Hp) {o : Int32} (hyp : s_X0_factorOf c0 a1 h = some o) (F : Rt K (some .int) (some (.int o)) h) : Go K 0 [(0, .ref (ad K c0)), (1, .int a1)] [] h := by
  unfold s_X0_factorOf at hyp
  refine g_iconst (pc := 0) (v := (0 : Int32)) S dX0_factorOf_0 (by decide) ?_
  refine g_istore_n (pc := 1) (lv' := [(2, .int (0 : Int32)), (0, .ref (ad K c0)), (1, .int a1)]) S dX0_factorOf_1 rfl (by decide) rfl ?_
  refine g_bind hyp (fun e4 he4 hyp => ?_)
  refine g_sub [1, 2, 0] rfl (g_loop (f := fun s : Int32 => s_X0_factorOf_l2 c0 a1 s h) (ρ := (Unit) ⊕ (Int32)) (Hd := fun s : Int32 => Go K 2 [(0, .ref (ad K c0)), (1, .int a1), (2, .int s)] [] h) (Ex := fun e4 => (∀ t, e4 = .inl t → Go K 33 [] [] h) ∧ (∀ t, e4 = .inr t → Rt K (some .int) (some (.int t)) h)) (fun s o h1 h2 h3 => o_X0_factorOf_l2 S k0 a1 s h h1 h2 (fun t q => (h3 _ q).1 t rfl) (fun t q => (h3 _ q).2 t rfl)) FUEL _ e4 he4 ?_)
  refine ⟨?_, ?_⟩
  · intro t5 q
    subst q
    try dsimp only [Sum.elim] at hyp
    refine g_iconst (pc := 33) (v := (0 : Int32)) S dX0_factorOf_33 (by decide) ?_
    have hyp := Option.some.inj hyp
    subst hyp
    exact g_iret (pc := 34) S F dX0_factorOf_34
  · intro t6 q
    subst q
    try dsimp only [Sum.elim] at hyp
    have hyp := Option.some.inj hyp
    subst hyp
    exact F
theorem m_X0_factorOf {l : Launch} {D : va_G} {cT : Nat → ClassId} {aD : Nat → Nat} {c0 : Nat} (k0 : kd c0 (10 + 0, 0)) (a1 : Int32) (h : Hp) {o : Int32} (hyp : s_X0_factorOf c0 a1 h = some o) : Ok l D cT aD yX0_factorOf cX0_factorOf 3 (some .int) 0 0 [.ref (aD c0), .int a1] h (some (.int o)) h :=
  Ok.of (by decide +kernel) rfl (Nat.le_of_ble_eq_true rfl) (fun K e1 e2 e3 e4 S F => by subst e1; exact o_X0_factorOf S k0 a1 h hyp F)
-- BoundProofs$Circuit reducedFactor (I)J
noncomputable def s_X0_reducedFactor_l5 (c0 : Nat) (a1 : Int32) (a2 : Int64) (a4 : Int32) (h : Hp) : Option ((Int64 × Int32) ⊕ (Int64)) :=
  if a4 < (h.1 c0 3) then (ldI h (c0 + 7) 4 a4 fun x1 =>
  (s_X9_commonDivisor  a2 (x1).toInt64 h).bind fun y2 =>
  lt (a4 + (1 : Int32)) fun v4_3 =>
  some (.inl (y2, v4_3)))
  else (some (.inr (a2)))
noncomputable def s_X0_reducedFactor (c0 : Nat) (a1 : Int32) (h : Hp) : Option (Int64) :=
  (iter (fun s : Int64 × Int32 => s_X0_reducedFactor_l5 c0 a1 s.1 s.2 h) FUEL ((0 : Int64), (0 : Int32))).bind fun e4 =>
  if (0 : Int64) < e4 then ((s_X0_factorOf c0 a1 h).bind fun y5 =>
  nzJ e4 <|
  some ((y5).toInt64 / e4))
  else (some (0 : Int64))
set_option maxRecDepth 100000 in
set_option maxHeartbeats 4000000 in
theorem o_X0_reducedFactor_l5 {K : gK} (S : Cx K RX0 cX0_reducedFactor 5 2 59) {c0 : Nat} (k0 : kd c0 (10 + 0, 0)) (a1 : Int32) (a2 : Int64) (a4 : Int32) (h : Hp) {o : (Int64 × Int32) ⊕ (Int64)} (hyp : s_X0_reducedFactor_l5 c0 a1 a2 a4 h = some o) (hin : ∀ s', o = .inl s' → Go K 5 [(0, .ref (ad K c0)), (1, .int a1), (2, .long s'.1), (4, .int s'.2)] [] h) (hex0 : ∀ s', o = .inr (s') → Go K 33 [(0, .ref (ad K c0)), (1, .int a1), (2, .long s')] [] h) : Go K 5 [(0, .ref (ad K c0)), (1, .int a1), (2, .long a2), (4, .int a4)] [] h := by
  unfold s_X0_reducedFactor_l5 at hyp
  refine g_iload (pc := 5) 3 S dX0_reducedFactor_5 rfl ?_
  refine g_aload_n (pc := 7) 0 S dX0_reducedFactor_7 rfl ?_
  refine g_getI (pc := 8) S dX0_reducedFactor_8 fl_X0_25 k0 ?_
  refine g_icmp_ge (pc := 11) (tgt := 33) S dX0_reducedFactor_11 (by decide) hyp (fun hyp => ?_) (fun hyp => ?_)
  · refine g_lload_n (pc := 14) 2 S dX0_reducedFactor_14 rfl ?_
    refine g_aload_n (pc := 15) 0 S dX0_reducedFactor_15 rfl ?_
    refine g_getR (pc := 16) S dX0_reducedFactor_16 fl_X0_22 k0 ?_
    refine g_iload (pc := 19) 3 S dX0_reducedFactor_19 rfl ?_
    refine g_iald (pc := 21) S dX0_reducedFactor_21 (kf_0_7 k0) hyp (fun x1 hyp => ?_)
    refine g_i2l (pc := 22) S dX0_reducedFactor_22 ?_
    refine g_bind hyp (fun y2 hy2 hyp => ?_)
    refine g_callSN (pc := 23) (As := [.long a2, .long (x1).toInt64]) (rest := []) (host := "BoundProofs") S dX0_reducedFactor_23 (by decide +kernel) tw_650 mw_X9_commonDivisor (m_X9_commonDivisor  a2 (x1).toInt64 h hy2) rfl rfl (Nat.le_of_ble_eq_true rfl) (Nat.le_of_ble_eq_true rfl) (Nat.le_of_ble_eq_true rfl) ?_
    refine g_lstore_n (pc := 26) (lv' := [(2, .long y2), (0, .ref (ad K c0)), (1, .int a1), (4, .int a4)]) S dX0_reducedFactor_26 rfl (by decide) rfl ?_
    refine g_iinc (pc := 27) (v := (a4 + (1 : Int32))) (lv' := [(4, .int (a4 + (1 : Int32))), (2, .long y2), (0, .ref (ad K c0)), (1, .int a1)]) 3 S dX0_reducedFactor_27 rfl (by rfl) (by decide) rfl ?_
    refine g_lti (C := fun v4_3 => Go K (27 + 3) [(4, .int v4_3), (2, .long y2), (0, .ref (ad K c0)), (1, .int a1)] [] h) hyp (fun v4_3 hyp => ?_)
    refine g_goto (pc := 30) (tgt := 5) S dX0_reducedFactor_30 (by decide) ?_
    have hyp := Option.some.inj hyp
    subst hyp
    exact g_sub [2, 3, 1, 0] rfl (hin (y2, v4_3) rfl)
  · have hyp := Option.some.inj hyp
    subst hyp
    exact g_sub [0, 1, 2] rfl (hex0 a2 rfl)
set_option maxRecDepth 100000 in
set_option maxHeartbeats 4000000 in
theorem o_X0_reducedFactor {K : gK} (S : Cx K RX0 cX0_reducedFactor 5 2 59) {c0 : Nat} (k0 : kd c0 (10 + 0, 0)) (a1 : Int32) (h : Hp) {o : Int64} (hyp : s_X0_reducedFactor c0 a1 h = some o) (F : Rt K (some .long) (some (.long o)) h) : Go K 0 [(0, .ref (ad K c0)), (1, .int a1)] [] h := by
  unfold s_X0_reducedFactor at hyp
  refine g_lconst (pc := 0) (v := (0 : Int64)) S dX0_reducedFactor_0 (by decide) ?_
  refine g_lstore_n (pc := 1) (lv' := [(2, .long (0 : Int64)), (0, .ref (ad K c0)), (1, .int a1)]) S dX0_reducedFactor_1 rfl (by decide) rfl ?_
  refine g_iconst (pc := 2) (v := (0 : Int32)) S dX0_reducedFactor_2 (by decide) ?_
  refine g_istore (pc := 3) (lv' := [(4, .int (0 : Int32)), (2, .long (0 : Int64)), (0, .ref (ad K c0)), (1, .int a1)]) S dX0_reducedFactor_3 (by decide) rfl ?_
  refine g_bind hyp (fun e4 he4 hyp => ?_)
  refine g_sub [2, 3, 1, 0] rfl (g_loop (f := fun s : Int64 × Int32 => s_X0_reducedFactor_l5 c0 a1 s.1 s.2 h) (ρ := Int64) (Hd := fun s : Int64 × Int32 => Go K 5 [(0, .ref (ad K c0)), (1, .int a1), (2, .long s.1), (4, .int s.2)] [] h) (Ex := fun e4 => Go K 33 [(0, .ref (ad K c0)), (1, .int a1), (2, .long e4)] [] h) (fun s o h1 h2 h3 => o_X0_reducedFactor_l5 S k0 a1 s.1 s.2 h h1 h2 h3) FUEL _ e4 he4 ?_)
  refine g_lload_n (pc := 33) 2 S dX0_reducedFactor_33 rfl ?_
  refine g_lconst (pc := 34) (v := (0 : Int64)) S dX0_reducedFactor_34 (by decide) ?_
  refine g_lcmp_le (pc := 35) (tgt := 50) S dX0_reducedFactor_35 dX0_reducedFactor_36 (by decide) hyp (fun hyp => ?_) (fun hyp => ?_)
  · refine g_aload_n (pc := 39) 0 S dX0_reducedFactor_39 rfl ?_
    refine g_iload_n (pc := 40) 1 S dX0_reducedFactor_40 rfl ?_
    refine g_bind hyp (fun y5 hy5 hyp => ?_)
    refine g_callV (pc := 41) (As := [.int a1]) (rest := []) S dX0_reducedFactor_41 k0 rfl tw_655 tw_656 tw_657 mw_X0_factorOf (m_X0_factorOf k0 a1 h hy5) rfl rfl (Nat.le_of_ble_eq_true rfl) (Nat.le_of_ble_eq_true rfl) (Nat.le_of_ble_eq_true rfl) ?_
    refine g_i2l (pc := 44) S dX0_reducedFactor_44 ?_
    refine g_lload_n (pc := 45) 2 S dX0_reducedFactor_45 rfl ?_
    refine g_nzJ hyp (fun hz hyp => ?_)
    refine g_ldiv (pc := 46) S dX0_reducedFactor_46 hz ?_
    refine g_goto (pc := 47) (tgt := 51) S dX0_reducedFactor_47 (by decide) ?_
    have hyp := Option.some.inj hyp
    subst hyp
    exact g_lret (pc := 51) S F dX0_reducedFactor_51
  · refine g_lconst (pc := 50) (v := (0 : Int64)) S dX0_reducedFactor_50 (by decide) ?_
    have hyp := Option.some.inj hyp
    subst hyp
    exact g_lret (pc := 51) S F dX0_reducedFactor_51
theorem m_X0_reducedFactor {l : Launch} {D : va_G} {cT : Nat → ClassId} {aD : Nat → Nat} {c0 : Nat} (k0 : kd c0 (10 + 0, 0)) (a1 : Int32) (h : Hp) {o : Int64} (hyp : s_X0_reducedFactor c0 a1 h = some o) : Ok l D cT aD yX0_reducedFactor cX0_reducedFactor 5 (some .long) 2 59 [.ref (aD c0), .int a1] h (some (.long o)) h :=
  Ok.of (by decide +kernel) rfl (Nat.le_of_ble_eq_true rfl) (fun K e1 e2 e3 e4 S F => by subst e1; exact o_X0_reducedFactor S k0 a1 h hyp F)
-- BoundProofs proof (I)I
noncomputable def s_X9_proof_b52 (c0 : Nat) (a1 : Int32) (a2 : Int32) (t0 : Int64) (h : Hp) : Option (Int32 × Hp) :=
  lt (sJ h c0 14 t0) fun h5 =>
  some (((a2 >>> (a1 &&& 31)) &&& (1 : Int32)), h5)
noncomputable def s_X9_proof (c0 : Nat) (a1 : Int32) (h : Hp) : Option (Int32 × Hp) :=
  (s_X5_hasConstraint (c0 + 1) a1 h).bind fun y1 =>
  if y1 = 0 then (some ((-1 : Int32), h))
  else ((s_X9_satisfiable c0  h).bind fun y2 =>
  if y2 = 0 then ((s_X9_coreSet c0  h).bind fun y3 =>
  (s_X0_examine (c0 + 31) y3 h).bind fun y4 =>
  if y4.1 = 0 then (s_X9_proof_b52 c0 a1 y3 (0 : Int64) y4.2)
  else ((s_X0_reducedFactor (c0 + 31) a1 y4.2).bind fun y6 =>
  s_X9_proof_b52 c0 a1 y3 y6 y4.2))
  else (some ((-2 : Int32), h)))
set_option maxRecDepth 100000 in
set_option maxHeartbeats 4000000 in
theorem o_X9_proof_b52 {K : gK} (S : Cx K RX9 cX9_proof 3 3 87) {c0 : Nat} (k0 : kd c0 (10 + 9, 0)) (a1 : Int32) (a2 : Int32) (t0 : Int64) (h : Hp) {o : Int32 × Hp} (hyp : s_X9_proof_b52 c0 a1 a2 t0 h = some o) (F : Rt K (some .int) (some (.int o.1)) o.2) : Go K 52 [(1, .int a1), (2, .int a2)] [.long t0, .ref (ad K c0)] h := by
  unfold s_X9_proof_b52 at hyp
  refine g_putJ (pc := 52) S dX9_proof_52 fl_X9_88 k0 hyp (fun h5 hyp => ?_)
  refine g_iload_n (pc := 55) 1 S dX9_proof_55 rfl ?_
  refine g_iload_n (pc := 56) 0 S dX9_proof_56 rfl ?_
  refine g_ishr (pc := 57) S dX9_proof_57 ?_
  refine g_iconst (pc := 58) (v := (1 : Int32)) S dX9_proof_58 (by decide) ?_
  refine g_iand (pc := 59) S dX9_proof_59 ?_
  have hyp := Option.some.inj hyp
  subst hyp
  exact g_iret (pc := 60) S F dX9_proof_60
set_option maxRecDepth 100000 in
set_option maxHeartbeats 4000000 in
theorem o_X9_proof {K : gK} (S : Cx K RX9 cX9_proof 3 3 87) {c0 : Nat} (k0 : kd c0 (10 + 9, 0)) (a1 : Int32) (h : Hp) {o : Int32 × Hp} (hyp : s_X9_proof c0 a1 h = some o) (F : Rt K (some .int) (some (.int o.1)) o.2) : Go K 0 [(0, .ref (ad K c0)), (1, .int a1)] [] h := by
  unfold s_X9_proof at hyp
  refine g_aload_n (pc := 0) 0 S dX9_proof_0 rfl ?_
  refine g_getR (pc := 1) S dX9_proof_1 fl_X9_12 k0 ?_
  refine g_iload_n (pc := 4) 1 S dX9_proof_4 rfl ?_
  refine g_bind hyp (fun y1 hy1 hyp => ?_)
  refine g_callV (pc := 5) (As := [.int a1]) (rest := []) S dX9_proof_5 (kf_9_1 k0) rfl tw_600 tw_601 tw_602 mw_X5_hasConstraint (m_X5_hasConstraint (kf_9_1 k0) a1 h hy1) rfl rfl (Nat.le_of_ble_eq_true rfl) (Nat.le_of_ble_eq_true rfl) (Nat.le_of_ble_eq_true rfl) ?_
  refine g_if_ne (pc := 8) (tgt := 13) S dX9_proof_8 (by decide) hyp (fun hyp => ?_) (fun hyp => ?_)
  · refine g_iconst (pc := 11) (v := (-1 : Int32)) S dX9_proof_11 (by decide) ?_
    have hyp := Option.some.inj hyp
    subst hyp
    exact g_iret (pc := 12) S F dX9_proof_12
  · refine g_aload_n (pc := 13) 0 S dX9_proof_13 rfl ?_
    refine g_bind hyp (fun y2 hy2 hyp => ?_)
    refine g_callV (pc := 14) (As := []) (rest := []) S dX9_proof_14 k0 rfl tw_620 tw_621 tw_16 mw_X9_satisfiable (m_X9_satisfiable k0  h hy2) rfl rfl (Nat.le_of_ble_eq_true rfl) (Nat.le_of_ble_eq_true rfl) (Nat.le_of_ble_eq_true rfl) ?_
    refine g_if_eq (pc := 17) (tgt := 23) S dX9_proof_17 (by decide) hyp (fun hyp => ?_) (fun hyp => ?_)
    · refine g_aload_n (pc := 23) 0 S dX9_proof_23 rfl ?_
      refine g_bind hyp (fun y3 hy3 hyp => ?_)
      refine g_callV (pc := 24) (As := []) (rest := []) S dX9_proof_24 k0 rfl tw_638 tw_639 tw_18 mw_X9_coreSet (m_X9_coreSet k0  h hy3) rfl rfl (Nat.le_of_ble_eq_true rfl) (Nat.le_of_ble_eq_true rfl) (Nat.le_of_ble_eq_true rfl) ?_
      refine g_istore_n (pc := 27) (lv' := [(2, .int y3), (0, .ref (ad K c0)), (1, .int a1)]) S dX9_proof_27 rfl (by decide) rfl ?_
      refine g_aload_n (pc := 28) 1 S dX9_proof_28 rfl ?_
      refine g_aload_n (pc := 29) 1 S dX9_proof_29 rfl ?_
      refine g_getR (pc := 30) S dX9_proof_30 fl_X9_45 k0 ?_
      refine g_iload_n (pc := 33) 0 S dX9_proof_33 rfl ?_
      refine g_bind hyp (fun y4 hy4 hyp => ?_)
      refine g_callV (pc := 34) (As := [.int y3]) (rest := [.ref (ad K c0)]) S dX9_proof_34 (kf_9_31 k0) rfl tw_645 tw_540 tw_541 mw_X0_examine (m_X0_examine (kf_9_31 k0) y3 h hy4) rfl rfl (Nat.le_of_ble_eq_true rfl) (Nat.le_of_ble_eq_true rfl) (Nat.le_of_ble_eq_true rfl) ?_
      refine g_if_eq (pc := 37) (tgt := 51) S dX9_proof_37 (by decide) hyp (fun hyp => ?_) (fun hyp => ?_)
      · refine g_lconst (pc := 51) (v := (0 : Int64)) S dX9_proof_51 (by decide) ?_
        exact g_sub [2, 0] rfl (o_X9_proof_b52 S k0 a1 y3 (0 : Int64) y4.2 hyp F)
      · refine g_aload_n (pc := 40) 1 S dX9_proof_40 rfl ?_
        refine g_getR (pc := 41) S dX9_proof_41 fl_X9_45 k0 ?_
        refine g_iload_n (pc := 44) 2 S dX9_proof_44 rfl ?_
        refine g_bind hyp (fun y6 hy6 hyp => ?_)
        refine g_callV (pc := 45) (As := [.int a1]) (rest := [.ref (ad K c0)]) S dX9_proof_45 (kf_9_31 k0) rfl tw_646 tw_647 tw_648 mw_X0_reducedFactor (m_X0_reducedFactor (kf_9_31 k0) a1 y4.2 hy6) rfl rfl (Nat.le_of_ble_eq_true rfl) (Nat.le_of_ble_eq_true rfl) (Nat.le_of_ble_eq_true rfl) ?_
        refine g_goto (pc := 48) (tgt := 52) S dX9_proof_48 (by decide) ?_
        exact g_sub [2, 0] rfl (o_X9_proof_b52 S k0 a1 y3 y6 y4.2 hyp F)
    · refine g_bipush (pc := 20) (v := (-2 : Int32)) S dX9_proof_20 (by decide) ?_
      have hyp := Option.some.inj hyp
      subst hyp
      exact g_iret (pc := 22) S F dX9_proof_22
theorem m_X9_proof {l : Launch} {D : va_G} {cT : Nat → ClassId} {aD : Nat → Nat} {c0 : Nat} (k0 : kd c0 (10 + 9, 0)) (a1 : Int32) (h : Hp) {o : Int32 × Hp} (hyp : s_X9_proof c0 a1 h = some o) : Ok l D cT aD yX9_proof cX9_proof 3 (some .int) 3 87 [.ref (aD c0), .int a1] h (some (.int o.1)) o.2 :=
  Ok.of (by decide +kernel) rfl (Nat.le_of_ble_eq_true rfl) (fun K e1 e2 e3 e4 S F => by subst e1; exact o_X9_proof S k0 a1 h hyp F)
-- BoundProofs$Limit begin (J)V
noncomputable def s_X4_begin (c0 : Nat) (a1 : Int64) (h : Hp) : Option (Hp) :=
  lt (sI h c0 0 (1 : Int32)) fun h1 =>
  lt (sJ h1 c0 1 a1) fun h2 =>
  lt (sJ h2 c0 2 (1 : Int64)) fun h3 =>
  lt (sI h3 c0 3 (0 : Int32)) fun h4 =>
  some h4
set_option maxRecDepth 100000 in
set_option maxHeartbeats 4000000 in
theorem o_X4_begin {K : gK} (S : Cx K RX4 cX4_begin 3 0 0) {c0 : Nat} (k0 : kd c0 (10 + 4, 0)) (a1 : Int64) (h : Hp) {o : Hp} (hyp : s_X4_begin c0 a1 h = some o) (F : Rt K none none o) : Go K 0 [(0, .ref (ad K c0)), (1, .long a1)] [] h := by
  unfold s_X4_begin at hyp
  refine g_aload_n (pc := 0) 0 S dX4_begin_0 rfl ?_
  refine g_iconst (pc := 1) (v := (1 : Int32)) S dX4_begin_1 (by decide) ?_
  refine g_putZ (pc := 2) S dX4_begin_2 fl_X4_9 k0 (Or.inr rfl) hyp (fun h1 hyp => ?_)
  refine g_aload_n (pc := 5) 0 S dX4_begin_5 rfl ?_
  refine g_lload_n (pc := 6) 1 S dX4_begin_6 rfl ?_
  refine g_putJ (pc := 7) S dX4_begin_7 fl_X4_15 k0 hyp (fun h2 hyp => ?_)
  refine g_aload_n (pc := 10) 0 S dX4_begin_10 rfl ?_
  refine g_lconst (pc := 11) (v := (1 : Int64)) S dX4_begin_11 (by decide) ?_
  refine g_putJ (pc := 12) S dX4_begin_12 fl_X4_19 k0 hyp (fun h3 hyp => ?_)
  refine g_aload_n (pc := 15) 0 S dX4_begin_15 rfl ?_
  refine g_iconst (pc := 16) (v := (0 : Int32)) S dX4_begin_16 (by decide) ?_
  refine g_putZ (pc := 17) S dX4_begin_17 fl_X4_22 k0 (Or.inl rfl) hyp (fun h4 hyp => ?_)
  have hyp := Option.some.inj hyp
  subst hyp
  exact g_vret (pc := 20) S F dX4_begin_20
theorem m_X4_begin {l : Launch} {D : va_G} {cT : Nat → ClassId} {aD : Nat → Nat} {c0 : Nat} (k0 : kd c0 (10 + 4, 0)) (a1 : Int64) (h : Hp) {o : Hp} (hyp : s_X4_begin c0 a1 h = some o) : Ok l D cT aD yX4_begin cX4_begin 3 none 0 0 [.ref (aD c0), .long a1] h none o :=
  Ok.of (by decide +kernel) rfl (Nat.le_of_ble_eq_true rfl) (fun K e1 e2 e3 e4 S F => by subst e1; exact o_X4_begin S k0 a1 h hyp F)
-- java/lang/Math abs (I)I
noncomputable def s_J9_abs_0f7a4  (a0 : Int32) (h : Hp) : Option (Int32) :=
  if a0 < 0 then (some (-a0))
  else (some a0)
set_option maxRecDepth 100000 in
set_option maxHeartbeats 4000000 in
theorem o_J9_abs_0f7a4 {K : gK} (S : Cx K RJ9 cJ9_abs_0f7a4 1 0 0)  (a0 : Int32) (h : Hp) {o : Int32} (hyp : s_J9_abs_0f7a4  a0 h = some o) (F : Rt K (some .int) (some (.int o)) h) : Go K 0 [(0, .int a0)] [] h := by
  unfold s_J9_abs_0f7a4 at hyp
  refine g_iload_n (pc := 0) 0 S dJ9_abs_0f7a4_0 rfl ?_
  refine g_if_ge (pc := 1) (tgt := 9) S dJ9_abs_0f7a4_1 (by decide) hyp (fun hyp => ?_) (fun hyp => ?_)
  · refine g_iload_n (pc := 4) 0 S dJ9_abs_0f7a4_4 rfl ?_
    refine g_ineg (pc := 5) S dJ9_abs_0f7a4_5 ?_
    refine g_goto (pc := 6) (tgt := 10) S dJ9_abs_0f7a4_6 (by decide) ?_
    have hyp := Option.some.inj hyp
    subst hyp
    exact g_iret (pc := 10) S F dJ9_abs_0f7a4_10
  · refine g_iload_n (pc := 9) 0 S dJ9_abs_0f7a4_9 rfl ?_
    have hyp := Option.some.inj hyp
    subst hyp
    exact g_iret (pc := 10) S F dJ9_abs_0f7a4_10
theorem m_J9_abs_0f7a4 {l : Launch} {D : va_G} {cT : Nat → ClassId} {aD : Nat → Nat}  (a0 : Int32) (h : Hp) {o : Int32} (hyp : s_J9_abs_0f7a4  a0 h = some o) : Ok l D cT aD yJ9_abs_0f7a4 cJ9_abs_0f7a4 1 (some .int) 0 0 [.int a0] h (some (.int o)) h :=
  Ok.of (by decide +kernel) rfl (Nat.le_of_ble_eq_true rfl) (fun K e1 e2 e3 e4 S F => by subst e1; exact o_J9_abs_0f7a4 S  a0 h hyp F)
-- BoundProofs$Limit lowerTo (JJZ)V
noncomputable def s_X4_lowerTo_b68 (c0 : Nat) (a1 : Int64) (a3 : Int64) (t0 : Int32) (h : Hp) : Option (Hp) :=
  ckB t0 <|
  lt (sI h c0 3 t0) fun h2 =>
  lt (sI h2 c0 0 (1 : Int32)) fun h3 =>
  lt (sJ h3 c0 1 a1) fun h4 =>
  lt (sJ h4 c0 2 a3) fun h5 =>
  some h5
noncomputable def s_X4_lowerTo_b67 (c0 : Nat) (a1 : Int64) (a3 : Int64) (h : Hp) : Option (Hp) :=
  s_X4_lowerTo_b68 c0 a1 a3 (0 : Int32) h
noncomputable def s_X4_lowerTo_b63 (c0 : Nat) (a1 : Int64) (a3 : Int64) (h : Hp) : Option (Hp) :=
  s_X4_lowerTo_b68 c0 a1 a3 (1 : Int32) h
noncomputable def s_X4_lowerTo_b36 (c0 : Nat) (a1 : Int64) (a3 : Int64) (a5 : Int32) (a6 : Int64) (h : Hp) : Option (Hp) :=
  if a5 = 0 then (if (h.1 c0 0) = 0 then (s_X4_lowerTo_b67 c0 a1 a3 h)
  else (if a6 = (0 : Int64) then (if (h.1 c0 3) = 0 then (s_X4_lowerTo_b67 c0 a1 a3 h)
  else (s_X4_lowerTo_b63 c0 a1 a3 h))
  else (s_X4_lowerTo_b67 c0 a1 a3 h)))
  else (s_X4_lowerTo_b63 c0 a1 a3 h)
noncomputable def s_X4_lowerTo (c0 : Nat) (a1 : Int64) (a3 : Int64) (a5 : Int32) (h : Hp) : Option (Hp) :=
  lt ((a1 * (h.2 c0 2)) - ((h.2 c0 1) * a3)) fun v6_1 =>
  if (0 : Int64) < a3 then (if (h.1 c0 0) = 0 then (s_X4_lowerTo_b36 c0 a1 a3 a5 v6_1 h)
  else (if (0 : Int64) < v6_1 then (some h)
  else (s_X4_lowerTo_b36 c0 a1 a3 a5 v6_1 h)))
  else (some h)
set_option maxRecDepth 100000 in
set_option maxHeartbeats 4000000 in
theorem o_X4_lowerTo_b68 {K : gK} (S : Cx K RX4 cX4_lowerTo 8 0 0) {c0 : Nat} (k0 : kd c0 (10 + 4, 0)) (a1 : Int64) (a3 : Int64) (t0 : Int32) (h : Hp) {o : Hp} (hyp : s_X4_lowerTo_b68 c0 a1 a3 t0 h = some o) (F : Rt K none none o) : Go K 68 [(0, .ref (ad K c0)), (1, .long a1), (3, .long a3)] [.int t0, .ref (ad K c0)] h := by
  unfold s_X4_lowerTo_b68 at hyp
  refine g_ckB hyp (fun hz hyp => ?_)
  refine g_putZ (pc := 68) S dX4_lowerTo_68 fl_X4_22 k0 hz hyp (fun h2 hyp => ?_)
  refine g_aload_n (pc := 71) 0 S dX4_lowerTo_71 rfl ?_
  refine g_iconst (pc := 72) (v := (1 : Int32)) S dX4_lowerTo_72 (by decide) ?_
  refine g_putZ (pc := 73) S dX4_lowerTo_73 fl_X4_9 k0 (Or.inr rfl) hyp (fun h3 hyp => ?_)
  refine g_aload_n (pc := 76) 0 S dX4_lowerTo_76 rfl ?_
  refine g_lload_n (pc := 77) 1 S dX4_lowerTo_77 rfl ?_
  refine g_putJ (pc := 78) S dX4_lowerTo_78 fl_X4_15 k0 hyp (fun h4 hyp => ?_)
  refine g_aload_n (pc := 81) 0 S dX4_lowerTo_81 rfl ?_
  refine g_lload_n (pc := 82) 2 S dX4_lowerTo_82 rfl ?_
  refine g_putJ (pc := 83) S dX4_lowerTo_83 fl_X4_19 k0 hyp (fun h5 hyp => ?_)
  have hyp := Option.some.inj hyp
  subst hyp
  exact g_vret (pc := 86) S F dX4_lowerTo_86
set_option maxRecDepth 100000 in
set_option maxHeartbeats 4000000 in
theorem o_X4_lowerTo_b67 {K : gK} (S : Cx K RX4 cX4_lowerTo 8 0 0) {c0 : Nat} (k0 : kd c0 (10 + 4, 0)) (a1 : Int64) (a3 : Int64) (h : Hp) {o : Hp} (hyp : s_X4_lowerTo_b67 c0 a1 a3 h = some o) (F : Rt K none none o) : Go K 67 [(0, .ref (ad K c0)), (1, .long a1), (3, .long a3)] [.ref (ad K c0)] h := by
  unfold s_X4_lowerTo_b67 at hyp
  refine g_iconst (pc := 67) (v := (0 : Int32)) S dX4_lowerTo_67 (by decide) ?_
  exact g_sub [0, 1, 2] rfl (o_X4_lowerTo_b68 S k0 a1 a3 (0 : Int32) h hyp F)
set_option maxRecDepth 100000 in
set_option maxHeartbeats 4000000 in
theorem o_X4_lowerTo_b63 {K : gK} (S : Cx K RX4 cX4_lowerTo 8 0 0) {c0 : Nat} (k0 : kd c0 (10 + 4, 0)) (a1 : Int64) (a3 : Int64) (h : Hp) {o : Hp} (hyp : s_X4_lowerTo_b63 c0 a1 a3 h = some o) (F : Rt K none none o) : Go K 63 [(0, .ref (ad K c0)), (1, .long a1), (3, .long a3)] [.ref (ad K c0)] h := by
  unfold s_X4_lowerTo_b63 at hyp
  refine g_iconst (pc := 63) (v := (1 : Int32)) S dX4_lowerTo_63 (by decide) ?_
  refine g_goto (pc := 64) (tgt := 68) S dX4_lowerTo_64 (by decide) ?_
  exact g_sub [0, 1, 2] rfl (o_X4_lowerTo_b68 S k0 a1 a3 (1 : Int32) h hyp F)
set_option maxRecDepth 100000 in
set_option maxHeartbeats 4000000 in
theorem o_X4_lowerTo_b36 {K : gK} (S : Cx K RX4 cX4_lowerTo 8 0 0) {c0 : Nat} (k0 : kd c0 (10 + 4, 0)) (a1 : Int64) (a3 : Int64) (a5 : Int32) (a6 : Int64) (h : Hp) {o : Hp} (hyp : s_X4_lowerTo_b36 c0 a1 a3 a5 a6 h = some o) (F : Rt K none none o) : Go K 36 [(0, .ref (ad K c0)), (1, .long a1), (3, .long a3), (5, .int a5), (6, .long a6)] [] h := by
  unfold s_X4_lowerTo_b36 at hyp
  refine g_aload_n (pc := 36) 0 S dX4_lowerTo_36 rfl ?_
  refine g_iload (pc := 37) 3 S dX4_lowerTo_37 rfl ?_
  refine g_if_ne (pc := 39) (tgt := 63) S dX4_lowerTo_39 (by decide) hyp (fun hyp => ?_) (fun hyp => ?_)
  · refine g_aload_n (pc := 42) 0 S dX4_lowerTo_42 rfl ?_
    refine g_getI (pc := 43) S dX4_lowerTo_43 fl_X4_9 k0 ?_
    refine g_if_eq (pc := 46) (tgt := 67) S dX4_lowerTo_46 (by decide) hyp (fun hyp => ?_) (fun hyp => ?_)
    · exact g_sub [0, 1, 2] rfl (o_X4_lowerTo_b67 S k0 a1 a3 h hyp F)
    · refine g_lload (pc := 49) 4 S dX4_lowerTo_49 rfl ?_
      refine g_lconst (pc := 51) (v := (0 : Int64)) S dX4_lowerTo_51 (by decide) ?_
      refine g_lcmp_ne (pc := 52) (tgt := 67) S dX4_lowerTo_52 dX4_lowerTo_53 (by decide) hyp (fun hyp => ?_) (fun hyp => ?_)
      · refine g_aload_n (pc := 56) 0 S dX4_lowerTo_56 rfl ?_
        refine g_getI (pc := 57) S dX4_lowerTo_57 fl_X4_22 k0 ?_
        refine g_if_eq (pc := 60) (tgt := 67) S dX4_lowerTo_60 (by decide) hyp (fun hyp => ?_) (fun hyp => ?_)
        · exact g_sub [0, 1, 2] rfl (o_X4_lowerTo_b67 S k0 a1 a3 h hyp F)
        · exact g_sub [0, 1, 2] rfl (o_X4_lowerTo_b63 S k0 a1 a3 h hyp F)
      · exact g_sub [0, 1, 2] rfl (o_X4_lowerTo_b67 S k0 a1 a3 h hyp F)
  · exact g_sub [0, 1, 2] rfl (o_X4_lowerTo_b63 S k0 a1 a3 h hyp F)
set_option maxRecDepth 100000 in
set_option maxHeartbeats 4000000 in
theorem o_X4_lowerTo {K : gK} (S : Cx K RX4 cX4_lowerTo 8 0 0) {c0 : Nat} (k0 : kd c0 (10 + 4, 0)) (a1 : Int64) (a3 : Int64) (a5 : Int32) (h : Hp) {o : Hp} (hyp : s_X4_lowerTo c0 a1 a3 a5 h = some o) (F : Rt K none none o) : Go K 0 [(0, .ref (ad K c0)), (1, .long a1), (3, .long a3), (5, .int a5)] [] h := by
  unfold s_X4_lowerTo at hyp
  refine g_lload_n (pc := 0) 1 S dX4_lowerTo_0 rfl ?_
  refine g_aload_n (pc := 1) 0 S dX4_lowerTo_1 rfl ?_
  refine g_getJ (pc := 2) S dX4_lowerTo_2 fl_X4_19 k0 ?_
  refine g_lmul (pc := 5) S dX4_lowerTo_5 ?_
  refine g_aload_n (pc := 6) 0 S dX4_lowerTo_6 rfl ?_
  refine g_getJ (pc := 7) S dX4_lowerTo_7 fl_X4_15 k0 ?_
  refine g_lload_n (pc := 10) 2 S dX4_lowerTo_10 rfl ?_
  refine g_lmul (pc := 11) S dX4_lowerTo_11 ?_
  refine g_lsub (pc := 12) S dX4_lowerTo_12 ?_
  refine g_lti (C := fun v6_1 => Go K 13 [(0, .ref (ad K c0)), (1, .long a1), (3, .long a3), (5, .int a5)] [.long v6_1] h) hyp (fun v6_1 hyp => ?_)
  refine g_lstore (pc := 13) (lv' := [(6, .long v6_1), (0, .ref (ad K c0)), (1, .long a1), (3, .long a3), (5, .int a5)]) S dX4_lowerTo_13 (by decide) rfl ?_
  refine g_lload_n (pc := 15) 3 S dX4_lowerTo_15 rfl ?_
  refine g_lconst (pc := 16) (v := (0 : Int64)) S dX4_lowerTo_16 (by decide) ?_
  refine g_lcmp_le (pc := 17) (tgt := 35) S dX4_lowerTo_17 dX4_lowerTo_18 (by decide) hyp (fun hyp => ?_) (fun hyp => ?_)
  · refine g_aload_n (pc := 21) 1 S dX4_lowerTo_21 rfl ?_
    refine g_getI (pc := 22) S dX4_lowerTo_22 fl_X4_9 k0 ?_
    refine g_if_eq (pc := 25) (tgt := 36) S dX4_lowerTo_25 (by decide) hyp (fun hyp => ?_) (fun hyp => ?_)
    · exact g_sub [1, 2, 3, 4, 0] rfl (o_X4_lowerTo_b36 S k0 a1 a3 a5 v6_1 h hyp F)
    · refine g_lload (pc := 28) 0 S dX4_lowerTo_28 rfl ?_
      refine g_lconst (pc := 30) (v := (0 : Int64)) S dX4_lowerTo_30 (by decide) ?_
      refine g_lcmp_le (pc := 31) (tgt := 36) S dX4_lowerTo_31 dX4_lowerTo_32 (by decide) hyp (fun hyp => ?_) (fun hyp => ?_)
      · have hyp := Option.some.inj hyp
        subst hyp
        exact g_vret (pc := 35) S F dX4_lowerTo_35
      · exact g_sub [1, 2, 3, 4, 0] rfl (o_X4_lowerTo_b36 S k0 a1 a3 a5 v6_1 h hyp F)
  · have hyp := Option.some.inj hyp
    subst hyp
    exact g_vret (pc := 35) S F dX4_lowerTo_35
theorem m_X4_lowerTo {l : Launch} {D : va_G} {cT : Nat → ClassId} {aD : Nat → Nat} {c0 : Nat} (k0 : kd c0 (10 + 4, 0)) (a1 : Int64) (a3 : Int64) (a5 : Int32) (h : Hp) {o : Hp} (hyp : s_X4_lowerTo c0 a1 a3 a5 h = some o) : Ok l D cT aD yX4_lowerTo cX4_lowerTo 8 none 0 0 [.ref (aD c0), .long a1, .long a3, .int a5] h none o :=
  Ok.of (by decide +kernel) rfl (Nat.le_of_ble_eq_true rfl) (fun K e1 e2 e3 e4 S F => by subst e1; exact o_X4_lowerTo S k0 a1 a3 a5 h hyp F)
-- BoundProofs find (JJ)V
noncomputable def s_X9_find_b42 (c0 : Nat) (t0 : Int64) (h : Hp) : Option (Hp) :=
  lt (sJ h c0 13 t0) fun h3 =>
  some h3
noncomputable def s_X9_find_b23 (c0 : Nat) (a3 : Int64) (a5 : Int64) (t0 : Int64) (h : Hp) : Option (Hp) :=
  lt (sJ h c0 12 t0) fun h2 =>
  if (1 : Int64) < a5 then (nzJ a5 <|
  s_X9_find_b42 c0 (a3 / a5) h2)
  else (s_X9_find_b42 c0 a3 h2)
noncomputable def s_X9_find (c0 : Nat) (a1 : Int64) (a3 : Int64) (h : Hp) : Option (Hp) :=
  (s_X9_commonDivisor  a1 a3 h).bind fun y1 =>
  if (1 : Int64) < y1 then (nzJ y1 <|
  s_X9_find_b23 c0 a3 y1 (a1 / y1) h)
  else (s_X9_find_b23 c0 a3 y1 a1 h)
set_option maxRecDepth 100000 in
set_option maxHeartbeats 4000000 in
theorem o_X9_find_b42 {K : gK} (S : Cx K RX9 cX9_find 7 2 59) {c0 : Nat} (k0 : kd c0 (10 + 9, 0)) (t0 : Int64) (h : Hp) {o : Hp} (hyp : s_X9_find_b42 c0 t0 h = some o) (F : Rt K none none o) : Go K 42 [] [.long t0, .ref (ad K c0)] h := by
  unfold s_X9_find_b42 at hyp
  refine g_putJ (pc := 42) S dX9_find_42 fl_X9_85 k0 hyp (fun h3 hyp => ?_)
  have hyp := Option.some.inj hyp
  subst hyp
  exact g_vret (pc := 45) S F dX9_find_45
set_option maxRecDepth 100000 in
set_option maxHeartbeats 4000000 in
theorem o_X9_find_b23 {K : gK} (S : Cx K RX9 cX9_find 7 2 59) {c0 : Nat} (k0 : kd c0 (10 + 9, 0)) (a3 : Int64) (a5 : Int64) (t0 : Int64) (h : Hp) {o : Hp} (hyp : s_X9_find_b23 c0 a3 a5 t0 h = some o) (F : Rt K none none o) : Go K 23 [(0, .ref (ad K c0)), (3, .long a3), (5, .long a5)] [.long t0, .ref (ad K c0)] h := by
  unfold s_X9_find_b23 at hyp
  refine g_putJ (pc := 23) S dX9_find_23 fl_X9_81 k0 hyp (fun h2 hyp => ?_)
  refine g_aload_n (pc := 26) 0 S dX9_find_26 rfl ?_
  refine g_lload (pc := 27) 2 S dX9_find_27 rfl ?_
  refine g_lconst (pc := 29) (v := (1 : Int64)) S dX9_find_29 (by decide) ?_
  refine g_lcmp_le (pc := 30) (tgt := 41) S dX9_find_30 dX9_find_31 (by decide) hyp (fun hyp => ?_) (fun hyp => ?_)
  · refine g_lload_n (pc := 34) 1 S dX9_find_34 rfl ?_
    refine g_lload (pc := 35) 2 S dX9_find_35 rfl ?_
    refine g_nzJ hyp (fun hz hyp => ?_)
    refine g_ldiv (pc := 37) S dX9_find_37 hz ?_
    refine g_goto (pc := 38) (tgt := 42) S dX9_find_38 (by decide) ?_
    exact g_sub [] rfl (o_X9_find_b42 S k0 (a3 / a5) h2 hyp F)
  · refine g_lload_n (pc := 41) 1 S dX9_find_41 rfl ?_
    exact g_sub [] rfl (o_X9_find_b42 S k0 a3 h2 hyp F)
set_option maxRecDepth 100000 in
set_option maxHeartbeats 4000000 in
theorem o_X9_find {K : gK} (S : Cx K RX9 cX9_find 7 2 59) {c0 : Nat} (k0 : kd c0 (10 + 9, 0)) (a1 : Int64) (a3 : Int64) (h : Hp) {o : Hp} (hyp : s_X9_find c0 a1 a3 h = some o) (F : Rt K none none o) : Go K 0 [(0, .ref (ad K c0)), (1, .long a1), (3, .long a3)] [] h := by
  unfold s_X9_find at hyp
  refine g_lload_n (pc := 0) 1 S dX9_find_0 rfl ?_
  refine g_lload_n (pc := 1) 2 S dX9_find_1 rfl ?_
  refine g_bind hyp (fun y1 hy1 hyp => ?_)
  refine g_callS (pc := 2) (As := [.long a1, .long a3]) (rest := []) S dX9_find_2 tw_679 tw_650 mw_X9_commonDivisor (m_X9_commonDivisor  a1 a3 h hy1) rfl rfl (Nat.le_of_ble_eq_true rfl) (Nat.le_of_ble_eq_true rfl) (Nat.le_of_ble_eq_true rfl) ?_
  refine g_lstore (pc := 5) (lv' := [(5, .long y1), (0, .ref (ad K c0)), (1, .long a1), (3, .long a3)]) S dX9_find_5 (by decide) rfl ?_
  refine g_aload_n (pc := 7) 1 S dX9_find_7 rfl ?_
  refine g_lload (pc := 8) 0 S dX9_find_8 rfl ?_
  refine g_lconst (pc := 10) (v := (1 : Int64)) S dX9_find_10 (by decide) ?_
  refine g_lcmp_le (pc := 11) (tgt := 22) S dX9_find_11 dX9_find_12 (by decide) hyp (fun hyp => ?_) (fun hyp => ?_)
  · refine g_lload_n (pc := 15) 2 S dX9_find_15 rfl ?_
    refine g_lload (pc := 16) 0 S dX9_find_16 rfl ?_
    refine g_nzJ hyp (fun hz hyp => ?_)
    refine g_ldiv (pc := 18) S dX9_find_18 hz ?_
    refine g_goto (pc := 19) (tgt := 23) S dX9_find_19 (by decide) ?_
    exact g_sub [1, 3, 0] rfl (o_X9_find_b23 S k0 a3 y1 (a1 / y1) h hyp F)
  · refine g_lload_n (pc := 22) 2 S dX9_find_22 rfl ?_
    exact g_sub [1, 3, 0] rfl (o_X9_find_b23 S k0 a3 y1 a1 h hyp F)
theorem m_X9_find {l : Launch} {D : va_G} {cT : Nat → ClassId} {aD : Nat → Nat} {c0 : Nat} (k0 : kd c0 (10 + 9, 0)) (a1 : Int64) (a3 : Int64) (h : Hp) {o : Hp} (hyp : s_X9_find c0 a1 a3 h = some o) : Ok l D cT aD yX9_find cX9_find 7 none 2 59 [.ref (aD c0), .long a1, .long a3] h none o :=
  Ok.of (by decide +kernel) rfl (Nat.le_of_ble_eq_true rfl) (fun K e1 e2 e3 e4 S F => by subst e1; exact o_X9_find S k0 a1 a3 h hyp F)
-- BoundProofs relief (I)I
noncomputable def s_X9_relief_b109 (c0 : Nat) (a1 : Int32) (a2 : Int32) (h : Hp) : Option ((Int32 × Hp) ⊕ (Hp)) :=
  lt (a2 + (1 : Int32)) fun v2_8 =>
  some (.inl (v2_8, h))
noncomputable def s_X9_relief_l46 (c0 : Nat) (a1 : Int32) (a2 : Int32) (h : Hp) : Option ((Int32 × Hp) ⊕ (Hp)) :=
  (s_X1_size (c0 + 30)  h).bind fun y5 =>
  if a2 < y5 then (ldI h ((c0 + 30) + 9) 781 a2 fun x6 =>
  (s_X0_examine (c0 + 31) x6 h).bind fun y7 =>
  if y7.1 = 0 then (s_X9_relief_b109 c0 a1 a2 y7.2)
  else ((s_X0_factorOf (c0 + 31) a1 y7.2).bind fun y9 =>
  (s_J9_abs_0f7a4  y9 y7.2).bind fun y10 =>
  (s_X4_lowerTo (c0 + 41) (y7.2.2 (c0 + 31) 4) (y10).toInt64 (y7.2.1 (c0 + 31) 5) y7.2).bind fun y11 =>
  s_X9_relief_b109 c0 a1 a2 y11))
  else (some (.inr (h)))
noncomputable def s_X9_relief (c0 : Nat) (a1 : Int32) (h : Hp) : Option (Int32 × Hp) :=
  (s_X5_hasConstraint (c0 + 1) a1 h).bind fun y1 =>
  if y1 = 0 then (some ((-1 : Int32), h))
  else ((s_X9_allConstraints c0  h).bind fun y2 =>
  (s_X1_within (c0 + 30) (y2 &&& (((1 : Int32) <<< (a1 &&& 31)) ^^^ (-1 : Int32))) h).bind fun y3 =>
  if y3 = 0 then ((s_X4_begin (c0 + 41) (0 : Int64) h).bind fun y4 =>
  (iter (fun s : Int32 × Hp => s_X9_relief_l46 c0 a1 s.1 s.2) FUEL ((0 : Int32), y4)).bind fun e12 =>
  (s_X9_find c0 (-(e12.2 (c0 + 41) 1)) (e12.2 (c0 + 41) 2) e12).bind fun y13 =>
  if (y13.1 (c0 + 41) 3) = 0 then (some ((1 : Int32), y13))
  else (some ((0 : Int32), y13)))
  else (some ((-9 : Int32), h)))
set_option maxRecDepth 100000 in
set_option maxHeartbeats 4000000 in
theorem o_X9_relief_b109 {K : gK} (S : Cx K RX9 cX9_relief 3 3 89) {c0 : Nat} (k0 : kd c0 (10 + 9, 0)) (a1 : Int32) (a2 : Int32) (h : Hp) {o : (Int32 × Hp) ⊕ (Hp)} (hyp : s_X9_relief_b109 c0 a1 a2 h = some o) (hin : ∀ s', o = .inl s' → Go K 46 [(0, .ref (ad K c0)), (1, .int a1), (2, .int s'.1)] [] s'.2) (hex0 : ∀ s', o = .inr (s') → Go K 115 [(0, .ref (ad K c0))] [] s') : Go K 109 [(0, .ref (ad K c0)), (1, .int a1), (2, .int a2)] [] h := by
  unfold s_X9_relief_b109 at hyp
  refine g_iinc (pc := 109) (v := (a2 + (1 : Int32))) (lv' := [(2, .int (a2 + (1 : Int32))), (0, .ref (ad K c0)), (1, .int a1)]) 2 S dX9_relief_109 rfl (by rfl) (by decide) rfl ?_
  refine g_lti (C := fun v2_8 => Go K (109 + 3) [(2, .int v2_8), (0, .ref (ad K c0)), (1, .int a1)] [] h) hyp (fun v2_8 hyp => ?_)
  refine g_goto (pc := 112) (tgt := 46) S dX9_relief_112 (by decide) ?_
  have hyp := Option.some.inj hyp
  subst hyp
  exact g_sub [1, 2, 0] rfl (hin (v2_8, h) rfl)
set_option maxRecDepth 100000 in
set_option maxHeartbeats 4000000 in
theorem o_X9_relief_l46 {K : gK} (S : Cx K RX9 cX9_relief 3 3 89) {c0 : Nat} (k0 : kd c0 (10 + 9, 0)) (a1 : Int32) (a2 : Int32) (h : Hp) {o : (Int32 × Hp) ⊕ (Hp)} (hyp : s_X9_relief_l46 c0 a1 a2 h = some o) (hin : ∀ s', o = .inl s' → Go K 46 [(0, .ref (ad K c0)), (1, .int a1), (2, .int s'.1)] [] s'.2) (hex0 : ∀ s', o = .inr (s') → Go K 115 [(0, .ref (ad K c0))] [] s') : Go K 46 [(0, .ref (ad K c0)), (1, .int a1), (2, .int a2)] [] h := by
  unfold s_X9_relief_l46 at hyp
  refine g_iload_n (pc := 46) 2 S dX9_relief_46 rfl ?_
  refine g_aload_n (pc := 47) 0 S dX9_relief_47 rfl ?_
  refine g_getR (pc := 48) S dX9_relief_48 fl_X9_37 k0 ?_
  refine g_bind hyp (fun y5 hy5 hyp => ?_)
  refine g_callV (pc := 51) (As := []) (rest := [.int a2]) S dX9_relief_51 (kf_9_30 k0) rfl tw_667 tw_631 tw_632 mw_X1_size (m_X1_size (kf_9_30 k0)  h hy5) rfl rfl (Nat.le_of_ble_eq_true rfl) (Nat.le_of_ble_eq_true rfl) (Nat.le_of_ble_eq_true rfl) ?_
  refine g_icmp_ge (pc := 54) (tgt := 115) S dX9_relief_54 (by decide) hyp (fun hyp => ?_) (fun hyp => ?_)
  · refine g_aload_n (pc := 57) 0 S dX9_relief_57 rfl ?_
    refine g_getR (pc := 58) S dX9_relief_58 fl_X9_45 k0 ?_
    refine g_aload_n (pc := 61) 0 S dX9_relief_61 rfl ?_
    refine g_getR (pc := 62) S dX9_relief_62 fl_X9_37 k0 ?_
    refine g_getR (pc := 65) S dX9_relief_65 fl_X9_195 (kf_9_30 k0) ?_
    refine g_iload_n (pc := 68) 2 S dX9_relief_68 rfl ?_
    refine g_iald (pc := 69) S dX9_relief_69 (kf_1_9 (kf_9_30 k0)) hyp (fun x6 hyp => ?_)
    refine g_bind hyp (fun y7 hy7 hyp => ?_)
    refine g_callV (pc := 70) (As := [.int x6]) (rest := []) S dX9_relief_70 (kf_9_31 k0) rfl tw_645 tw_540 tw_541 mw_X0_examine (m_X0_examine (kf_9_31 k0) x6 h hy7) rfl rfl (Nat.le_of_ble_eq_true rfl) (Nat.le_of_ble_eq_true rfl) (Nat.le_of_ble_eq_true rfl) ?_
    refine g_if_eq (pc := 73) (tgt := 109) S dX9_relief_73 (by decide) hyp (fun hyp => ?_) (fun hyp => ?_)
    · exact g_sub [0, 1, 2] rfl (o_X9_relief_b109 S k0 a1 a2 y7.2 hyp hin hex0)
    · refine g_aload_n (pc := 76) 0 S dX9_relief_76 rfl ?_
      refine g_getR (pc := 77) S dX9_relief_77 fl_X9_56 k0 ?_
      refine g_aload_n (pc := 80) 0 S dX9_relief_80 rfl ?_
      refine g_getR (pc := 81) S dX9_relief_81 fl_X9_45 k0 ?_
      refine g_getJ (pc := 84) S dX9_relief_84 fl_X9_198 (kf_9_31 k0) ?_
      refine g_aload_n (pc := 87) 0 S dX9_relief_87 rfl ?_
      refine g_getR (pc := 88) S dX9_relief_88 fl_X9_45 k0 ?_
      refine g_iload_n (pc := 91) 1 S dX9_relief_91 rfl ?_
      refine g_bind hyp (fun y9 hy9 hyp => ?_)
      refine g_callV (pc := 92) (As := [.int a1]) (rest := [.long (y7.2.2 (c0 + 31) 4), .ref (ad K (c0 + 41))]) S dX9_relief_92 (kf_9_31 k0) rfl tw_668 tw_656 tw_657 mw_X0_factorOf (m_X0_factorOf (kf_9_31 k0) a1 y7.2 hy9) rfl rfl (Nat.le_of_ble_eq_true rfl) (Nat.le_of_ble_eq_true rfl) (Nat.le_of_ble_eq_true rfl) ?_
      refine g_bind hyp (fun y10 hy10 hyp => ?_)
      refine g_callS (pc := 95) (As := [.int y9]) (rest := [.long (y7.2.2 (c0 + 31) 4), .ref (ad K (c0 + 41))]) S dX9_relief_95 tw_669 tw_670 mw_J9_abs_0f7a4 (m_J9_abs_0f7a4  y9 y7.2 hy10) rfl rfl (Nat.le_of_ble_eq_true rfl) (Nat.le_of_ble_eq_true rfl) (Nat.le_of_ble_eq_true rfl) ?_
      refine g_i2l (pc := 98) S dX9_relief_98 ?_
      refine g_aload_n (pc := 99) 0 S dX9_relief_99 rfl ?_
      refine g_getR (pc := 100) S dX9_relief_100 fl_X9_45 k0 ?_
      refine g_getI (pc := 103) S dX9_relief_103 fl_X9_210 (kf_9_31 k0) ?_
      refine g_bind hyp (fun y11 hy11 hyp => ?_)
      refine g_callV (pc := 106) (As := [.long (y7.2.2 (c0 + 31) 4), .long (y10).toInt64, .int (y7.2.1 (c0 + 31) 5)]) (rest := []) S dX9_relief_106 (kf_9_41 k0) rfl tw_672 tw_673 tw_674 mw_X4_lowerTo (m_X4_lowerTo (kf_9_41 k0) (y7.2.2 (c0 + 31) 4) (y10).toInt64 (y7.2.1 (c0 + 31) 5) y7.2 hy11) rfl rfl (Nat.le_of_ble_eq_true rfl) (Nat.le_of_ble_eq_true rfl) (Nat.le_of_ble_eq_true rfl) ?_
      exact g_sub [0, 1, 2] rfl (o_X9_relief_b109 S k0 a1 a2 y11 hyp hin hex0)
  · have hyp := Option.some.inj hyp
    subst hyp
    exact g_sub [0] rfl (hex0 h rfl)
set_option maxRecDepth 100000 in
set_option maxHeartbeats 4000000 in
theorem o_X9_relief {K : gK} (S : Cx K RX9 cX9_relief 3 3 89) {c0 : Nat} (k0 : kd c0 (10 + 9, 0)) (a1 : Int32) (h : Hp) {o : Int32 × Hp} (hyp : s_X9_relief c0 a1 h = some o) (F : Rt K (some .int) (some (.int o.1)) o.2) : Go K 0 [(0, .ref (ad K c0)), (1, .int a1)] [] h := by
  unfold s_X9_relief at hyp
  refine g_aload_n (pc := 0) 0 S dX9_relief_0 rfl ?_
  refine g_getR (pc := 1) S dX9_relief_1 fl_X9_12 k0 ?_
  refine g_iload_n (pc := 4) 1 S dX9_relief_4 rfl ?_
  refine g_bind hyp (fun y1 hy1 hyp => ?_)
  refine g_callV (pc := 5) (As := [.int a1]) (rest := []) S dX9_relief_5 (kf_9_1 k0) rfl tw_600 tw_601 tw_602 mw_X5_hasConstraint (m_X5_hasConstraint (kf_9_1 k0) a1 h hy1) rfl rfl (Nat.le_of_ble_eq_true rfl) (Nat.le_of_ble_eq_true rfl) (Nat.le_of_ble_eq_true rfl) ?_
  refine g_if_ne (pc := 8) (tgt := 13) S dX9_relief_8 (by decide) hyp (fun hyp => ?_) (fun hyp => ?_)
  · refine g_iconst (pc := 11) (v := (-1 : Int32)) S dX9_relief_11 (by decide) ?_
    have hyp := Option.some.inj hyp
    subst hyp
    exact g_iret (pc := 12) S F dX9_relief_12
  · refine g_aload_n (pc := 13) 0 S dX9_relief_13 rfl ?_
    refine g_getR (pc := 14) S dX9_relief_14 fl_X9_37 k0 ?_
    refine g_aload_n (pc := 17) 0 S dX9_relief_17 rfl ?_
    refine g_bind hyp (fun y2 hy2 hyp => ?_)
    refine g_callV (pc := 18) (As := []) (rest := [.ref (ad K (c0 + 30))]) S dX9_relief_18 k0 rfl tw_623 tw_624 tw_17 mw_X9_allConstraints (m_X9_allConstraints k0  h hy2) rfl rfl (Nat.le_of_ble_eq_true rfl) (Nat.le_of_ble_eq_true rfl) (Nat.le_of_ble_eq_true rfl) ?_
    refine g_iconst (pc := 21) (v := (1 : Int32)) S dX9_relief_21 (by decide) ?_
    refine g_iload_n (pc := 22) 1 S dX9_relief_22 rfl ?_
    refine g_ishl (pc := 23) S dX9_relief_23 ?_
    refine g_iconst (pc := 24) (v := (-1 : Int32)) S dX9_relief_24 (by decide) ?_
    refine g_ixor (pc := 25) S dX9_relief_25 ?_
    refine g_iand (pc := 26) S dX9_relief_26 ?_
    refine g_bind hyp (fun y3 hy3 hyp => ?_)
    refine g_callV (pc := 27) (As := [.int (y2 &&& (((1 : Int32) <<< (a1 &&& 31)) ^^^ (-1 : Int32)))]) (rest := []) S dX9_relief_27 (kf_9_30 k0) rfl tw_626 tw_627 tw_628 mw_X1_within (m_X1_within (kf_9_30 k0) (y2 &&& (((1 : Int32) <<< (a1 &&& 31)) ^^^ (-1 : Int32))) h hy3) rfl rfl (Nat.le_of_ble_eq_true rfl) (Nat.le_of_ble_eq_true rfl) (Nat.le_of_ble_eq_true rfl) ?_
    refine g_if_eq (pc := 30) (tgt := 36) S dX9_relief_30 (by decide) hyp (fun hyp => ?_) (fun hyp => ?_)
    · refine g_aload_n (pc := 36) 0 S dX9_relief_36 rfl ?_
      refine g_getR (pc := 37) S dX9_relief_37 fl_X9_56 k0 ?_
      refine g_lconst (pc := 40) (v := (0 : Int64)) S dX9_relief_40 (by decide) ?_
      refine g_bind hyp (fun y4 hy4 hyp => ?_)
      refine g_callV (pc := 41) (As := [.long (0 : Int64)]) (rest := []) S dX9_relief_41 (kf_9_41 k0) rfl tw_663 tw_664 tw_665 mw_X4_begin (m_X4_begin (kf_9_41 k0) (0 : Int64) h hy4) rfl rfl (Nat.le_of_ble_eq_true rfl) (Nat.le_of_ble_eq_true rfl) (Nat.le_of_ble_eq_true rfl) ?_
      refine g_iconst (pc := 44) (v := (0 : Int32)) S dX9_relief_44 (by decide) ?_
      refine g_istore_n (pc := 45) (lv' := [(2, .int (0 : Int32)), (0, .ref (ad K c0)), (1, .int a1)]) S dX9_relief_45 rfl (by decide) rfl ?_
      refine g_bind hyp (fun e12 he12 hyp => ?_)
      refine g_sub [1, 2, 0] rfl (g_loop (f := fun s : Int32 × Hp => s_X9_relief_l46 c0 a1 s.1 s.2) (ρ := Hp) (Hd := fun s : Int32 × Hp => Go K 46 [(0, .ref (ad K c0)), (1, .int a1), (2, .int s.1)] [] s.2) (Ex := fun e12 => Go K 115 [(0, .ref (ad K c0))] [] e12) (fun s o h1 h2 h3 => o_X9_relief_l46 S k0 a1 s.1 s.2 h1 h2 h3) FUEL _ e12 he12 ?_)
      refine g_aload_n (pc := 115) 0 S dX9_relief_115 rfl ?_
      refine g_aload_n (pc := 116) 0 S dX9_relief_116 rfl ?_
      refine g_getR (pc := 117) S dX9_relief_117 fl_X9_56 k0 ?_
      refine g_getJ (pc := 120) S dX9_relief_120 fl_X9_218 (kf_9_41 k0) ?_
      refine g_lneg (pc := 123) S dX9_relief_123 ?_
      refine g_aload_n (pc := 124) 0 S dX9_relief_124 rfl ?_
      refine g_getR (pc := 125) S dX9_relief_125 fl_X9_56 k0 ?_
      refine g_getJ (pc := 128) S dX9_relief_128 fl_X9_221 (kf_9_41 k0) ?_
      refine g_bind hyp (fun y13 hy13 hyp => ?_)
      refine g_callV (pc := 131) (As := [.long (-(e12.2 (c0 + 41) 1)), .long (e12.2 (c0 + 41) 2)]) (rest := []) S dX9_relief_131 k0 rfl tw_676 tw_677 tw_19 mw_X9_find (m_X9_find k0 (-(e12.2 (c0 + 41) 1)) (e12.2 (c0 + 41) 2) e12 hy13) rfl rfl (Nat.le_of_ble_eq_true rfl) (Nat.le_of_ble_eq_true rfl) (Nat.le_of_ble_eq_true rfl) ?_
      refine g_aload_n (pc := 134) 0 S dX9_relief_134 rfl ?_
      refine g_getR (pc := 135) S dX9_relief_135 fl_X9_56 k0 ?_
      refine g_getI (pc := 138) S dX9_relief_138 fl_X9_228 (kf_9_41 k0) ?_
      refine g_if_eq (pc := 141) (tgt := 148) S dX9_relief_141 (by decide) hyp (fun hyp => ?_) (fun hyp => ?_)
      · refine g_iconst (pc := 148) (v := (1 : Int32)) S dX9_relief_148 (by decide) ?_
        have hyp := Option.some.inj hyp
        subst hyp
        exact g_iret (pc := 149) S F dX9_relief_149
      · refine g_iconst (pc := 144) (v := (0 : Int32)) S dX9_relief_144 (by decide) ?_
        refine g_goto (pc := 145) (tgt := 149) S dX9_relief_145 (by decide) ?_
        have hyp := Option.some.inj hyp
        subst hyp
        exact g_iret (pc := 149) S F dX9_relief_149
    · refine g_bipush (pc := 33) (v := (-9 : Int32)) S dX9_relief_33 (by decide) ?_
      have hyp := Option.some.inj hyp
      subst hyp
      exact g_iret (pc := 35) S F dX9_relief_35
theorem m_X9_relief {l : Launch} {D : va_G} {cT : Nat → ClassId} {aD : Nat → Nat} {c0 : Nat} (k0 : kd c0 (10 + 9, 0)) (a1 : Int32) (h : Hp) {o : Int32 × Hp} (hyp : s_X9_relief c0 a1 h = some o) : Ok l D cT aD yX9_relief cX9_relief 3 (some .int) 3 89 [.ref (aD c0), .int a1] h (some (.int o.1)) o.2 :=
  Ok.of (by decide +kernel) rfl (Nat.le_of_ble_eq_true rfl) (fun K e1 e2 e3 e4 S F => by subst e1; exact o_X9_relief S k0 a1 h hyp F)
-- BoundProofs spared (I)I
noncomputable def s_X9_spared_b58 (c0 : Nat) (a1 : Int32) (a2 : Int32) (a3 : Int32) (a4 : Int32) (h : Hp) : Option ((Int32 × Int32) ⊕ (Int32)) :=
  lt (a4 + (1 : Int32)) fun v4_5 =>
  some (.inl (a3, v4_5))
noncomputable def s_X9_spared_l21 (c0 : Nat) (a1 : Int32) (a2 : Int32) (a3 : Int32) (a4 : Int32) (h : Hp) : Option ((Int32 × Int32) ⊕ (Int32)) :=
  if a4 < a2 then ((s_J6_bitCount_0f7a4  a4 h).bind fun y2 =>
  (s_J6_bitCount_0f7a4  a3 h).bind fun y3 =>
  if y2 < y3 then ((s_X1_within (c0 + 30) (a2 &&& (a4 ^^^ (-1 : Int32))) h).bind fun y4 =>
  if y4 = 0 then (s_X9_spared_b58 c0 a1 a2 a4 a4 h)
  else (s_X9_spared_b58 c0 a1 a2 a3 a4 h))
  else (s_X9_spared_b58 c0 a1 a2 a3 a4 h))
  else (some (.inr (a3)))
noncomputable def s_X9_spared (c0 : Nat) (a1 : Int32) (h : Hp) : Option (Int32) :=
  if a1 < 0 then (some (-1 : Int32))
  else (if (1 : Int32) < a1 then (some (-1 : Int32))
  else ((s_X9_allConstraints c0  h).bind fun y1 =>
  (iter (fun s : Int32 × Int32 => s_X9_spared_l21 c0 a1 y1 s.1 s.2 h) FUEL (y1, (0 : Int32))).bind fun e6 =>
  if a1 = 0 then ((s_J6_bitCount_0f7a4  e6 h).bind fun y7 =>
  some y7)
  else (some e6)))
set_option maxRecDepth 100000 in
set_option maxHeartbeats 4000000 in
theorem o_X9_spared_b58 {K : gK} (S : Cx K RX9 cX9_spared 5 2 51) {c0 : Nat} (k0 : kd c0 (10 + 9, 0)) (a1 : Int32) (a2 : Int32) (a3 : Int32) (a4 : Int32) (h : Hp) {o : (Int32 × Int32) ⊕ (Int32)} (hyp : s_X9_spared_b58 c0 a1 a2 a3 a4 h = some o) (hin : ∀ s', o = .inl s' → Go K 21 [(0, .ref (ad K c0)), (1, .int a1), (2, .int a2), (3, .int s'.1), (4, .int s'.2)] [] h) (hex0 : ∀ s', o = .inr (s') → Go K 64 [(1, .int a1), (3, .int s')] [] h) : Go K 58 [(0, .ref (ad K c0)), (1, .int a1), (2, .int a2), (3, .int a3), (4, .int a4)] [] h := by
  unfold s_X9_spared_b58 at hyp
  refine g_iinc (pc := 58) (v := (a4 + (1 : Int32))) (lv' := [(4, .int (a4 + (1 : Int32))), (0, .ref (ad K c0)), (1, .int a1), (2, .int a2), (3, .int a3)]) 4 S dX9_spared_58 rfl (by rfl) (by decide) rfl ?_
  refine g_lti (C := fun v4_5 => Go K (58 + 3) [(4, .int v4_5), (0, .ref (ad K c0)), (1, .int a1), (2, .int a2), (3, .int a3)] [] h) hyp (fun v4_5 hyp => ?_)
  refine g_goto (pc := 61) (tgt := 21) S dX9_spared_61 (by decide) ?_
  have hyp := Option.some.inj hyp
  subst hyp
  exact g_sub [1, 2, 3, 4, 0] rfl (hin (a3, v4_5) rfl)
set_option maxRecDepth 100000 in
set_option maxHeartbeats 4000000 in
theorem o_X9_spared_l21 {K : gK} (S : Cx K RX9 cX9_spared 5 2 51) {c0 : Nat} (k0 : kd c0 (10 + 9, 0)) (a1 : Int32) (a2 : Int32) (a3 : Int32) (a4 : Int32) (h : Hp) {o : (Int32 × Int32) ⊕ (Int32)} (hyp : s_X9_spared_l21 c0 a1 a2 a3 a4 h = some o) (hin : ∀ s', o = .inl s' → Go K 21 [(0, .ref (ad K c0)), (1, .int a1), (2, .int a2), (3, .int s'.1), (4, .int s'.2)] [] h) (hex0 : ∀ s', o = .inr (s') → Go K 64 [(1, .int a1), (3, .int s')] [] h) : Go K 21 [(0, .ref (ad K c0)), (1, .int a1), (2, .int a2), (3, .int a3), (4, .int a4)] [] h := by
  unfold s_X9_spared_l21 at hyp
  refine g_iload (pc := 21) 4 S dX9_spared_21 rfl ?_
  refine g_iload_n (pc := 23) 2 S dX9_spared_23 rfl ?_
  refine g_icmp_ge (pc := 24) (tgt := 64) S dX9_spared_24 (by decide) hyp (fun hyp => ?_) (fun hyp => ?_)
  · refine g_iload (pc := 27) 4 S dX9_spared_27 rfl ?_
    refine g_bind hyp (fun y2 hy2 hyp => ?_)
    refine g_callS (pc := 29) (As := [.int a4]) (rest := []) S dX9_spared_29 tw_684 tw_534 mw_J6_bitCount_0f7a4 (m_J6_bitCount_0f7a4  a4 h hy2) rfl rfl (Nat.le_of_ble_eq_true rfl) (Nat.le_of_ble_eq_true rfl) (Nat.le_of_ble_eq_true rfl) ?_
    refine g_iload_n (pc := 32) 3 S dX9_spared_32 rfl ?_
    refine g_bind hyp (fun y3 hy3 hyp => ?_)
    refine g_callS (pc := 33) (As := [.int a3]) (rest := [.int y2]) S dX9_spared_33 tw_684 tw_534 mw_J6_bitCount_0f7a4 (m_J6_bitCount_0f7a4  a3 h hy3) rfl rfl (Nat.le_of_ble_eq_true rfl) (Nat.le_of_ble_eq_true rfl) (Nat.le_of_ble_eq_true rfl) ?_
    refine g_icmp_ge (pc := 36) (tgt := 58) S dX9_spared_36 (by decide) hyp (fun hyp => ?_) (fun hyp => ?_)
    · refine g_aload_n (pc := 39) 0 S dX9_spared_39 rfl ?_
      refine g_getR (pc := 40) S dX9_spared_40 fl_X9_37 k0 ?_
      refine g_iload_n (pc := 43) 2 S dX9_spared_43 rfl ?_
      refine g_iload (pc := 44) 4 S dX9_spared_44 rfl ?_
      refine g_iconst (pc := 46) (v := (-1 : Int32)) S dX9_spared_46 (by decide) ?_
      refine g_ixor (pc := 47) S dX9_spared_47 ?_
      refine g_iand (pc := 48) S dX9_spared_48 ?_
      refine g_bind hyp (fun y4 hy4 hyp => ?_)
      refine g_callV (pc := 49) (As := [.int (a2 &&& (a4 ^^^ (-1 : Int32)))]) (rest := []) S dX9_spared_49 (kf_9_30 k0) rfl tw_626 tw_627 tw_628 mw_X1_within (m_X1_within (kf_9_30 k0) (a2 &&& (a4 ^^^ (-1 : Int32))) h hy4) rfl rfl (Nat.le_of_ble_eq_true rfl) (Nat.le_of_ble_eq_true rfl) (Nat.le_of_ble_eq_true rfl) ?_
      refine g_if_ne (pc := 52) (tgt := 58) S dX9_spared_52 (by decide) hyp (fun hyp => ?_) (fun hyp => ?_)
      · refine g_iload (pc := 55) 4 S dX9_spared_55 rfl ?_
        refine g_istore_n (pc := 57) (lv' := [(3, .int a4), (0, .ref (ad K c0)), (1, .int a1), (2, .int a2), (4, .int a4)]) S dX9_spared_57 rfl (by decide) rfl ?_
        exact g_sub [1, 2, 3, 0, 4] rfl (o_X9_spared_b58 S k0 a1 a2 a4 a4 h hyp hin hex0)
      · exact g_sub [0, 1, 2, 3, 4] rfl (o_X9_spared_b58 S k0 a1 a2 a3 a4 h hyp hin hex0)
    · exact g_sub [0, 1, 2, 3, 4] rfl (o_X9_spared_b58 S k0 a1 a2 a3 a4 h hyp hin hex0)
  · have hyp := Option.some.inj hyp
    subst hyp
    exact g_sub [1, 3] rfl (hex0 a3 rfl)
set_option maxRecDepth 100000 in
set_option maxHeartbeats 4000000 in
theorem o_X9_spared {K : gK} (S : Cx K RX9 cX9_spared 5 2 51) {c0 : Nat} (k0 : kd c0 (10 + 9, 0)) (a1 : Int32) (h : Hp) {o : Int32} (hyp : s_X9_spared c0 a1 h = some o) (F : Rt K (some .int) (some (.int o)) h) : Go K 0 [(0, .ref (ad K c0)), (1, .int a1)] [] h := by
  unfold s_X9_spared at hyp
  refine g_iload_n (pc := 0) 1 S dX9_spared_0 rfl ?_
  refine g_if_lt (pc := 1) (tgt := 9) S dX9_spared_1 (by decide) hyp (fun hyp => ?_) (fun hyp => ?_)
  · refine g_iconst (pc := 9) (v := (-1 : Int32)) S dX9_spared_9 (by decide) ?_
    have hyp := Option.some.inj hyp
    subst hyp
    exact g_iret (pc := 10) S F dX9_spared_10
  · refine g_iload_n (pc := 4) 1 S dX9_spared_4 rfl ?_
    refine g_iconst (pc := 5) (v := (1 : Int32)) S dX9_spared_5 (by decide) ?_
    refine g_icmp_le (pc := 6) (tgt := 11) S dX9_spared_6 (by decide) hyp (fun hyp => ?_) (fun hyp => ?_)
    · refine g_iconst (pc := 9) (v := (-1 : Int32)) S dX9_spared_9 (by decide) ?_
      have hyp := Option.some.inj hyp
      subst hyp
      exact g_iret (pc := 10) S F dX9_spared_10
    · refine g_aload_n (pc := 11) 0 S dX9_spared_11 rfl ?_
      refine g_bind hyp (fun y1 hy1 hyp => ?_)
      refine g_callV (pc := 12) (As := []) (rest := []) S dX9_spared_12 k0 rfl tw_623 tw_624 tw_17 mw_X9_allConstraints (m_X9_allConstraints k0  h hy1) rfl rfl (Nat.le_of_ble_eq_true rfl) (Nat.le_of_ble_eq_true rfl) (Nat.le_of_ble_eq_true rfl) ?_
      refine g_istore_n (pc := 15) (lv' := [(2, .int y1), (0, .ref (ad K c0)), (1, .int a1)]) S dX9_spared_15 rfl (by decide) rfl ?_
      refine g_iload_n (pc := 16) 0 S dX9_spared_16 rfl ?_
      refine g_istore_n (pc := 17) (lv' := [(3, .int y1), (2, .int y1), (0, .ref (ad K c0)), (1, .int a1)]) S dX9_spared_17 rfl (by decide) rfl ?_
      refine g_iconst (pc := 18) (v := (0 : Int32)) S dX9_spared_18 (by decide) ?_
      refine g_istore (pc := 19) (lv' := [(4, .int (0 : Int32)), (3, .int y1), (2, .int y1), (0, .ref (ad K c0)), (1, .int a1)]) S dX9_spared_19 (by decide) rfl ?_
      refine g_bind hyp (fun e6 he6 hyp => ?_)
      refine g_sub [3, 4, 2, 1, 0] rfl (g_loop (f := fun s : Int32 × Int32 => s_X9_spared_l21 c0 a1 y1 s.1 s.2 h) (ρ := Int32) (Hd := fun s : Int32 × Int32 => Go K 21 [(0, .ref (ad K c0)), (1, .int a1), (2, .int y1), (3, .int s.1), (4, .int s.2)] [] h) (Ex := fun e6 => Go K 64 [(1, .int a1), (3, .int e6)] [] h) (fun s o h1 h2 h3 => o_X9_spared_l21 S k0 a1 y1 s.1 s.2 h h1 h2 h3) FUEL _ e6 he6 ?_)
      refine g_iload_n (pc := 64) 0 S dX9_spared_64 rfl ?_
      refine g_if_ne (pc := 65) (tgt := 75) S dX9_spared_65 (by decide) hyp (fun hyp => ?_) (fun hyp => ?_)
      · refine g_iload_n (pc := 68) 1 S dX9_spared_68 rfl ?_
        refine g_bind hyp (fun y7 hy7 hyp => ?_)
        refine g_callS (pc := 69) (As := [.int e6]) (rest := []) S dX9_spared_69 tw_684 tw_534 mw_J6_bitCount_0f7a4 (m_J6_bitCount_0f7a4  e6 h hy7) rfl rfl (Nat.le_of_ble_eq_true rfl) (Nat.le_of_ble_eq_true rfl) (Nat.le_of_ble_eq_true rfl) ?_
        refine g_goto (pc := 72) (tgt := 76) S dX9_spared_72 (by decide) ?_
        have hyp := Option.some.inj hyp
        subst hyp
        exact g_iret (pc := 76) S F dX9_spared_76
      · refine g_iload_n (pc := 75) 1 S dX9_spared_75 rfl ?_
        have hyp := Option.some.inj hyp
        subst hyp
        exact g_iret (pc := 76) S F dX9_spared_76
theorem m_X9_spared {l : Launch} {D : va_G} {cT : Nat → ClassId} {aD : Nat → Nat} {c0 : Nat} (k0 : kd c0 (10 + 9, 0)) (a1 : Int32) (h : Hp) {o : Int32} (hyp : s_X9_spared c0 a1 h = some o) : Ok l D cT aD yX9_spared cX9_spared 5 (some .int) 2 51 [.ref (aD c0), .int a1] h (some (.int o)) h :=
  Ok.of (by decide +kernel) rfl (Nat.le_of_ble_eq_true rfl) (fun K e1 e2 e3 e4 S F => by subst e1; exact o_X9_spared S k0 a1 h hyp F)
-- BoundProofs$Limit seek (LBoundProofs$Circuit;III)V
noncomputable def s_X4_seek_b100 (c0 : Nat) (c1 : Nat) (a6 : Int32) (a7 : Int32) (h : Hp) : Option ((Int32 × Hp) ⊕ (Hp)) :=
  lt (a7 + (1 : Int32)) fun v7_6 =>
  some (.inl (v7_6, h))
noncomputable def s_X4_seek_l45 (c0 : Nat) (c1 : Nat) (a6 : Int32) (a7 : Int32) (h : Hp) : Option ((Int32 × Hp) ⊕ (Hp)) :=
  if a7 < ((1 : Int32) <<< (a6 &&& 31)) then ((s_J6_bitCount_0f7a4  a7 h).bind fun y5 =>
  if (h.1 (c1 + 1) 5) < y5 then (s_X4_seek_b100 c0 c1 a6 a7 h)
  else ((s_X0_examine c1 (a7 ||| ((1 : Int32) <<< (a6 &&& 31))) h).bind fun y7 =>
  if y7.1 = 0 then (s_X4_seek_b100 c0 c1 a6 a7 y7.2)
  else ((s_X0_factorOf c1 a6 y7.2).bind fun y8 =>
  (s_X4_lowerTo c0 (y7.2.2 c1 4) (y8).toInt64 (y7.2.1 c1 5) y7.2).bind fun y9 =>
  s_X4_seek_b100 c0 c1 a6 a7 y9)))
  else (some (.inr (h)))
noncomputable def s_X4_seek (c0 : Nat) (c1 : Nat) (a2 : Int32) (a3 : Int32) (a4 : Int32) (h : Hp) : Option (Hp) :=
  (s_X4_begin c0 (0 : Int64) h).bind fun y1 =>
  lt (sI y1 c0 0 (0 : Int32)) fun h2 =>
  lt (h2.1 (c1 + 1) 4) fun v6_3 =>
  if v6_3 < (12 : Int32) then ((s_X7_push (c1 + 1) a2 a3 a4 (0 : Int64) (2 : Int32) h2).bind fun y4 =>
  (iter (fun s : Int32 × Hp => s_X4_seek_l45 c0 c1 v6_3 s.1 s.2) FUEL ((1 : Int32), y4)).bind fun e10 =>
  (s_X7_cut (c1 + 1) v6_3 e10).bind fun y11 =>
  some y11)
  else (some h2)
set_option maxRecDepth 100000 in
set_option maxHeartbeats 4000000 in
theorem o_X4_seek_b100 {K : gK} (S : Cx K RX4 cX4_seek 8 3 86) {c0 : Nat} (k0 : kd c0 (10 + 4, 0)) {c1 : Nat} (k1 : kd c1 (10 + 0, 0)) (a6 : Int32) (a7 : Int32) (h : Hp) {o : (Int32 × Hp) ⊕ (Hp)} (hyp : s_X4_seek_b100 c0 c1 a6 a7 h = some o) (hin : ∀ s', o = .inl s' → Go K 45 [(0, .ref (ad K c0)), (1, .ref (ad K c1)), (5, .ref (ad K (c1 + 1))), (6, .int a6), (7, .int s'.1)] [] s'.2) (hex0 : ∀ s', o = .inr (s') → Go K 106 [(5, .ref (ad K (c1 + 1))), (6, .int a6)] [] s') : Go K 100 [(0, .ref (ad K c0)), (1, .ref (ad K c1)), (5, .ref (ad K (c1 + 1))), (6, .int a6), (7, .int a7)] [] h := by
  unfold s_X4_seek_b100 at hyp
  refine g_iinc (pc := 100) (v := (a7 + (1 : Int32))) (lv' := [(7, .int (a7 + (1 : Int32))), (0, .ref (ad K c0)), (1, .ref (ad K c1)), (5, .ref (ad K (c1 + 1))), (6, .int a6)]) 4 S dX4_seek_100 rfl (by rfl) (by decide) rfl ?_
  refine g_lti (C := fun v7_6 => Go K (100 + 3) [(7, .int v7_6), (0, .ref (ad K c0)), (1, .ref (ad K c1)), (5, .ref (ad K (c1 + 1))), (6, .int a6)] [] h) hyp (fun v7_6 hyp => ?_)
  refine g_goto (pc := 103) (tgt := 45) S dX4_seek_103 (by decide) ?_
  have hyp := Option.some.inj hyp
  subst hyp
  exact g_sub [1, 2, 3, 4, 0] rfl (hin (v7_6, h) rfl)
set_option maxRecDepth 100000 in
set_option maxHeartbeats 4000000 in
theorem o_X4_seek_l45 {K : gK} (S : Cx K RX4 cX4_seek 8 3 86) {c0 : Nat} (k0 : kd c0 (10 + 4, 0)) {c1 : Nat} (k1 : kd c1 (10 + 0, 0)) (a6 : Int32) (a7 : Int32) (h : Hp) {o : (Int32 × Hp) ⊕ (Hp)} (hyp : s_X4_seek_l45 c0 c1 a6 a7 h = some o) (hin : ∀ s', o = .inl s' → Go K 45 [(0, .ref (ad K c0)), (1, .ref (ad K c1)), (5, .ref (ad K (c1 + 1))), (6, .int a6), (7, .int s'.1)] [] s'.2) (hex0 : ∀ s', o = .inr (s') → Go K 106 [(5, .ref (ad K (c1 + 1))), (6, .int a6)] [] s') : Go K 45 [(0, .ref (ad K c0)), (1, .ref (ad K c1)), (5, .ref (ad K (c1 + 1))), (6, .int a6), (7, .int a7)] [] h := by
  unfold s_X4_seek_l45 at hyp
  refine g_iload (pc := 45) 4 S dX4_seek_45 rfl ?_
  refine g_iconst (pc := 47) (v := (1 : Int32)) S dX4_seek_47 (by decide) ?_
  refine g_iload (pc := 48) 3 S dX4_seek_48 rfl ?_
  refine g_ishl (pc := 50) S dX4_seek_50 ?_
  refine g_icmp_ge (pc := 51) (tgt := 106) S dX4_seek_51 (by decide) hyp (fun hyp => ?_) (fun hyp => ?_)
  · refine g_iload (pc := 54) 4 S dX4_seek_54 rfl ?_
    refine g_bind hyp (fun y5 hy5 hyp => ?_)
    refine g_callS (pc := 56) (As := [.int a7]) (rest := []) S dX4_seek_56 tw_695 tw_534 mw_J6_bitCount_0f7a4 (m_J6_bitCount_0f7a4  a7 h hy5) rfl rfl (Nat.le_of_ble_eq_true rfl) (Nat.le_of_ble_eq_true rfl) (Nat.le_of_ble_eq_true rfl) ?_
    refine g_aload (pc := 59) 2 S dX4_seek_59 rfl ?_
    refine g_getI (pc := 61) S dX4_seek_61 fl_X4_51 (kf_0_1 k1) ?_
    refine g_icmp_gt (pc := 64) (tgt := 100) S dX4_seek_64 (by decide) hyp (fun hyp => ?_) (fun hyp => ?_)
    · exact g_sub [0, 1, 2, 3, 4] rfl (o_X4_seek_b100 S k0 k1 a6 a7 h hyp hin hex0)
    · refine g_aload_n (pc := 67) 1 S dX4_seek_67 rfl ?_
      refine g_iload (pc := 68) 4 S dX4_seek_68 rfl ?_
      refine g_iconst (pc := 70) (v := (1 : Int32)) S dX4_seek_70 (by decide) ?_
      refine g_iload (pc := 71) 3 S dX4_seek_71 rfl ?_
      refine g_ishl (pc := 73) S dX4_seek_73 ?_
      refine g_ior (pc := 74) S dX4_seek_74 ?_
      refine g_bind hyp (fun y7 hy7 hyp => ?_)
      refine g_callV (pc := 75) (As := [.int (a7 ||| ((1 : Int32) <<< (a6 &&& 31)))]) (rest := []) S dX4_seek_75 k1 rfl tw_696 tw_540 tw_541 mw_X0_examine (m_X0_examine k1 (a7 ||| ((1 : Int32) <<< (a6 &&& 31))) h hy7) rfl rfl (Nat.le_of_ble_eq_true rfl) (Nat.le_of_ble_eq_true rfl) (Nat.le_of_ble_eq_true rfl) ?_
      refine g_if_eq (pc := 78) (tgt := 100) S dX4_seek_78 (by decide) hyp (fun hyp => ?_) (fun hyp => ?_)
      · exact g_sub [0, 1, 2, 3, 4] rfl (o_X4_seek_b100 S k0 k1 a6 a7 y7.2 hyp hin hex0)
      · refine g_aload_n (pc := 81) 0 S dX4_seek_81 rfl ?_
        refine g_aload_n (pc := 82) 1 S dX4_seek_82 rfl ?_
        refine g_getJ (pc := 83) S dX4_seek_83 fl_X4_58 k1 ?_
        refine g_aload_n (pc := 86) 1 S dX4_seek_86 rfl ?_
        refine g_iload (pc := 87) 3 S dX4_seek_87 rfl ?_
        refine g_bind hyp (fun y8 hy8 hyp => ?_)
        refine g_callV (pc := 89) (As := [.int a6]) (rest := [.long (y7.2.2 c1 4), .ref (ad K c0)]) S dX4_seek_89 k1 rfl tw_697 tw_656 tw_657 mw_X0_factorOf (m_X0_factorOf k1 a6 y7.2 hy8) rfl rfl (Nat.le_of_ble_eq_true rfl) (Nat.le_of_ble_eq_true rfl) (Nat.le_of_ble_eq_true rfl) ?_
        refine g_i2l (pc := 92) S dX4_seek_92 ?_
        refine g_aload_n (pc := 93) 1 S dX4_seek_93 rfl ?_
        refine g_getI (pc := 94) S dX4_seek_94 fl_X4_64 k1 ?_
        refine g_bind hyp (fun y9 hy9 hyp => ?_)
        refine g_callV (pc := 97) (As := [.long (y7.2.2 c1 4), .long (y8).toInt64, .int (y7.2.1 c1 5)]) (rest := []) S dX4_seek_97 k0 rfl tw_698 tw_673 tw_674 mw_X4_lowerTo (m_X4_lowerTo k0 (y7.2.2 c1 4) (y8).toInt64 (y7.2.1 c1 5) y7.2 hy9) rfl rfl (Nat.le_of_ble_eq_true rfl) (Nat.le_of_ble_eq_true rfl) (Nat.le_of_ble_eq_true rfl) ?_
        exact g_sub [0, 1, 2, 3, 4] rfl (o_X4_seek_b100 S k0 k1 a6 a7 y9 hyp hin hex0)
  · have hyp := Option.some.inj hyp
    subst hyp
    exact g_sub [2, 3] rfl (hex0 h rfl)
set_option maxRecDepth 100000 in
set_option maxHeartbeats 4000000 in
theorem o_X4_seek {K : gK} (S : Cx K RX4 cX4_seek 8 3 86) {c0 : Nat} (k0 : kd c0 (10 + 4, 0)) {c1 : Nat} (k1 : kd c1 (10 + 0, 0)) (a2 : Int32) (a3 : Int32) (a4 : Int32) (h : Hp) {o : Hp} (hyp : s_X4_seek c0 c1 a2 a3 a4 h = some o) (F : Rt K none none o) : Go K 0 [(0, .ref (ad K c0)), (1, .ref (ad K c1)), (2, .int a2), (3, .int a3), (4, .int a4)] [] h := by
  unfold s_X4_seek at hyp
  refine g_aload_n (pc := 0) 1 S dX4_seek_0 rfl ?_
  refine g_getR (pc := 1) S dX4_seek_1 fl_X4_25 k1 ?_
  refine g_astore (pc := 4) (lv' := [(5, .ref (ad K (c1 + 1))), (0, .ref (ad K c0)), (1, .ref (ad K c1)), (2, .int a2), (3, .int a3), (4, .int a4)]) S dX4_seek_4 (by decide) rfl ?_
  refine g_aload_n (pc := 6) 1 S dX4_seek_6 rfl ?_
  refine g_lconst (pc := 7) (v := (0 : Int64)) S dX4_seek_7 (by decide) ?_
  refine g_bind hyp (fun y1 hy1 hyp => ?_)
  refine g_callV (pc := 8) (As := [.long (0 : Int64)]) (rest := []) S dX4_seek_8 k0 rfl tw_693 tw_664 tw_665 mw_X4_begin (m_X4_begin k0 (0 : Int64) h hy1) rfl rfl (Nat.le_of_ble_eq_true rfl) (Nat.le_of_ble_eq_true rfl) (Nat.le_of_ble_eq_true rfl) ?_
  refine g_aload_n (pc := 11) 1 S dX4_seek_11 rfl ?_
  refine g_iconst (pc := 12) (v := (0 : Int32)) S dX4_seek_12 (by decide) ?_
  refine g_putZ (pc := 13) S dX4_seek_13 fl_X4_9 k0 (Or.inl rfl) hyp (fun h2 hyp => ?_)
  refine g_aload (pc := 16) 0 S dX4_seek_16 rfl ?_
  refine g_getI (pc := 18) S dX4_seek_18 fl_X4_35 (kf_0_1 k1) ?_
  refine g_lti (C := fun v6_3 => Go K 21 [(5, .ref (ad K (c1 + 1))), (0, .ref (ad K c0)), (1, .ref (ad K c1)), (2, .int a2), (3, .int a3), (4, .int a4)] [.int v6_3] h2) hyp (fun v6_3 hyp => ?_)
  refine g_istore (pc := 21) (lv' := [(6, .int v6_3), (5, .ref (ad K (c1 + 1))), (0, .ref (ad K c0)), (1, .ref (ad K c1)), (2, .int a2), (3, .int a3), (4, .int a4)]) S dX4_seek_21 (by decide) rfl ?_
  refine g_iload (pc := 23) 0 S dX4_seek_23 rfl ?_
  refine g_bipush (pc := 25) (v := (12 : Int32)) S dX4_seek_25 (by decide) ?_
  refine g_icmp_lt (pc := 27) (tgt := 31) S dX4_seek_27 (by decide) hyp (fun hyp => ?_) (fun hyp => ?_)
  · refine g_aload (pc := 31) 1 S dX4_seek_31 rfl ?_
    refine g_iload_n (pc := 33) 4 S dX4_seek_33 rfl ?_
    refine g_iload_n (pc := 34) 5 S dX4_seek_34 rfl ?_
    refine g_iload (pc := 35) 6 S dX4_seek_35 rfl ?_
    refine g_lconst (pc := 37) (v := (0 : Int64)) S dX4_seek_37 (by decide) ?_
    refine g_iconst (pc := 38) (v := (2 : Int32)) S dX4_seek_38 (by decide) ?_
    refine g_bind hyp (fun y4 hy4 hyp => ?_)
    refine g_callV (pc := 39) (As := [.int a2, .int a3, .int a4, .long (0 : Int64), .int (2 : Int32)]) (rest := []) S dX4_seek_39 (kf_0_1 k1) rfl tw_694 tw_526 tw_527 mw_X7_push (m_X7_push (kf_0_1 k1) a2 a3 a4 (0 : Int64) (2 : Int32) h2 hy4) rfl rfl (Nat.le_of_ble_eq_true rfl) (Nat.le_of_ble_eq_true rfl) (Nat.le_of_ble_eq_true rfl) ?_
    refine g_iconst (pc := 42) (v := (1 : Int32)) S dX4_seek_42 (by decide) ?_
    refine g_istore (pc := 43) (lv' := [(7, .int (1 : Int32)), (6, .int v6_3), (5, .ref (ad K (c1 + 1))), (0, .ref (ad K c0)), (1, .ref (ad K c1)), (2, .int a2), (3, .int a3), (4, .int a4)]) S dX4_seek_43 (by decide) rfl ?_
    refine g_bind hyp (fun e10 he10 hyp => ?_)
    refine g_sub [3, 4, 2, 1, 0] rfl (g_loop (f := fun s : Int32 × Hp => s_X4_seek_l45 c0 c1 v6_3 s.1 s.2) (ρ := Hp) (Hd := fun s : Int32 × Hp => Go K 45 [(0, .ref (ad K c0)), (1, .ref (ad K c1)), (5, .ref (ad K (c1 + 1))), (6, .int v6_3), (7, .int s.1)] [] s.2) (Ex := fun e10 => Go K 106 [(5, .ref (ad K (c1 + 1))), (6, .int v6_3)] [] e10) (fun s o h1 h2 h3 => o_X4_seek_l45 S k0 k1 v6_3 s.1 s.2 h1 h2 h3) FUEL _ e10 he10 ?_)
    refine g_aload (pc := 106) 0 S dX4_seek_106 rfl ?_
    refine g_iload (pc := 108) 1 S dX4_seek_108 rfl ?_
    refine g_bind hyp (fun y11 hy11 hyp => ?_)
    refine g_callV (pc := 110) (As := [.int v6_3]) (rest := []) S dX4_seek_110 (kf_0_1 k1) rfl tw_699 tw_613 tw_614 mw_X7_cut (m_X7_cut (kf_0_1 k1) v6_3 e10 hy11) rfl rfl (Nat.le_of_ble_eq_true rfl) (Nat.le_of_ble_eq_true rfl) (Nat.le_of_ble_eq_true rfl) ?_
    have hyp := Option.some.inj hyp
    subst hyp
    exact g_vret (pc := 113) S F dX4_seek_113
  · have hyp := Option.some.inj hyp
    subst hyp
    exact g_vret (pc := 30) S F dX4_seek_30
theorem m_X4_seek {l : Launch} {D : va_G} {cT : Nat → ClassId} {aD : Nat → Nat} {c0 : Nat} (k0 : kd c0 (10 + 4, 0)) {c1 : Nat} (k1 : kd c1 (10 + 0, 0)) (a2 : Int32) (a3 : Int32) (a4 : Int32) (h : Hp) {o : Hp} (hyp : s_X4_seek c0 c1 a2 a3 a4 h = some o) : Ok l D cT aD yX4_seek cX4_seek 8 none 3 86 [.ref (aD c0), .ref (aD c1), .int a2, .int a3, .int a4] h none o :=
  Ok.of (by decide +kernel) rfl (Nat.le_of_ble_eq_true rfl) (fun K e1 e2 e3 e4 S F => by subst e1; exact o_X4_seek S k0 k1 a2 a3 a4 h hyp F)
