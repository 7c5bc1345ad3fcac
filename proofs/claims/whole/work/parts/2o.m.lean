-- BoundProofsModel turnsRight ()Z
noncomputable def s_X10_turnsRight_l4 (c0 : Nat) (a1 : Int64) (a3 : Int32) (h : Hp) : Option ((Int64 × Int32) ⊕ ((Int64) ⊕ (Int32))) :=
  if a3 < (h.1 c0 29) then (ldI h (c0 + 15) 10 a3 fun x1 =>
  ldI h (c0 + 2) 30 (((3 : Int32) * x1) + (1 : Int32)) fun x2 =>
  if x2 = (4 : Int32) then (ldJ h (c0 + 17) 10 a3 fun x3 =>
  ldI h (c0 + 2) 30 (((3 : Int32) * x1) + (2 : Int32)) fun x4 =>
  lt (a1 + (x3 * (x4).toInt64)) fun v1_5 =>
  lt (a3 + (1 : Int32)) fun v3_6 =>
  some (.inl (v1_5, v3_6)))
  else (ldJ h (c0 + 17) 10 a3 fun x7 =>
  if (0 : Int64) < x7 then (some (.inr (.inr (1 : Int32))))
  else (some (.inr (.inr (0 : Int32))))))
  else (some (.inr (.inl a1)))
noncomputable def s_X10_turnsRight (c0 : Nat)  (h : Hp) : Option (Int32) :=
  (iter (fun s : Int64 × Int32 => s_X10_turnsRight_l4 c0 s.1 s.2 h) FUEL ((0 : Int64), (0 : Int32))).bind (Sum.elim (fun t9 => if t9 < (0 : Int64) then (some (1 : Int32))
  else (some (0 : Int32)))
  (fun t10 => some t10))
set_option maxRecDepth 100000 in
set_option maxHeartbeats 4000000 in
theorem o_X10_turnsRight_l4 {K : gK} (S : Cx K RX10 cX10_turnsRight 5 0 0) {c0 : Nat} (k0 : kd c0 (10 + 10, 0)) (a1 : Int64) (a3 : Int32) (h : Hp) {o : (Int64 × Int32) ⊕ ((Int64) ⊕ (Int32))} (hyp : s_X10_turnsRight_l4 c0 a1 a3 h = some o) (hin : ∀ s', o = .inl s' → Go K 4 [(0, .ref (ad K c0)), (1, .long s'.1), (3, .int s'.2)] [] h) (hex0 : ∀ s', o = .inr (.inl s') → Go K 80 [(1, .long s')] [] h) (hret : ∀ x', o = .inr (.inr x') → Rt K (some .boolean) (some (.int x')) h) : Go K 4 [(0, .ref (ad K c0)), (1, .long a1), (3, .int a3)] [] h := by
  unfold s_X10_turnsRight_l4 at hyp
  refine g_iload_n (pc := 4) 2 S dX10_turnsRight_4 rfl ?_
  refine g_aload_n (pc := 5) 0 S dX10_turnsRight_5 rfl ?_
  refine g_getI (pc := 6) S dX10_turnsRight_6 fl_X10_210 k0 ?_
  refine g_icmp_ge (pc := 9) (tgt := 80) S dX10_turnsRight_9 (by decide) hyp (fun hyp => ?_) (fun hyp => ?_)
  · refine g_aload_n (pc := 12) 0 S dX10_turnsRight_12 rfl ?_
    refine g_getR (pc := 13) S dX10_turnsRight_13 fl_X10_57 k0 ?_
    refine g_iload_n (pc := 16) 2 S dX10_turnsRight_16 rfl ?_
    refine g_iald (pc := 17) S dX10_turnsRight_17 (kf_10_15 k0) hyp (fun x1 hyp => ?_)
    refine g_istore (pc := 18) (lv' := [(4, .int x1), (0, .ref (ad K c0)), (1, .long a1), (3, .int a3)]) S dX10_turnsRight_18 (by decide) rfl ?_
    refine g_aload_n (pc := 20) 1 S dX10_turnsRight_20 rfl ?_
    refine g_getR (pc := 21) S dX10_turnsRight_21 fl_X10_17 k0 ?_
    refine g_iconst (pc := 24) (v := (3 : Int32)) S dX10_turnsRight_24 (by decide) ?_
    refine g_iload (pc := 25) 0 S dX10_turnsRight_25 rfl ?_
    refine g_imul (pc := 27) S dX10_turnsRight_27 ?_
    refine g_iconst (pc := 28) (v := (1 : Int32)) S dX10_turnsRight_28 (by decide) ?_
    refine g_iadd (pc := 29) S dX10_turnsRight_29 ?_
    refine g_iald (pc := 30) S dX10_turnsRight_30 (kf_10_2 k0) hyp (fun x2 hyp => ?_)
    refine g_iconst (pc := 31) (v := (4 : Int32)) S dX10_turnsRight_31 (by decide) ?_
    refine g_icmp_eq (pc := 32) (tgt := 52) S dX10_turnsRight_32 (by decide) hyp (fun hyp => ?_) (fun hyp => ?_)
    · refine g_lload_n (pc := 52) 2 S dX10_turnsRight_52 rfl ?_
      refine g_aload_n (pc := 53) 1 S dX10_turnsRight_53 rfl ?_
      refine g_getR (pc := 54) S dX10_turnsRight_54 fl_X10_63 k0 ?_
      refine g_iload_n (pc := 57) 3 S dX10_turnsRight_57 rfl ?_
      refine g_lald (pc := 58) S dX10_turnsRight_58 (kf_10_17 k0) hyp (fun x3 hyp => ?_)
      refine g_aload_n (pc := 59) 1 S dX10_turnsRight_59 rfl ?_
      refine g_getR (pc := 60) S dX10_turnsRight_60 fl_X10_17 k0 ?_
      refine g_iconst (pc := 63) (v := (3 : Int32)) S dX10_turnsRight_63 (by decide) ?_
      refine g_iload (pc := 64) 0 S dX10_turnsRight_64 rfl ?_
      refine g_imul (pc := 66) S dX10_turnsRight_66 ?_
      refine g_iconst (pc := 67) (v := (2 : Int32)) S dX10_turnsRight_67 (by decide) ?_
      refine g_iadd (pc := 68) S dX10_turnsRight_68 ?_
      refine g_iald (pc := 69) S dX10_turnsRight_69 (kf_10_2 k0) hyp (fun x4 hyp => ?_)
      refine g_i2l (pc := 70) S dX10_turnsRight_70 ?_
      refine g_lmul (pc := 71) S dX10_turnsRight_71 ?_
      refine g_ladd (pc := 72) S dX10_turnsRight_72 ?_
      refine g_lti (C := fun v1_5 => Go K 73 [(4, .int x1), (0, .ref (ad K c0)), (1, .long a1), (3, .int a3)] [.long v1_5] h) hyp (fun v1_5 hyp => ?_)
      refine g_lstore_n (pc := 73) (lv' := [(1, .long v1_5), (4, .int x1), (0, .ref (ad K c0)), (3, .int a3)]) S dX10_turnsRight_73 rfl (by decide) rfl ?_
      refine g_iinc (pc := 74) (v := (a3 + (1 : Int32))) (lv' := [(3, .int (a3 + (1 : Int32))), (1, .long v1_5), (4, .int x1), (0, .ref (ad K c0))]) 3 S dX10_turnsRight_74 rfl (by rfl) (by decide) rfl ?_
      refine g_lti (C := fun v3_6 => Go K (74 + 3) [(3, .int v3_6), (1, .long v1_5), (4, .int x1), (0, .ref (ad K c0))] [] h) hyp (fun v3_6 hyp => ?_)
      refine g_goto (pc := 77) (tgt := 4) S dX10_turnsRight_77 (by decide) ?_
      have hyp := Option.some.inj hyp
      subst hyp
      exact g_sub [3, 1, 0] rfl (hin (v1_5, v3_6) rfl)
    · refine g_aload_n (pc := 35) 1 S dX10_turnsRight_35 rfl ?_
      refine g_getR (pc := 36) S dX10_turnsRight_36 fl_X10_63 k0 ?_
      refine g_iload_n (pc := 39) 3 S dX10_turnsRight_39 rfl ?_
      refine g_lald (pc := 40) S dX10_turnsRight_40 (kf_10_17 k0) hyp (fun x7 hyp => ?_)
      refine g_lconst (pc := 41) (v := (0 : Int64)) S dX10_turnsRight_41 (by decide) ?_
      refine g_lcmp_le (pc := 42) (tgt := 50) S dX10_turnsRight_42 dX10_turnsRight_43 (by decide) hyp (fun hyp => ?_) (fun hyp => ?_)
      · refine g_iconst (pc := 46) (v := (1 : Int32)) S dX10_turnsRight_46 (by decide) ?_
        refine g_goto (pc := 47) (tgt := 51) S dX10_turnsRight_47 (by decide) ?_
        have hyp := Option.some.inj hyp
        subst hyp
        exact g_zret (pc := 51) S (hret (1 : Int32) rfl) dX10_turnsRight_51 (Or.inr rfl)
      · refine g_iconst (pc := 50) (v := (0 : Int32)) S dX10_turnsRight_50 (by decide) ?_
        have hyp := Option.some.inj hyp
        subst hyp
        exact g_zret (pc := 51) S (hret (0 : Int32) rfl) dX10_turnsRight_51 (Or.inl rfl)
  · have hyp := Option.some.inj hyp
    subst hyp
    exact g_sub [1] rfl (hex0 a1 rfl)
set_option maxRecDepth 100000 in
set_option maxHeartbeats 4000000 in
theorem o_X10_turnsRight {K : gK} (S : Cx K RX10 cX10_turnsRight 5 0 0) {c0 : Nat} (k0 : kd c0 (10 + 10, 0))  (h : Hp) {o : Int32} (hyp : s_X10_turnsRight c0  h = some o) (F : Rt K (some .boolean) (some (.int o)) h) : Go K 0 [(0, .ref (ad K c0))] [] h := by
  unfold s_X10_turnsRight at hyp
  refine g_lconst (pc := 0) (v := (0 : Int64)) S dX10_turnsRight_0 (by decide) ?_
  refine g_lstore_n (pc := 1) (lv' := [(1, .long (0 : Int64)), (0, .ref (ad K c0))]) S dX10_turnsRight_1 rfl (by decide) rfl ?_
  refine g_iconst (pc := 2) (v := (0 : Int32)) S dX10_turnsRight_2 (by decide) ?_
  refine g_istore_n (pc := 3) (lv' := [(3, .int (0 : Int32)), (1, .long (0 : Int64)), (0, .ref (ad K c0))]) S dX10_turnsRight_3 rfl (by decide) rfl ?_
  refine g_bind hyp (fun e8 he8 hyp => ?_)
  refine g_sub [2, 1, 0] rfl (g_loop (f := fun s : Int64 × Int32 => s_X10_turnsRight_l4 c0 s.1 s.2 h) (ρ := (Int64) ⊕ (Int32)) (Hd := fun s : Int64 × Int32 => Go K 4 [(0, .ref (ad K c0)), (1, .long s.1), (3, .int s.2)] [] h) (Ex := fun e8 => (∀ t, e8 = .inl t → Go K 80 [(1, .long t)] [] h) ∧ (∀ t, e8 = .inr t → Rt K (some .boolean) (some (.int t)) h)) (fun s o h1 h2 h3 => o_X10_turnsRight_l4 S k0 s.1 s.2 h h1 h2 (fun t q => (h3 _ q).1 t rfl) (fun t q => (h3 _ q).2 t rfl)) FUEL _ e8 he8 ?_)
  refine ⟨?_, ?_⟩
  · intro t9 q
    subst q
    try dsimp only [Sum.elim] at hyp
    refine g_lload_n (pc := 80) 0 S dX10_turnsRight_80 rfl ?_
    refine g_lconst (pc := 81) (v := (0 : Int64)) S dX10_turnsRight_81 (by decide) ?_
    refine g_lcmp_ge (pc := 82) (tgt := 90) S dX10_turnsRight_82 dX10_turnsRight_83 (by decide) hyp (fun hyp => ?_) (fun hyp => ?_)
    · refine g_iconst (pc := 86) (v := (1 : Int32)) S dX10_turnsRight_86 (by decide) ?_
      refine g_goto (pc := 87) (tgt := 91) S dX10_turnsRight_87 (by decide) ?_
      have hyp := Option.some.inj hyp
      subst hyp
      exact g_zret (pc := 91) S F dX10_turnsRight_91 (Or.inr rfl)
    · refine g_iconst (pc := 90) (v := (0 : Int32)) S dX10_turnsRight_90 (by decide) ?_
      have hyp := Option.some.inj hyp
      subst hyp
      exact g_zret (pc := 91) S F dX10_turnsRight_91 (Or.inl rfl)
  · intro t10 q
    subst q
    try dsimp only [Sum.elim] at hyp
    have hyp := Option.some.inj hyp
    subst hyp
    exact F
theorem m_X10_turnsRight {l : Launch} {D : va_G} {cT : Nat → ClassId} {aD : Nat → Nat} {c0 : Nat} (k0 : kd c0 (10 + 10, 0))  (h : Hp) {o : Int32} (hyp : s_X10_turnsRight c0  h = some o) : Ok l D cT aD yX10_turnsRight cX10_turnsRight 5 (some .boolean) 0 0 [.ref (aD c0)] h (some (.int o)) h :=
  Ok.of (by decide +kernel) rfl (Nat.le_of_ble_eq_true rfl) (fun K e1 e2 e3 e4 S F => by subst e1; exact o_X10_turnsRight S k0  h hyp F)
-- BoundProofsModel setShares (I)V
noncomputable def s_X10_setShares_l24 (c0 : Nat) (a2 : Int32) (a3 : Int32) (a4 : Int32) (a5 : Int32) (h : Hp) : Option ((Int32) ⊕ (Int32)) :=
  if a5 < (3 : Int32) then (ldJ h (c0 + 16) 30 (((10 : Int32) * a5) + a4) fun x2 =>
  if x2 = (0 : Int64) then (lt (a5 + (1 : Int32)) fun v5_3 =>
  some (.inl v5_3))
  else (some (.inr (a5))))
  else (some (.inr (a5)))
noncomputable def s_X10_setShares_b102 (c0 : Nat) (a2 : Int32) (a3 : Int32) (a4 : Int32) (h : Hp) : Option ((Int32 × Int32 × Int32 × Hp) ⊕ (Int32 × Hp)) :=
  lt (a4 + (1 : Int32)) fun v4_9 =>
  some (.inl (a2, a3, v4_9, h))
noncomputable def s_X10_setShares_b72 (c0 : Nat) (a2 : Int32) (a3 : Int32) (a4 : Int32) (a5 : Int32) (t0 : Int32) (t1 : Int32) (h : Hp) : Option ((Int32 × Int32 × Int32 × Hp) ⊕ (Int32 × Hp)) :=
  stI h (c0 + 18) 10 t1 t0 fun h5 =>
  if a5 < (3 : Int32) then ((s_X10_swapsRows c0 a2 a5 h5).bind fun y6 =>
  (s_X10_clears c0 a2 a4 y6).bind fun y7 =>
  lt (a2 + (1 : Int32)) fun v2_8 =>
  s_X10_setShares_b102 c0 v2_8 a3 a4 y7)
  else (s_X10_setShares_b102 c0 a2 a4 a4 h5)
noncomputable def s_X10_setShares_l12 (c0 : Nat) (a2 : Int32) (a3 : Int32) (a4 : Int32) (h : Hp) : Option ((Int32 × Int32 × Int32 × Hp) ⊕ (Int32 × Hp)) :=
  if a4 < (h.1 c0 29) then ((iter (fun s : Int32 => s_X10_setShares_l24 c0 a2 a3 a4 s h) FUEL a2).bind fun e4 =>
  if e4 < (3 : Int32) then (s_X10_setShares_b72 c0 a2 a3 a4 e4 a2 a4 h)
  else (s_X10_setShares_b72 c0 a2 a3 a4 e4 (-9 : Int32) a4 h))
  else (some (.inr ((a3, h))))
noncomputable def s_X10_setShares_b159 (c0 : Nat) (a3 : Int32) (a6 : Int32) (t0 : Int64) (t1 : Int64) (h : Hp) : Option ((Int64 × Int32) ⊕ (Int64)) :=
  lt (t1 * t0) fun v4_12 =>
  lt (a6 + (1 : Int32)) fun v6_13 =>
  some (.inl (v4_12, v6_13))
noncomputable def s_X10_setShares_l114 (c0 : Nat) (a3 : Int32) (a4 : Int64) (a6 : Int32) (h : Hp) : Option ((Int64 × Int32) ⊕ (Int64)) :=
  if a6 < (h.1 c0 29) then (ldI h (c0 + 18) 10 a6 fun x11 =>
  if x11 = (-9 : Int32) then (s_X10_setShares_b159 c0 a3 a6 (1 : Int64) a4 h)
  else (ldI h (c0 + 18) 10 a6 fun x14 =>
  ldJ h (c0 + 16) 30 (((10 : Int32) * x14) + a6) fun x15 =>
  s_X10_setShares_b159 c0 a3 a6 x15 a4 h))
  else (some (.inr (a4)))
noncomputable def s_X10_setShares_b246 (c0 : Nat) (a3 : Int32) (a4 : Int64) (a6 : Int64) (a8 : Int32) (t0 : Int64) (t1 : Int32) (h : Hp) : Option ((Int64 × Int32 × Hp) ⊕ (Int64 × Hp)) :=
  stJ h (c0 + 17) 10 t1 t0 fun h18 =>
  ldJ h18 (c0 + 17) 10 a8 fun x19 =>
  (s_X10_gcd  a6 x19 h18).bind fun y20 =>
  lt (a8 + (1 : Int32)) fun v8_21 =>
  some (.inl (y20, v8_21, h18))
noncomputable def s_X10_setShares_l174 (c0 : Nat) (a3 : Int32) (a4 : Int64) (a6 : Int64) (a8 : Int32) (h : Hp) : Option ((Int64 × Int32 × Hp) ⊕ (Int64 × Hp)) :=
  if a8 < (h.1 c0 29) then (ldI h (c0 + 18) 10 a8 fun x17 =>
  if x17 = (-9 : Int32) then (s_X10_setShares_b246 c0 a3 a4 a6 a8 a4 a8 h)
  else (ldI h (c0 + 18) 10 a8 fun x22 =>
  ldJ h (c0 + 16) 30 (((10 : Int32) * x22) + a3) fun x23 =>
  ldI h (c0 + 18) 10 a8 fun x24 =>
  ldJ h (c0 + 16) 30 (((10 : Int32) * x24) + a8) fun x25 =>
  nzJ x25 <|
  s_X10_setShares_b246 c0 a3 a4 a6 a8 ((-x23) * (a4 / x25)) a8 h))
  else (some (.inr ((a6, h))))
noncomputable def s_X10_setShares_l287 (c0 : Nat) (a6 : Int64) (a8 : Int32) (h : Hp) : Option ((Int32 × Hp) ⊕ (Hp)) :=
  if a8 < (h.1 c0 29) then (ldJ h (c0 + 17) 10 a8 fun x28 =>
  nzJ a6 <|
  stJ h (c0 + 17) 10 a8 (x28 / a6) fun h29 =>
  lt (a8 + (1 : Int32)) fun v8_30 =>
  some (.inl (v8_30, h29)))
  else (some (.inr (h)))
noncomputable def s_X10_setShares_b282 (c0 : Nat) (t0 : Int64) (h : Hp) : Option (Hp) :=
  (iter (fun s : Int32 × Hp => s_X10_setShares_l287 c0 t0 s.1 s.2) FUEL ((0 : Int32), h)).bind fun e31 =>
  some e31
noncomputable def s_X10_setShares (c0 : Nat) (a1 : Int32) (h : Hp) : Option (Hp) :=
  (s_X10_setTable c0 a1 h).bind fun y1 =>
  (iter (fun s : Int32 × Int32 × Int32 × Hp => s_X10_setShares_l12 c0 s.1 s.2.1 s.2.2.1 s.2.2.2) FUEL ((0 : Int32), (0 : Int32), (0 : Int32), y1)).bind fun e10 =>
  (iter (fun s : Int64 × Int32 => s_X10_setShares_l114 c0 e10.1 s.1 s.2 e10.2) FUEL ((1 : Int64), (0 : Int32))).bind fun e16 =>
  (iter (fun s : Int64 × Int32 × Hp => s_X10_setShares_l174 c0 e10.1 e16 s.1 s.2.1 s.2.2) FUEL ((0 : Int64), (0 : Int32), e10.2)).bind fun e26 =>
  (s_X10_turnsRight c0  e26.2).bind fun y27 =>
  if y27 = 0 then (s_X10_setShares_b282 c0 (-e26.1) e26.2)
  else (s_X10_setShares_b282 c0 e26.1 e26.2)
set_option maxRecDepth 100000 in
set_option maxHeartbeats 4000000 in
theorem o_X10_setShares_l24 {K : gK} (S : Cx K RX10 cX10_setShares 9 2 53) {c0 : Nat} (k0 : kd c0 (10 + 10, 0)) (a2 : Int32) (a3 : Int32) (a4 : Int32) (a5 : Int32) (h : Hp) {o : (Int32) ⊕ (Int32)} (hyp : s_X10_setShares_l24 c0 a2 a3 a4 a5 h = some o) (hin : ∀ s', o = .inl s' → Go K 24 [(0, .ref (ad K c0)), (2, .int a2), (3, .int a3), (4, .int a4), (5, .int s')] [] h) (hex0 : ∀ s', o = .inr (s') → Go K 54 [(0, .ref (ad K c0)), (2, .int a2), (3, .int a3), (4, .int a4), (5, .int s')] [] h) : Go K 24 [(0, .ref (ad K c0)), (2, .int a2), (3, .int a3), (4, .int a4), (5, .int a5)] [] h := by
  unfold s_X10_setShares_l24 at hyp
  refine g_iload (pc := 24) 4 S dX10_setShares_24 rfl ?_
  refine g_iconst (pc := 26) (v := (3 : Int32)) S dX10_setShares_26 (by decide) ?_
  refine g_icmp_ge (pc := 27) (tgt := 54) S dX10_setShares_27 (by decide) hyp (fun hyp => ?_) (fun hyp => ?_)
  · refine g_aload_n (pc := 30) 0 S dX10_setShares_30 rfl ?_
    refine g_getR (pc := 31) S dX10_setShares_31 fl_X10_60 k0 ?_
    refine g_bipush (pc := 34) (v := (10 : Int32)) S dX10_setShares_34 (by decide) ?_
    refine g_iload (pc := 36) 4 S dX10_setShares_36 rfl ?_
    refine g_imul (pc := 38) S dX10_setShares_38 ?_
    refine g_iload (pc := 39) 3 S dX10_setShares_39 rfl ?_
    refine g_iadd (pc := 41) S dX10_setShares_41 ?_
    refine g_lald (pc := 42) S dX10_setShares_42 (kf_10_16 k0) hyp (fun x2 hyp => ?_)
    refine g_lconst (pc := 43) (v := (0 : Int64)) S dX10_setShares_43 (by decide) ?_
    refine g_lcmp_ne (pc := 44) (tgt := 54) S dX10_setShares_44 dX10_setShares_45 (by decide) hyp (fun hyp => ?_) (fun hyp => ?_)
    · refine g_iinc (pc := 48) (v := (a5 + (1 : Int32))) (lv' := [(5, .int (a5 + (1 : Int32))), (0, .ref (ad K c0)), (2, .int a2), (3, .int a3), (4, .int a4)]) 4 S dX10_setShares_48 rfl (by rfl) (by decide) rfl ?_
      refine g_lti (C := fun v5_3 => Go K (48 + 3) [(5, .int v5_3), (0, .ref (ad K c0)), (2, .int a2), (3, .int a3), (4, .int a4)] [] h) hyp (fun v5_3 hyp => ?_)
      refine g_goto (pc := 51) (tgt := 24) S dX10_setShares_51 (by decide) ?_
      have hyp := Option.some.inj hyp
      subst hyp
      exact g_sub [1, 2, 3, 4, 0] rfl (hin v5_3 rfl)
    · have hyp := Option.some.inj hyp
      subst hyp
      exact g_sub [0, 1, 2, 3, 4] rfl (hex0 a5 rfl)
  · have hyp := Option.some.inj hyp
    subst hyp
    exact g_sub [0, 1, 2, 3, 4] rfl (hex0 a5 rfl)
set_option maxRecDepth 100000 in
set_option maxHeartbeats 4000000 in
theorem o_X10_setShares_b102 {K : gK} (S : Cx K RX10 cX10_setShares 9 2 53) {c0 : Nat} (k0 : kd c0 (10 + 10, 0)) (a2 : Int32) (a3 : Int32) (a4 : Int32) (h : Hp) {o : (Int32 × Int32 × Int32 × Hp) ⊕ (Int32 × Hp)} (hyp : s_X10_setShares_b102 c0 a2 a3 a4 h = some o) (hin : ∀ s', o = .inl s' → Go K 12 [(0, .ref (ad K c0)), (2, .int s'.1), (3, .int s'.2.1), (4, .int s'.2.2.1)] [] s'.2.2.2) (hex0 : ∀ s', o = .inr (s') → Go K 108 [(0, .ref (ad K c0)), (3, .int s'.1)] [] s'.2) : Go K 102 [(0, .ref (ad K c0)), (2, .int a2), (3, .int a3), (4, .int a4)] [] h := by
  unfold s_X10_setShares_b102 at hyp
  refine g_iinc (pc := 102) (v := (a4 + (1 : Int32))) (lv' := [(4, .int (a4 + (1 : Int32))), (0, .ref (ad K c0)), (2, .int a2), (3, .int a3)]) 3 S dX10_setShares_102 rfl (by rfl) (by decide) rfl ?_
  refine g_lti (C := fun v4_9 => Go K (102 + 3) [(4, .int v4_9), (0, .ref (ad K c0)), (2, .int a2), (3, .int a3)] [] h) hyp (fun v4_9 hyp => ?_)
  refine g_goto (pc := 105) (tgt := 12) S dX10_setShares_105 (by decide) ?_
  have hyp := Option.some.inj hyp
  subst hyp
  exact g_sub [1, 2, 3, 0] rfl (hin (a2, a3, v4_9, h) rfl)
set_option maxRecDepth 100000 in
set_option maxHeartbeats 4000000 in
theorem o_X10_setShares_b72 {K : gK} (S : Cx K RX10 cX10_setShares 9 2 53) {c0 : Nat} (k0 : kd c0 (10 + 10, 0)) (a2 : Int32) (a3 : Int32) (a4 : Int32) (a5 : Int32) (t0 : Int32) (t1 : Int32) (h : Hp) {o : (Int32 × Int32 × Int32 × Hp) ⊕ (Int32 × Hp)} (hyp : s_X10_setShares_b72 c0 a2 a3 a4 a5 t0 t1 h = some o) (hin : ∀ s', o = .inl s' → Go K 12 [(0, .ref (ad K c0)), (2, .int s'.1), (3, .int s'.2.1), (4, .int s'.2.2.1)] [] s'.2.2.2) (hex0 : ∀ s', o = .inr (s') → Go K 108 [(0, .ref (ad K c0)), (3, .int s'.1)] [] s'.2) : Go K 72 [(0, .ref (ad K c0)), (2, .int a2), (3, .int a3), (4, .int a4), (5, .int a5)] [.int t0, .int t1, .ref (ad K (c0 + 18))] h := by
  unfold s_X10_setShares_b72 at hyp
  refine g_iast (pc := 72) S dX10_setShares_72 (kf_10_18 k0) hyp (fun h5 hyp => ?_)
  refine g_iload (pc := 73) 4 S dX10_setShares_73 rfl ?_
  refine g_iconst (pc := 75) (v := (3 : Int32)) S dX10_setShares_75 (by decide) ?_
  refine g_icmp_ge (pc := 76) (tgt := 99) S dX10_setShares_76 (by decide) hyp (fun hyp => ?_) (fun hyp => ?_)
  · refine g_aload_n (pc := 79) 0 S dX10_setShares_79 rfl ?_
    refine g_iload_n (pc := 80) 1 S dX10_setShares_80 rfl ?_
    refine g_iload (pc := 81) 4 S dX10_setShares_81 rfl ?_
    refine g_bind hyp (fun y6 hy6 hyp => ?_)
    refine g_callV (pc := 83) (As := [.int a2, .int a5]) (rest := []) S dX10_setShares_83 k0 rfl tw_1100 tw_1101 tw_53 mw_X10_swapsRows (m_X10_swapsRows k0 a2 a5 h5 hy6) rfl rfl (Nat.le_of_ble_eq_true rfl) (Nat.le_of_ble_eq_true rfl) (Nat.le_of_ble_eq_true rfl) ?_
    refine g_aload_n (pc := 86) 0 S dX10_setShares_86 rfl ?_
    refine g_iload_n (pc := 87) 1 S dX10_setShares_87 rfl ?_
    refine g_iload (pc := 88) 3 S dX10_setShares_88 rfl ?_
    refine g_bind hyp (fun y7 hy7 hyp => ?_)
    refine g_callV (pc := 90) (As := [.int a2, .int a4]) (rest := []) S dX10_setShares_90 k0 rfl tw_1103 tw_1104 tw_54 mw_X10_clears (m_X10_clears k0 a2 a4 y6 hy7) rfl rfl (Nat.le_of_ble_eq_true rfl) (Nat.le_of_ble_eq_true rfl) (Nat.le_of_ble_eq_true rfl) ?_
    refine g_iinc (pc := 93) (v := (a2 + (1 : Int32))) (lv' := [(2, .int (a2 + (1 : Int32))), (0, .ref (ad K c0)), (3, .int a3), (4, .int a4), (5, .int a5)]) 1 S dX10_setShares_93 rfl (by rfl) (by decide) rfl ?_
    refine g_lti (C := fun v2_8 => Go K (93 + 3) [(2, .int v2_8), (0, .ref (ad K c0)), (3, .int a3), (4, .int a4), (5, .int a5)] [] y7) hyp (fun v2_8 hyp => ?_)
    refine g_goto (pc := 96) (tgt := 102) S dX10_setShares_96 (by decide) ?_
    exact g_sub [1, 0, 2, 3] rfl (o_X10_setShares_b102 S k0 v2_8 a3 a4 y7 hyp hin hex0)
  · refine g_iload (pc := 99) 3 S dX10_setShares_99 rfl ?_
    refine g_istore_n (pc := 101) (lv' := [(3, .int a4), (0, .ref (ad K c0)), (2, .int a2), (4, .int a4), (5, .int a5)]) S dX10_setShares_101 rfl (by decide) rfl ?_
    exact g_sub [1, 2, 0, 3] rfl (o_X10_setShares_b102 S k0 a2 a4 a4 h5 hyp hin hex0)
set_option maxRecDepth 100000 in
set_option maxHeartbeats 4000000 in
theorem o_X10_setShares_l12 {K : gK} (S : Cx K RX10 cX10_setShares 9 2 53) {c0 : Nat} (k0 : kd c0 (10 + 10, 0)) (a2 : Int32) (a3 : Int32) (a4 : Int32) (h : Hp) {o : (Int32 × Int32 × Int32 × Hp) ⊕ (Int32 × Hp)} (hyp : s_X10_setShares_l12 c0 a2 a3 a4 h = some o) (hin : ∀ s', o = .inl s' → Go K 12 [(0, .ref (ad K c0)), (2, .int s'.1), (3, .int s'.2.1), (4, .int s'.2.2.1)] [] s'.2.2.2) (hex0 : ∀ s', o = .inr (s') → Go K 108 [(0, .ref (ad K c0)), (3, .int s'.1)] [] s'.2) : Go K 12 [(0, .ref (ad K c0)), (2, .int a2), (3, .int a3), (4, .int a4)] [] h := by
  unfold s_X10_setShares_l12 at hyp
  refine g_iload (pc := 12) 3 S dX10_setShares_12 rfl ?_
  refine g_aload_n (pc := 14) 0 S dX10_setShares_14 rfl ?_
  refine g_getI (pc := 15) S dX10_setShares_15 fl_X10_210 k0 ?_
  refine g_icmp_ge (pc := 18) (tgt := 108) S dX10_setShares_18 (by decide) hyp (fun hyp => ?_) (fun hyp => ?_)
  · refine g_iload_n (pc := 21) 1 S dX10_setShares_21 rfl ?_
    refine g_istore (pc := 22) (lv' := [(5, .int a2), (0, .ref (ad K c0)), (2, .int a2), (3, .int a3), (4, .int a4)]) S dX10_setShares_22 (by decide) rfl ?_
    refine g_bind hyp (fun e4 he4 hyp => ?_)
    refine g_sub [1, 2, 3, 4, 0] rfl (g_loop (f := fun s : Int32 => s_X10_setShares_l24 c0 a2 a3 a4 s h) (ρ := Int32) (Hd := fun s : Int32 => Go K 24 [(0, .ref (ad K c0)), (2, .int a2), (3, .int a3), (4, .int a4), (5, .int s)] [] h) (Ex := fun e4 => Go K 54 [(0, .ref (ad K c0)), (2, .int a2), (3, .int a3), (4, .int a4), (5, .int e4)] [] h) (fun s o h1 h2 h3 => o_X10_setShares_l24 S k0 a2 a3 a4 s h h1 h2 h3) FUEL _ e4 he4 ?_)
    refine g_aload_n (pc := 54) 0 S dX10_setShares_54 rfl ?_
    refine g_getR (pc := 55) S dX10_setShares_55 fl_X10_66 k0 ?_
    refine g_iload (pc := 58) 3 S dX10_setShares_58 rfl ?_
    refine g_iload (pc := 60) 4 S dX10_setShares_60 rfl ?_
    refine g_iconst (pc := 62) (v := (3 : Int32)) S dX10_setShares_62 (by decide) ?_
    refine g_icmp_ge (pc := 63) (tgt := 70) S dX10_setShares_63 (by decide) hyp (fun hyp => ?_) (fun hyp => ?_)
    · refine g_iload_n (pc := 66) 1 S dX10_setShares_66 rfl ?_
      refine g_goto (pc := 67) (tgt := 72) S dX10_setShares_67 (by decide) ?_
      exact g_sub [0, 1, 2, 3, 4] rfl (o_X10_setShares_b72 S k0 a2 a3 a4 e4 a2 a4 h hyp hin hex0)
    · refine g_bipush (pc := 70) (v := (-9 : Int32)) S dX10_setShares_70 (by decide) ?_
      exact g_sub [0, 1, 2, 3, 4] rfl (o_X10_setShares_b72 S k0 a2 a3 a4 e4 (-9 : Int32) a4 h hyp hin hex0)
  · have hyp := Option.some.inj hyp
    subst hyp
    exact g_sub [0, 2] rfl (hex0 (a3, h) rfl)
set_option maxRecDepth 100000 in
set_option maxHeartbeats 4000000 in
theorem o_X10_setShares_b159 {K : gK} (S : Cx K RX10 cX10_setShares 9 2 53) {c0 : Nat} (k0 : kd c0 (10 + 10, 0)) (a3 : Int32) (a6 : Int32) (t0 : Int64) (t1 : Int64) (h : Hp) {o : (Int64 × Int32) ⊕ (Int64)} (hyp : s_X10_setShares_b159 c0 a3 a6 t0 t1 h = some o) (hin : ∀ s', o = .inl s' → Go K 114 [(0, .ref (ad K c0)), (3, .int a3), (4, .long s'.1), (6, .int s'.2)] [] h) (hex0 : ∀ s', o = .inr (s') → Go K 168 [(0, .ref (ad K c0)), (3, .int a3), (4, .long s')] [] h) : Go K 159 [(0, .ref (ad K c0)), (3, .int a3), (6, .int a6)] [.long t0, .long t1] h := by
  unfold s_X10_setShares_b159 at hyp
  refine g_lmul (pc := 159) S dX10_setShares_159 ?_
  refine g_lti (C := fun v4_12 => Go K 160 [(0, .ref (ad K c0)), (3, .int a3), (6, .int a6)] [.long v4_12] h) hyp (fun v4_12 hyp => ?_)
  refine g_lstore (pc := 160) (lv' := [(4, .long v4_12), (0, .ref (ad K c0)), (3, .int a3), (6, .int a6)]) S dX10_setShares_160 (by decide) rfl ?_
  refine g_iinc (pc := 162) (v := (a6 + (1 : Int32))) (lv' := [(6, .int (a6 + (1 : Int32))), (4, .long v4_12), (0, .ref (ad K c0)), (3, .int a3)]) 3 S dX10_setShares_162 rfl (by rfl) (by decide) rfl ?_
  refine g_lti (C := fun v6_13 => Go K (162 + 3) [(6, .int v6_13), (4, .long v4_12), (0, .ref (ad K c0)), (3, .int a3)] [] h) hyp (fun v6_13 hyp => ?_)
  refine g_goto (pc := 165) (tgt := 114) S dX10_setShares_165 (by decide) ?_
  have hyp := Option.some.inj hyp
  subst hyp
  exact g_sub [2, 3, 1, 0] rfl (hin (v4_12, v6_13) rfl)
set_option maxRecDepth 100000 in
set_option maxHeartbeats 4000000 in
theorem o_X10_setShares_l114 {K : gK} (S : Cx K RX10 cX10_setShares 9 2 53) {c0 : Nat} (k0 : kd c0 (10 + 10, 0)) (a3 : Int32) (a4 : Int64) (a6 : Int32) (h : Hp) {o : (Int64 × Int32) ⊕ (Int64)} (hyp : s_X10_setShares_l114 c0 a3 a4 a6 h = some o) (hin : ∀ s', o = .inl s' → Go K 114 [(0, .ref (ad K c0)), (3, .int a3), (4, .long s'.1), (6, .int s'.2)] [] h) (hex0 : ∀ s', o = .inr (s') → Go K 168 [(0, .ref (ad K c0)), (3, .int a3), (4, .long s')] [] h) : Go K 114 [(0, .ref (ad K c0)), (3, .int a3), (4, .long a4), (6, .int a6)] [] h := by
  unfold s_X10_setShares_l114 at hyp
  refine g_iload (pc := 114) 3 S dX10_setShares_114 rfl ?_
  refine g_aload_n (pc := 116) 0 S dX10_setShares_116 rfl ?_
  refine g_getI (pc := 117) S dX10_setShares_117 fl_X10_210 k0 ?_
  refine g_icmp_ge (pc := 120) (tgt := 168) S dX10_setShares_120 (by decide) hyp (fun hyp => ?_) (fun hyp => ?_)
  · refine g_lload (pc := 123) 2 S dX10_setShares_123 rfl ?_
    refine g_aload_n (pc := 125) 0 S dX10_setShares_125 rfl ?_
    refine g_getR (pc := 126) S dX10_setShares_126 fl_X10_66 k0 ?_
    refine g_iload (pc := 129) 3 S dX10_setShares_129 rfl ?_
    refine g_iald (pc := 131) S dX10_setShares_131 (kf_10_18 k0) hyp (fun x11 hyp => ?_)
    refine g_bipush (pc := 132) (v := (-9 : Int32)) S dX10_setShares_132 (by decide) ?_
    refine g_icmp_ne (pc := 134) (tgt := 141) S dX10_setShares_134 (by decide) hyp (fun hyp => ?_) (fun hyp => ?_)
    · refine g_lconst (pc := 137) (v := (1 : Int64)) S dX10_setShares_137 (by decide) ?_
      refine g_goto (pc := 138) (tgt := 159) S dX10_setShares_138 (by decide) ?_
      exact g_sub [0, 1, 3] rfl (o_X10_setShares_b159 S k0 a3 a6 (1 : Int64) a4 h hyp hin hex0)
    · refine g_aload_n (pc := 141) 0 S dX10_setShares_141 rfl ?_
      refine g_getR (pc := 142) S dX10_setShares_142 fl_X10_60 k0 ?_
      refine g_bipush (pc := 145) (v := (10 : Int32)) S dX10_setShares_145 (by decide) ?_
      refine g_aload_n (pc := 147) 0 S dX10_setShares_147 rfl ?_
      refine g_getR (pc := 148) S dX10_setShares_148 fl_X10_66 k0 ?_
      refine g_iload (pc := 151) 3 S dX10_setShares_151 rfl ?_
      refine g_iald (pc := 153) S dX10_setShares_153 (kf_10_18 k0) hyp (fun x14 hyp => ?_)
      refine g_imul (pc := 154) S dX10_setShares_154 ?_
      refine g_iload (pc := 155) 3 S dX10_setShares_155 rfl ?_
      refine g_iadd (pc := 157) S dX10_setShares_157 ?_
      refine g_lald (pc := 158) S dX10_setShares_158 (kf_10_16 k0) hyp (fun x15 hyp => ?_)
      exact g_sub [0, 1, 3] rfl (o_X10_setShares_b159 S k0 a3 a6 x15 a4 h hyp hin hex0)
  · have hyp := Option.some.inj hyp
    subst hyp
    exact g_sub [0, 1, 2] rfl (hex0 a4 rfl)
set_option maxRecDepth 100000 in
set_option maxHeartbeats 4000000 in
theorem o_X10_setShares_b246 {K : gK} (S : Cx K RX10 cX10_setShares 9 2 53) {c0 : Nat} (k0 : kd c0 (10 + 10, 0)) (a3 : Int32) (a4 : Int64) (a6 : Int64) (a8 : Int32) (t0 : Int64) (t1 : Int32) (h : Hp) {o : (Int64 × Int32 × Hp) ⊕ (Int64 × Hp)} (hyp : s_X10_setShares_b246 c0 a3 a4 a6 a8 t0 t1 h = some o) (hin : ∀ s', o = .inl s' → Go K 174 [(0, .ref (ad K c0)), (3, .int a3), (4, .long a4), (6, .long s'.1), (8, .int s'.2.1)] [] s'.2.2) (hex0 : ∀ s', o = .inr (s') → Go K 267 [(0, .ref (ad K c0)), (6, .long s'.1)] [] s'.2) : Go K 246 [(0, .ref (ad K c0)), (3, .int a3), (4, .long a4), (6, .long a6), (8, .int a8)] [.long t0, .int t1, .ref (ad K (c0 + 17))] h := by
  unfold s_X10_setShares_b246 at hyp
  refine g_last (pc := 246) S dX10_setShares_246 (kf_10_17 k0) hyp (fun h18 hyp => ?_)
  refine g_lload (pc := 247) 3 S dX10_setShares_247 rfl ?_
  refine g_aload_n (pc := 249) 0 S dX10_setShares_249 rfl ?_
  refine g_getR (pc := 250) S dX10_setShares_250 fl_X10_63 k0 ?_
  refine g_iload (pc := 253) 4 S dX10_setShares_253 rfl ?_
  refine g_lald (pc := 255) S dX10_setShares_255 (kf_10_17 k0) hyp (fun x19 hyp => ?_)
  refine g_bind hyp (fun y20 hy20 hyp => ?_)
  refine g_callS (pc := 256) (As := [.long a6, .long x19]) (rest := []) S dX10_setShares_256 tw_1106 tw_1107 mw_X10_gcd (m_X10_gcd  a6 x19 h18 hy20) rfl rfl (Nat.le_of_ble_eq_true rfl) (Nat.le_of_ble_eq_true rfl) (Nat.le_of_ble_eq_true rfl) ?_
  refine g_lstore (pc := 259) (lv' := [(6, .long y20), (0, .ref (ad K c0)), (3, .int a3), (4, .long a4), (8, .int a8)]) S dX10_setShares_259 (by decide) rfl ?_
  refine g_iinc (pc := 261) (v := (a8 + (1 : Int32))) (lv' := [(8, .int (a8 + (1 : Int32))), (6, .long y20), (0, .ref (ad K c0)), (3, .int a3), (4, .long a4)]) 4 S dX10_setShares_261 rfl (by rfl) (by decide) rfl ?_
  refine g_lti (C := fun v8_21 => Go K (261 + 3) [(8, .int v8_21), (6, .long y20), (0, .ref (ad K c0)), (3, .int a3), (4, .long a4)] [] h18) hyp (fun v8_21 hyp => ?_)
  refine g_goto (pc := 264) (tgt := 174) S dX10_setShares_264 (by decide) ?_
  have hyp := Option.some.inj hyp
  subst hyp
  exact g_sub [2, 3, 4, 1, 0] rfl (hin (y20, v8_21, h18) rfl)
set_option maxRecDepth 100000 in
set_option maxHeartbeats 4000000 in
theorem o_X10_setShares_l174 {K : gK} (S : Cx K RX10 cX10_setShares 9 2 53) {c0 : Nat} (k0 : kd c0 (10 + 10, 0)) (a3 : Int32) (a4 : Int64) (a6 : Int64) (a8 : Int32) (h : Hp) {o : (Int64 × Int32 × Hp) ⊕ (Int64 × Hp)} (hyp : s_X10_setShares_l174 c0 a3 a4 a6 a8 h = some o) (hin : ∀ s', o = .inl s' → Go K 174 [(0, .ref (ad K c0)), (3, .int a3), (4, .long a4), (6, .long s'.1), (8, .int s'.2.1)] [] s'.2.2) (hex0 : ∀ s', o = .inr (s') → Go K 267 [(0, .ref (ad K c0)), (6, .long s'.1)] [] s'.2) : Go K 174 [(0, .ref (ad K c0)), (3, .int a3), (4, .long a4), (6, .long a6), (8, .int a8)] [] h := by
  unfold s_X10_setShares_l174 at hyp
  refine g_iload (pc := 174) 4 S dX10_setShares_174 rfl ?_
  refine g_aload_n (pc := 176) 0 S dX10_setShares_176 rfl ?_
  refine g_getI (pc := 177) S dX10_setShares_177 fl_X10_210 k0 ?_
  refine g_icmp_ge (pc := 180) (tgt := 267) S dX10_setShares_180 (by decide) hyp (fun hyp => ?_) (fun hyp => ?_)
  · refine g_aload_n (pc := 183) 0 S dX10_setShares_183 rfl ?_
    refine g_getR (pc := 184) S dX10_setShares_184 fl_X10_63 k0 ?_
    refine g_iload (pc := 187) 4 S dX10_setShares_187 rfl ?_
    refine g_aload_n (pc := 189) 0 S dX10_setShares_189 rfl ?_
    refine g_getR (pc := 190) S dX10_setShares_190 fl_X10_66 k0 ?_
    refine g_iload (pc := 193) 4 S dX10_setShares_193 rfl ?_
    refine g_iald (pc := 195) S dX10_setShares_195 (kf_10_18 k0) hyp (fun x17 hyp => ?_)
    refine g_bipush (pc := 196) (v := (-9 : Int32)) S dX10_setShares_196 (by decide) ?_
    refine g_icmp_ne (pc := 198) (tgt := 206) S dX10_setShares_198 (by decide) hyp (fun hyp => ?_) (fun hyp => ?_)
    · refine g_lload (pc := 201) 2 S dX10_setShares_201 rfl ?_
      refine g_goto (pc := 203) (tgt := 246) S dX10_setShares_203 (by decide) ?_
      exact g_sub [0, 1, 2, 3, 4] rfl (o_X10_setShares_b246 S k0 a3 a4 a6 a8 a4 a8 h hyp hin hex0)
    · refine g_aload_n (pc := 206) 0 S dX10_setShares_206 rfl ?_
      refine g_getR (pc := 207) S dX10_setShares_207 fl_X10_60 k0 ?_
      refine g_bipush (pc := 210) (v := (10 : Int32)) S dX10_setShares_210 (by decide) ?_
      refine g_aload_n (pc := 212) 0 S dX10_setShares_212 rfl ?_
      refine g_getR (pc := 213) S dX10_setShares_213 fl_X10_66 k0 ?_
      refine g_iload (pc := 216) 4 S dX10_setShares_216 rfl ?_
      refine g_iald (pc := 218) S dX10_setShares_218 (kf_10_18 k0) hyp (fun x22 hyp => ?_)
      refine g_imul (pc := 219) S dX10_setShares_219 ?_
      refine g_iload_n (pc := 220) 1 S dX10_setShares_220 rfl ?_
      refine g_iadd (pc := 221) S dX10_setShares_221 ?_
      refine g_lald (pc := 222) S dX10_setShares_222 (kf_10_16 k0) hyp (fun x23 hyp => ?_)
      refine g_lneg (pc := 223) S dX10_setShares_223 ?_
      refine g_lload (pc := 224) 2 S dX10_setShares_224 rfl ?_
      refine g_aload_n (pc := 226) 0 S dX10_setShares_226 rfl ?_
      refine g_getR (pc := 227) S dX10_setShares_227 fl_X10_60 k0 ?_
      refine g_bipush (pc := 230) (v := (10 : Int32)) S dX10_setShares_230 (by decide) ?_
      refine g_aload_n (pc := 232) 0 S dX10_setShares_232 rfl ?_
      refine g_getR (pc := 233) S dX10_setShares_233 fl_X10_66 k0 ?_
      refine g_iload (pc := 236) 4 S dX10_setShares_236 rfl ?_
      refine g_iald (pc := 238) S dX10_setShares_238 (kf_10_18 k0) hyp (fun x24 hyp => ?_)
      refine g_imul (pc := 239) S dX10_setShares_239 ?_
      refine g_iload (pc := 240) 4 S dX10_setShares_240 rfl ?_
      refine g_iadd (pc := 242) S dX10_setShares_242 ?_
      refine g_lald (pc := 243) S dX10_setShares_243 (kf_10_16 k0) hyp (fun x25 hyp => ?_)
      refine g_nzJ hyp (fun hz hyp => ?_)
      refine g_ldiv (pc := 244) S dX10_setShares_244 hz ?_
      refine g_lmul (pc := 245) S dX10_setShares_245 ?_
      exact g_sub [0, 1, 2, 3, 4] rfl (o_X10_setShares_b246 S k0 a3 a4 a6 a8 ((-x23) * (a4 / x25)) a8 h hyp hin hex0)
  · have hyp := Option.some.inj hyp
    subst hyp
    exact g_sub [0, 3] rfl (hex0 (a6, h) rfl)
set_option maxRecDepth 100000 in
set_option maxHeartbeats 4000000 in
theorem o_X10_setShares_l287 {K : gK} (S : Cx K RX10 cX10_setShares 9 2 53) {c0 : Nat} (k0 : kd c0 (10 + 10, 0)) (a6 : Int64) (a8 : Int32) (h : Hp) {o : (Int32 × Hp) ⊕ (Hp)} (hyp : s_X10_setShares_l287 c0 a6 a8 h = some o) (hin : ∀ s', o = .inl s' → Go K 287 [(0, .ref (ad K c0)), (6, .long a6), (8, .int s'.1)] [] s'.2) (hex0 : ∀ s', o = .inr (s') → Go K 314 [] [] s') : Go K 287 [(0, .ref (ad K c0)), (6, .long a6), (8, .int a8)] [] h := by
  unfold s_X10_setShares_l287 at hyp
  refine g_iload (pc := 287) 2 S dX10_setShares_287 rfl ?_
  refine g_aload_n (pc := 289) 0 S dX10_setShares_289 rfl ?_
  refine g_getI (pc := 290) S dX10_setShares_290 fl_X10_210 k0 ?_
  refine g_icmp_ge (pc := 293) (tgt := 314) S dX10_setShares_293 (by decide) hyp (fun hyp => ?_) (fun hyp => ?_)
  · refine g_aload_n (pc := 296) 0 S dX10_setShares_296 rfl ?_
    refine g_getR (pc := 297) S dX10_setShares_297 fl_X10_63 k0 ?_
    refine g_iload (pc := 300) 2 S dX10_setShares_300 rfl ?_
    refine g_dup2 (pc := 302) S dX10_setShares_302 rfl rfl ?_
    refine g_lald (pc := 303) S dX10_setShares_303 (kf_10_17 k0) hyp (fun x28 hyp => ?_)
    refine g_lload (pc := 304) 1 S dX10_setShares_304 rfl ?_
    refine g_nzJ hyp (fun hz hyp => ?_)
    refine g_ldiv (pc := 306) S dX10_setShares_306 hz ?_
    refine g_last (pc := 307) S dX10_setShares_307 (kf_10_17 k0) hyp (fun h29 hyp => ?_)
    refine g_iinc (pc := 308) (v := (a8 + (1 : Int32))) (lv' := [(8, .int (a8 + (1 : Int32))), (0, .ref (ad K c0)), (6, .long a6)]) 2 S dX10_setShares_308 rfl (by rfl) (by decide) rfl ?_
    refine g_lti (C := fun v8_30 => Go K (308 + 3) [(8, .int v8_30), (0, .ref (ad K c0)), (6, .long a6)] [] h29) hyp (fun v8_30 hyp => ?_)
    refine g_goto (pc := 311) (tgt := 287) S dX10_setShares_311 (by decide) ?_
    have hyp := Option.some.inj hyp
    subst hyp
    exact g_sub [1, 2, 0] rfl (hin (v8_30, h29) rfl)
  · have hyp := Option.some.inj hyp
    subst hyp
    exact g_sub [] rfl (hex0 h rfl)
set_option maxRecDepth 100000 in
set_option maxHeartbeats 4000000 in
theorem o_X10_setShares_b282 {K : gK} (S : Cx K RX10 cX10_setShares 9 2 53) {c0 : Nat} (k0 : kd c0 (10 + 10, 0)) (t0 : Int64) (h : Hp) {o : Hp} (hyp : s_X10_setShares_b282 c0 t0 h = some o) (F : Rt K none none o) : Go K 282 [(0, .ref (ad K c0))] [.long t0] h := by
  unfold s_X10_setShares_b282 at hyp
  refine g_lstore (pc := 282) (lv' := [(6, .long t0), (0, .ref (ad K c0))]) S dX10_setShares_282 (by decide) rfl ?_
  refine g_iconst (pc := 284) (v := (0 : Int32)) S dX10_setShares_284 (by decide) ?_
  refine g_istore (pc := 285) (lv' := [(8, .int (0 : Int32)), (6, .long t0), (0, .ref (ad K c0))]) S dX10_setShares_285 (by decide) rfl ?_
  refine g_bind hyp (fun e31 he31 hyp => ?_)
  refine g_sub [2, 1, 0] rfl (g_loop (f := fun s : Int32 × Hp => s_X10_setShares_l287 c0 t0 s.1 s.2) (ρ := Hp) (Hd := fun s : Int32 × Hp => Go K 287 [(0, .ref (ad K c0)), (6, .long t0), (8, .int s.1)] [] s.2) (Ex := fun e31 => Go K 314 [] [] e31) (fun s o h1 h2 h3 => o_X10_setShares_l287 S k0 t0 s.1 s.2 h1 h2 h3) FUEL _ e31 he31 ?_)
  have hyp := Option.some.inj hyp
  subst hyp
  exact g_vret (pc := 314) S F dX10_setShares_314
set_option maxRecDepth 100000 in
set_option maxHeartbeats 4000000 in
theorem o_X10_setShares {K : gK} (S : Cx K RX10 cX10_setShares 9 2 53) {c0 : Nat} (k0 : kd c0 (10 + 10, 0)) (a1 : Int32) (h : Hp) {o : Hp} (hyp : s_X10_setShares c0 a1 h = some o) (F : Rt K none none o) : Go K 0 [(0, .ref (ad K c0)), (1, .int a1)] [] h := by
  unfold s_X10_setShares at hyp
  refine g_aload_n (pc := 0) 0 S dX10_setShares_0 rfl ?_
  refine g_iload_n (pc := 1) 1 S dX10_setShares_1 rfl ?_
  refine g_bind hyp (fun y1 hy1 hyp => ?_)
  refine g_callV (pc := 2) (As := [.int a1]) (rest := []) S dX10_setShares_2 k0 rfl tw_1094 tw_1095 tw_51 mw_X10_setTable (m_X10_setTable k0 a1 h hy1) rfl rfl (Nat.le_of_ble_eq_true rfl) (Nat.le_of_ble_eq_true rfl) (Nat.le_of_ble_eq_true rfl) ?_
  refine g_iconst (pc := 5) (v := (0 : Int32)) S dX10_setShares_5 (by decide) ?_
  refine g_istore_n (pc := 6) (lv' := [(2, .int (0 : Int32)), (0, .ref (ad K c0)), (1, .int a1)]) S dX10_setShares_6 rfl (by decide) rfl ?_
  refine g_iconst (pc := 7) (v := (0 : Int32)) S dX10_setShares_7 (by decide) ?_
  refine g_istore_n (pc := 8) (lv' := [(3, .int (0 : Int32)), (2, .int (0 : Int32)), (0, .ref (ad K c0)), (1, .int a1)]) S dX10_setShares_8 rfl (by decide) rfl ?_
  refine g_iconst (pc := 9) (v := (0 : Int32)) S dX10_setShares_9 (by decide) ?_
  refine g_istore (pc := 10) (lv' := [(4, .int (0 : Int32)), (3, .int (0 : Int32)), (2, .int (0 : Int32)), (0, .ref (ad K c0)), (1, .int a1)]) S dX10_setShares_10 (by decide) rfl ?_
  refine g_bind hyp (fun e10 he10 hyp => ?_)
  refine g_sub [3, 2, 1, 0] rfl (g_loop (f := fun s : Int32 × Int32 × Int32 × Hp => s_X10_setShares_l12 c0 s.1 s.2.1 s.2.2.1 s.2.2.2) (ρ := Int32 × Hp) (Hd := fun s : Int32 × Int32 × Int32 × Hp => Go K 12 [(0, .ref (ad K c0)), (2, .int s.1), (3, .int s.2.1), (4, .int s.2.2.1)] [] s.2.2.2) (Ex := fun e10 => Go K 108 [(0, .ref (ad K c0)), (3, .int e10.1)] [] e10.2) (fun s o h1 h2 h3 => o_X10_setShares_l12 S k0 s.1 s.2.1 s.2.2.1 s.2.2.2 h1 h2 h3) FUEL _ e10 he10 ?_)
  refine g_lconst (pc := 108) (v := (1 : Int64)) S dX10_setShares_108 (by decide) ?_
  refine g_lstore (pc := 109) (lv' := [(4, .long (1 : Int64)), (0, .ref (ad K c0)), (3, .int e10.1)]) S dX10_setShares_109 (by decide) rfl ?_
  refine g_iconst (pc := 111) (v := (0 : Int32)) S dX10_setShares_111 (by decide) ?_
  refine g_istore (pc := 112) (lv' := [(6, .int (0 : Int32)), (4, .long (1 : Int64)), (0, .ref (ad K c0)), (3, .int e10.1)]) S dX10_setShares_112 (by decide) rfl ?_
  refine g_bind hyp (fun e16 he16 hyp => ?_)
  refine g_sub [2, 3, 1, 0] rfl (g_loop (f := fun s : Int64 × Int32 => s_X10_setShares_l114 c0 e10.1 s.1 s.2 e10.2) (ρ := Int64) (Hd := fun s : Int64 × Int32 => Go K 114 [(0, .ref (ad K c0)), (3, .int e10.1), (4, .long s.1), (6, .int s.2)] [] e10.2) (Ex := fun e16 => Go K 168 [(0, .ref (ad K c0)), (3, .int e10.1), (4, .long e16)] [] e10.2) (fun s o h1 h2 h3 => o_X10_setShares_l114 S k0 e10.1 s.1 s.2 e10.2 h1 h2 h3) FUEL _ e16 he16 ?_)
  refine g_lconst (pc := 168) (v := (0 : Int64)) S dX10_setShares_168 (by decide) ?_
  refine g_lstore (pc := 169) (lv' := [(6, .long (0 : Int64)), (0, .ref (ad K c0)), (3, .int e10.1), (4, .long e16)]) S dX10_setShares_169 (by decide) rfl ?_
  refine g_iconst (pc := 171) (v := (0 : Int32)) S dX10_setShares_171 (by decide) ?_
  refine g_istore (pc := 172) (lv' := [(8, .int (0 : Int32)), (6, .long (0 : Int64)), (0, .ref (ad K c0)), (3, .int e10.1), (4, .long e16)]) S dX10_setShares_172 (by decide) rfl ?_
  refine g_bind hyp (fun e26 he26 hyp => ?_)
  refine g_sub [2, 3, 4, 1, 0] rfl (g_loop (f := fun s : Int64 × Int32 × Hp => s_X10_setShares_l174 c0 e10.1 e16 s.1 s.2.1 s.2.2) (ρ := Int64 × Hp) (Hd := fun s : Int64 × Int32 × Hp => Go K 174 [(0, .ref (ad K c0)), (3, .int e10.1), (4, .long e16), (6, .long s.1), (8, .int s.2.1)] [] s.2.2) (Ex := fun e26 => Go K 267 [(0, .ref (ad K c0)), (6, .long e26.1)] [] e26.2) (fun s o h1 h2 h3 => o_X10_setShares_l174 S k0 e10.1 e16 s.1 s.2.1 s.2.2 h1 h2 h3) FUEL _ e26 he26 ?_)
  refine g_aload_n (pc := 267) 0 S dX10_setShares_267 rfl ?_
  refine g_bind hyp (fun y27 hy27 hyp => ?_)
  refine g_callV (pc := 268) (As := []) (rest := []) S dX10_setShares_268 k0 rfl tw_1109 tw_1110 tw_55 mw_X10_turnsRight (m_X10_turnsRight k0  e26.2 hy27) rfl rfl (Nat.le_of_ble_eq_true rfl) (Nat.le_of_ble_eq_true rfl) (Nat.le_of_ble_eq_true rfl) ?_
  refine g_if_eq (pc := 271) (tgt := 279) S dX10_setShares_271 (by decide) hyp (fun hyp => ?_) (fun hyp => ?_)
  · refine g_lload (pc := 279) 1 S dX10_setShares_279 rfl ?_
    refine g_lneg (pc := 281) S dX10_setShares_281 ?_
    exact g_sub [0] rfl (o_X10_setShares_b282 S k0 (-e26.1) e26.2 hyp F)
  · refine g_lload (pc := 274) 1 S dX10_setShares_274 rfl ?_
    refine g_goto (pc := 276) (tgt := 282) S dX10_setShares_276 (by decide) ?_
    exact g_sub [0] rfl (o_X10_setShares_b282 S k0 e26.1 e26.2 hyp F)
theorem m_X10_setShares {l : Launch} {D : va_G} {cT : Nat → ClassId} {aD : Nat → Nat} {c0 : Nat} (k0 : kd c0 (10 + 10, 0)) (a1 : Int32) (h : Hp) {o : Hp} (hyp : s_X10_setShares c0 a1 h = some o) : Ok l D cT aD yX10_setShares cX10_setShares 9 none 2 53 [.ref (aD c0), .int a1] h none o :=
  Ok.of (by decide +kernel) rfl (Nat.le_of_ble_eq_true rfl) (fun K e1 e2 e3 e4 S F => by subst e1; exact o_X10_setShares S k0 a1 h hyp F)
-- BoundProofsModel proof (I)I
noncomputable def s_X10_proof_b66 (c0 : Nat) (a1 : Int32) (a2 : Int32) (a3 : Int32) (t0 : Int64) (h : Hp) : Option ((Int32 × Hp) ⊕ (Hp)) :=
  lt (sJ h c0 36 t0) fun h7 =>
  lt (a3 + (1 : Int32)) fun v3_8 =>
  some (.inl (v3_8, h7))
noncomputable def s_X10_proof_l34 (c0 : Nat) (a1 : Int32) (a2 : Int32) (a3 : Int32) (h : Hp) : Option ((Int32 × Hp) ⊕ (Hp)) :=
  if a3 < (h.1 c0 29) then (ldI h (c0 + 15) 10 a3 fun x5 =>
  if x5 = a1 then (ldJ h (c0 + 17) 10 a3 fun x6 =>
  s_X10_proof_b66 c0 a1 a2 a3 x6 h)
  else (s_X10_proof_b66 c0 a1 a2 a3 (h.2 c0 36) h))
  else (some (.inr (h)))
noncomputable def s_X10_proof (c0 : Nat) (a1 : Int32) (h : Hp) : Option (Int32 × Hp) :=
  (s_X10_isBound c0 a1 h).bind fun y1 =>
  if y1 = 0 then (some ((-1 : Int32), h))
  else ((s_X10_coreOf c0  h).bind fun y2 =>
  if y2.1 = 0 then (some ((-2 : Int32), y2.2))
  else ((s_X10_setShares c0 y2.1 y2.2).bind fun y3 =>
  lt (sJ y3 c0 36 (0 : Int64)) fun h4 =>
  (iter (fun s : Int32 × Hp => s_X10_proof_l34 c0 a1 y2.1 s.1 s.2) FUEL ((0 : Int32), h4)).bind fun e9 =>
  some (((y2.1 >>> (a1 &&& 31)) &&& (1 : Int32)), e9)))
set_option maxRecDepth 100000 in
set_option maxHeartbeats 4000000 in
theorem o_X10_proof_b66 {K : gK} (S : Cx K RX10 cX10_proof 4 5 143) {c0 : Nat} (k0 : kd c0 (10 + 10, 0)) (a1 : Int32) (a2 : Int32) (a3 : Int32) (t0 : Int64) (h : Hp) {o : (Int32 × Hp) ⊕ (Hp)} (hyp : s_X10_proof_b66 c0 a1 a2 a3 t0 h = some o) (hin : ∀ s', o = .inl s' → Go K 34 [(0, .ref (ad K c0)), (1, .int a1), (2, .int a2), (3, .int s'.1)] [] s'.2) (hex0 : ∀ s', o = .inr (s') → Go K 75 [(1, .int a1), (2, .int a2)] [] s') : Go K 66 [(0, .ref (ad K c0)), (1, .int a1), (2, .int a2), (3, .int a3)] [.long t0, .ref (ad K c0)] h := by
  unfold s_X10_proof_b66 at hyp
  refine g_putJ (pc := 66) S dX10_proof_66 fl_X10_238 k0 hyp (fun h7 hyp => ?_)
  refine g_iinc (pc := 69) (v := (a3 + (1 : Int32))) (lv' := [(3, .int (a3 + (1 : Int32))), (0, .ref (ad K c0)), (1, .int a1), (2, .int a2)]) 3 S dX10_proof_69 rfl (by rfl) (by decide) rfl ?_
  refine g_lti (C := fun v3_8 => Go K (69 + 3) [(3, .int v3_8), (0, .ref (ad K c0)), (1, .int a1), (2, .int a2)] [] h7) hyp (fun v3_8 hyp => ?_)
  refine g_goto (pc := 72) (tgt := 34) S dX10_proof_72 (by decide) ?_
  have hyp := Option.some.inj hyp
  subst hyp
  exact g_sub [1, 2, 3, 0] rfl (hin (v3_8, h7) rfl)
set_option maxRecDepth 100000 in
set_option maxHeartbeats 4000000 in
theorem o_X10_proof_l34 {K : gK} (S : Cx K RX10 cX10_proof 4 5 143) {c0 : Nat} (k0 : kd c0 (10 + 10, 0)) (a1 : Int32) (a2 : Int32) (a3 : Int32) (h : Hp) {o : (Int32 × Hp) ⊕ (Hp)} (hyp : s_X10_proof_l34 c0 a1 a2 a3 h = some o) (hin : ∀ s', o = .inl s' → Go K 34 [(0, .ref (ad K c0)), (1, .int a1), (2, .int a2), (3, .int s'.1)] [] s'.2) (hex0 : ∀ s', o = .inr (s') → Go K 75 [(1, .int a1), (2, .int a2)] [] s') : Go K 34 [(0, .ref (ad K c0)), (1, .int a1), (2, .int a2), (3, .int a3)] [] h := by
  unfold s_X10_proof_l34 at hyp
  refine g_iload_n (pc := 34) 3 S dX10_proof_34 rfl ?_
  refine g_aload_n (pc := 35) 0 S dX10_proof_35 rfl ?_
  refine g_getI (pc := 36) S dX10_proof_36 fl_X10_210 k0 ?_
  refine g_icmp_ge (pc := 39) (tgt := 75) S dX10_proof_39 (by decide) hyp (fun hyp => ?_) (fun hyp => ?_)
  · refine g_aload_n (pc := 42) 0 S dX10_proof_42 rfl ?_
    refine g_aload_n (pc := 43) 0 S dX10_proof_43 rfl ?_
    refine g_getR (pc := 44) S dX10_proof_44 fl_X10_57 k0 ?_
    refine g_iload_n (pc := 47) 3 S dX10_proof_47 rfl ?_
    refine g_iald (pc := 48) S dX10_proof_48 (kf_10_15 k0) hyp (fun x5 hyp => ?_)
    refine g_iload_n (pc := 49) 1 S dX10_proof_49 rfl ?_
    refine g_icmp_ne (pc := 50) (tgt := 62) S dX10_proof_50 (by decide) hyp (fun hyp => ?_) (fun hyp => ?_)
    · refine g_aload_n (pc := 53) 0 S dX10_proof_53 rfl ?_
      refine g_getR (pc := 54) S dX10_proof_54 fl_X10_63 k0 ?_
      refine g_iload_n (pc := 57) 3 S dX10_proof_57 rfl ?_
      refine g_lald (pc := 58) S dX10_proof_58 (kf_10_17 k0) hyp (fun x6 hyp => ?_)
      refine g_goto (pc := 59) (tgt := 66) S dX10_proof_59 (by decide) ?_
      exact g_sub [0, 1, 2, 3] rfl (o_X10_proof_b66 S k0 a1 a2 a3 x6 h hyp hin hex0)
    · refine g_aload_n (pc := 62) 0 S dX10_proof_62 rfl ?_
      refine g_getJ (pc := 63) S dX10_proof_63 fl_X10_238 k0 ?_
      exact g_sub [0, 1, 2, 3] rfl (o_X10_proof_b66 S k0 a1 a2 a3 (h.2 c0 36) h hyp hin hex0)
  · have hyp := Option.some.inj hyp
    subst hyp
    exact g_sub [1, 2] rfl (hex0 h rfl)
set_option maxRecDepth 100000 in
set_option maxHeartbeats 4000000 in
theorem o_X10_proof {K : gK} (S : Cx K RX10 cX10_proof 4 5 143) {c0 : Nat} (k0 : kd c0 (10 + 10, 0)) (a1 : Int32) (h : Hp) {o : Int32 × Hp} (hyp : s_X10_proof c0 a1 h = some o) (F : Rt K (some .int) (some (.int o.1)) o.2) : Go K 0 [(0, .ref (ad K c0)), (1, .int a1)] [] h := by
  unfold s_X10_proof at hyp
  refine g_aload_n (pc := 0) 0 S dX10_proof_0 rfl ?_
  refine g_iload_n (pc := 1) 1 S dX10_proof_1 rfl ?_
  refine g_bind hyp (fun y1 hy1 hyp => ?_)
  refine g_callV (pc := 2) (As := [.int a1]) (rest := []) S dX10_proof_2 k0 rfl tw_1034 tw_1035 tw_38 mw_X10_isBound (m_X10_isBound k0 a1 h hy1) rfl rfl (Nat.le_of_ble_eq_true rfl) (Nat.le_of_ble_eq_true rfl) (Nat.le_of_ble_eq_true rfl) ?_
  refine g_if_ne (pc := 5) (tgt := 10) S dX10_proof_5 (by decide) hyp (fun hyp => ?_) (fun hyp => ?_)
  · refine g_iconst (pc := 8) (v := (-1 : Int32)) S dX10_proof_8 (by decide) ?_
    have hyp := Option.some.inj hyp
    subst hyp
    exact g_iret (pc := 9) S F dX10_proof_9
  · refine g_aload_n (pc := 10) 0 S dX10_proof_10 rfl ?_
    refine g_bind hyp (fun y2 hy2 hyp => ?_)
    refine g_callV (pc := 11) (As := []) (rest := []) S dX10_proof_11 k0 rfl tw_1084 tw_1085 tw_49 mw_X10_coreOf (m_X10_coreOf k0  h hy2) rfl rfl (Nat.le_of_ble_eq_true rfl) (Nat.le_of_ble_eq_true rfl) (Nat.le_of_ble_eq_true rfl) ?_
    refine g_istore_n (pc := 14) (lv' := [(2, .int y2.1), (0, .ref (ad K c0)), (1, .int a1)]) S dX10_proof_14 rfl (by decide) rfl ?_
    refine g_iload_n (pc := 15) 0 S dX10_proof_15 rfl ?_
    refine g_if_ne (pc := 16) (tgt := 22) S dX10_proof_16 (by decide) hyp (fun hyp => ?_) (fun hyp => ?_)
    · refine g_bipush (pc := 19) (v := (-2 : Int32)) S dX10_proof_19 (by decide) ?_
      have hyp := Option.some.inj hyp
      subst hyp
      exact g_iret (pc := 21) S F dX10_proof_21
    · refine g_aload_n (pc := 22) 1 S dX10_proof_22 rfl ?_
      refine g_iload_n (pc := 23) 0 S dX10_proof_23 rfl ?_
      refine g_bind hyp (fun y3 hy3 hyp => ?_)
      refine g_callV (pc := 24) (As := [.int y2.1]) (rest := []) S dX10_proof_24 k0 rfl tw_1091 tw_1092 tw_50 mw_X10_setShares (m_X10_setShares k0 y2.1 y2.2 hy3) rfl rfl (Nat.le_of_ble_eq_true rfl) (Nat.le_of_ble_eq_true rfl) (Nat.le_of_ble_eq_true rfl) ?_
      refine g_aload_n (pc := 27) 1 S dX10_proof_27 rfl ?_
      refine g_lconst (pc := 28) (v := (0 : Int64)) S dX10_proof_28 (by decide) ?_
      refine g_putJ (pc := 29) S dX10_proof_29 fl_X10_238 k0 hyp (fun h4 hyp => ?_)
      refine g_iconst (pc := 32) (v := (0 : Int32)) S dX10_proof_32 (by decide) ?_
      refine g_istore_n (pc := 33) (lv' := [(3, .int (0 : Int32)), (2, .int y2.1), (0, .ref (ad K c0)), (1, .int a1)]) S dX10_proof_33 rfl (by decide) rfl ?_
      refine g_bind hyp (fun e9 he9 hyp => ?_)
      refine g_sub [2, 3, 1, 0] rfl (g_loop (f := fun s : Int32 × Hp => s_X10_proof_l34 c0 a1 y2.1 s.1 s.2) (ρ := Hp) (Hd := fun s : Int32 × Hp => Go K 34 [(0, .ref (ad K c0)), (1, .int a1), (2, .int y2.1), (3, .int s.1)] [] s.2) (Ex := fun e9 => Go K 75 [(1, .int a1), (2, .int y2.1)] [] e9) (fun s o h1 h2 h3 => o_X10_proof_l34 S k0 a1 y2.1 s.1 s.2 h1 h2 h3) FUEL _ e9 he9 ?_)
      refine g_iload_n (pc := 75) 1 S dX10_proof_75 rfl ?_
      refine g_iload_n (pc := 76) 0 S dX10_proof_76 rfl ?_
      refine g_ishr (pc := 77) S dX10_proof_77 ?_
      refine g_iconst (pc := 78) (v := (1 : Int32)) S dX10_proof_78 (by decide) ?_
      refine g_iand (pc := 79) S dX10_proof_79 ?_
      have hyp := Option.some.inj hyp
      subst hyp
      exact g_iret (pc := 80) S F dX10_proof_80
theorem m_X10_proof {l : Launch} {D : va_G} {cT : Nat → ClassId} {aD : Nat → Nat} {c0 : Nat} (k0 : kd c0 (10 + 10, 0)) (a1 : Int32) (h : Hp) {o : Int32 × Hp} (hyp : s_X10_proof c0 a1 h = some o) : Ok l D cT aD yX10_proof cX10_proof 4 (some .int) 5 143 [.ref (aD c0), .int a1] h (some (.int o.1)) o.2 :=
  Ok.of (by decide +kernel) rfl (Nat.le_of_ble_eq_true rfl) (fun K e1 e2 e3 e4 S F => by subst e1; exact o_X10_proof S k0 a1 h hyp F)
-- BoundProofsModel says (JJI)I
noncomputable def s_X10_says (c0 : Nat) (a1 : Int64) (a3 : Int64) (a5 : Int32) (h : Hp) : Option (Int32 × Hp) :=
  (s_X10_gcd  a1 a3 h).bind fun y1 =>
  nzJ y1 <|
  lt (sJ h c0 34 (a1 / y1)) fun h2 =>
  nzJ y1 <|
  lt (sJ h2 c0 35 (a3 / y1)) fun h3 =>
  some (a5, h3)
set_option maxRecDepth 100000 in
set_option maxHeartbeats 4000000 in
theorem o_X10_says {K : gK} (S : Cx K RX10 cX10_says 8 1 33) {c0 : Nat} (k0 : kd c0 (10 + 10, 0)) (a1 : Int64) (a3 : Int64) (a5 : Int32) (h : Hp) {o : Int32 × Hp} (hyp : s_X10_says c0 a1 a3 a5 h = some o) (F : Rt K (some .int) (some (.int o.1)) o.2) : Go K 0 [(0, .ref (ad K c0)), (1, .long a1), (3, .long a3), (5, .int a5)] [] h := by
  unfold s_X10_says at hyp
  refine g_lload_n (pc := 0) 1 S dX10_says_0 rfl ?_
  refine g_lload_n (pc := 1) 2 S dX10_says_1 rfl ?_
  refine g_bind hyp (fun y1 hy1 hyp => ?_)
  refine g_callS (pc := 2) (As := [.long a1, .long a3]) (rest := []) S dX10_says_2 tw_1106 tw_1107 mw_X10_gcd (m_X10_gcd  a1 a3 h hy1) rfl rfl (Nat.le_of_ble_eq_true rfl) (Nat.le_of_ble_eq_true rfl) (Nat.le_of_ble_eq_true rfl) ?_
  refine g_lstore (pc := 5) (lv' := [(6, .long y1), (0, .ref (ad K c0)), (1, .long a1), (3, .long a3), (5, .int a5)]) S dX10_says_5 (by decide) rfl ?_
  refine g_aload_n (pc := 7) 1 S dX10_says_7 rfl ?_
  refine g_lload_n (pc := 8) 2 S dX10_says_8 rfl ?_
  refine g_lload (pc := 9) 0 S dX10_says_9 rfl ?_
  refine g_nzJ hyp (fun hz hyp => ?_)
  refine g_ldiv (pc := 11) S dX10_says_11 hz ?_
  refine g_putJ (pc := 12) S dX10_says_12 fl_X10_241 k0 hyp (fun h2 hyp => ?_)
  refine g_aload_n (pc := 15) 1 S dX10_says_15 rfl ?_
  refine g_lload_n (pc := 16) 3 S dX10_says_16 rfl ?_
  refine g_lload (pc := 17) 0 S dX10_says_17 rfl ?_
  refine g_nzJ hyp (fun hz hyp => ?_)
  refine g_ldiv (pc := 19) S dX10_says_19 hz ?_
  refine g_putJ (pc := 20) S dX10_says_20 fl_X10_69 k0 hyp (fun h3 hyp => ?_)
  refine g_iload (pc := 23) 4 S dX10_says_23 rfl ?_
  have hyp := Option.some.inj hyp
  subst hyp
  exact g_iret (pc := 25) S F dX10_says_25
theorem m_X10_says {l : Launch} {D : va_G} {cT : Nat → ClassId} {aD : Nat → Nat} {c0 : Nat} (k0 : kd c0 (10 + 10, 0)) (a1 : Int64) (a3 : Int64) (a5 : Int32) (h : Hp) {o : Int32 × Hp} (hyp : s_X10_says c0 a1 a3 a5 h = some o) : Ok l D cT aD yX10_says cX10_says 8 (some .int) 1 33 [.ref (aD c0), .long a1, .long a3, .int a5] h (some (.int o.1)) o.2 :=
  Ok.of (by decide +kernel) rfl (Nat.le_of_ble_eq_true rfl) (fun K e1 e2 e3 e4 S F => by subst e1; exact o_X10_says S k0 a1 a3 a5 h hyp F)
-- BoundProofsModel lacksLow (IZ)I
noncomputable def s_X10_lacksLow_b62 (c0 : Nat) (t0 : Int32) (t1 : Int64) (t2 : Int64) (h : Hp) : Option (Int32 × Hp) :=
  (s_X10_says c0 t2 t1 t0 h).bind fun y2 =>
  some (y2.1, y2.2)
noncomputable def s_X10_lacksLow_b57 (c0 : Nat) (t0 : Int64) (t1 : Int64) (h : Hp) : Option (Int32 × Hp) :=
  s_X10_lacksLow_b62 c0 (0 : Int32) t0 t1 h
noncomputable def s_X10_lacksLow_b25 (c0 : Nat) (a2 : Int32) (t0 : Int64) (h : Hp) : Option (Int32 × Hp) :=
  if t0 < (0 : Int64) then ((s_X10_says c0 (0 : Int64) (1 : Int64) (1 : Int32) h).bind fun y1 =>
  some (y1.1, y1.2))
  else (if a2 = 0 then (if (h.1 c0 23) = 0 then (s_X10_lacksLow_b62 c0 (1 : Int32) (h.2 c0 22) t0 h)
  else (s_X10_lacksLow_b57 c0 (h.2 c0 22) t0 h))
  else (s_X10_lacksLow_b57 c0 (h.2 c0 22) t0 h))
noncomputable def s_X10_lacksLow (c0 : Nat) (a1 : Int32) (a2 : Int32) (h : Hp) : Option (Int32 × Hp) :=
  if (h.1 c0 20) = 0 then (s_X10_lacksLow_b25 c0 a2 (-1 : Int64) h)
  else (s_X10_lacksLow_b25 c0 a2 ((h.2 c0 21) - ((a1).toInt64 * (h.2 c0 22))) h)
set_option maxRecDepth 100000 in
set_option maxHeartbeats 4000000 in
theorem o_X10_lacksLow_b62 {K : gK} (S : Cx K RX10 cX10_lacksLow 5 2 64) {c0 : Nat} (k0 : kd c0 (10 + 10, 0)) (t0 : Int32) (t1 : Int64) (t2 : Int64) (h : Hp) {o : Int32 × Hp} (hyp : s_X10_lacksLow_b62 c0 t0 t1 t2 h = some o) (F : Rt K (some .int) (some (.int o.1)) o.2) : Go K 62 [] [.int t0, .long t1, .long t2, .ref (ad K c0)] h := by
  unfold s_X10_lacksLow_b62 at hyp
  refine g_bind hyp (fun y2 hy2 hyp => ?_)
  refine g_callV (pc := 62) (As := [.long t2, .long t1, .int t0]) (rest := []) S dX10_lacksLow_62 k0 rfl tw_1125 tw_1126 tw_59 mw_X10_says (m_X10_says k0 t2 t1 t0 h hy2) rfl rfl (Nat.le_of_ble_eq_true rfl) (Nat.le_of_ble_eq_true rfl) (Nat.le_of_ble_eq_true rfl) ?_
  have hyp := Option.some.inj hyp
  subst hyp
  exact g_iret (pc := 65) S F dX10_lacksLow_65
set_option maxRecDepth 100000 in
set_option maxHeartbeats 4000000 in
theorem o_X10_lacksLow_b57 {K : gK} (S : Cx K RX10 cX10_lacksLow 5 2 64) {c0 : Nat} (k0 : kd c0 (10 + 10, 0)) (t0 : Int64) (t1 : Int64) (h : Hp) {o : Int32 × Hp} (hyp : s_X10_lacksLow_b57 c0 t0 t1 h = some o) (F : Rt K (some .int) (some (.int o.1)) o.2) : Go K 57 [] [.long t0, .long t1, .ref (ad K c0)] h := by
  unfold s_X10_lacksLow_b57 at hyp
  refine g_iconst (pc := 57) (v := (0 : Int32)) S dX10_lacksLow_57 (by decide) ?_
  refine g_goto (pc := 58) (tgt := 62) S dX10_lacksLow_58 (by decide) ?_
  exact g_sub [] rfl (o_X10_lacksLow_b62 S k0 (0 : Int32) t0 t1 h hyp F)
set_option maxRecDepth 100000 in
set_option maxHeartbeats 4000000 in
theorem o_X10_lacksLow_b25 {K : gK} (S : Cx K RX10 cX10_lacksLow 5 2 64) {c0 : Nat} (k0 : kd c0 (10 + 10, 0)) (a2 : Int32) (t0 : Int64) (h : Hp) {o : Int32 × Hp} (hyp : s_X10_lacksLow_b25 c0 a2 t0 h = some o) (F : Rt K (some .int) (some (.int o.1)) o.2) : Go K 25 [(0, .ref (ad K c0)), (2, .int a2)] [.long t0] h := by
  unfold s_X10_lacksLow_b25 at hyp
  refine g_lstore_n (pc := 25) (lv' := [(3, .long t0), (0, .ref (ad K c0)), (2, .int a2)]) S dX10_lacksLow_25 rfl (by decide) rfl ?_
  refine g_lload_n (pc := 26) 0 S dX10_lacksLow_26 rfl ?_
  refine g_lconst (pc := 27) (v := (0 : Int64)) S dX10_lacksLow_27 (by decide) ?_
  refine g_lcmp_ge (pc := 28) (tgt := 40) S dX10_lacksLow_28 dX10_lacksLow_29 (by decide) hyp (fun hyp => ?_) (fun hyp => ?_)
  · refine g_aload_n (pc := 32) 1 S dX10_lacksLow_32 rfl ?_
    refine g_lconst (pc := 33) (v := (0 : Int64)) S dX10_lacksLow_33 (by decide) ?_
    refine g_lconst (pc := 34) (v := (1 : Int64)) S dX10_lacksLow_34 (by decide) ?_
    refine g_iconst (pc := 35) (v := (1 : Int32)) S dX10_lacksLow_35 (by decide) ?_
    refine g_bind hyp (fun y1 hy1 hyp => ?_)
    refine g_callV (pc := 36) (As := [.long (0 : Int64), .long (1 : Int64), .int (1 : Int32)]) (rest := []) S dX10_lacksLow_36 k0 rfl tw_1125 tw_1126 tw_59 mw_X10_says (m_X10_says k0 (0 : Int64) (1 : Int64) (1 : Int32) h hy1) rfl rfl (Nat.le_of_ble_eq_true rfl) (Nat.le_of_ble_eq_true rfl) (Nat.le_of_ble_eq_true rfl) ?_
    have hyp := Option.some.inj hyp
    subst hyp
    exact g_iret (pc := 39) S F dX10_lacksLow_39
  · refine g_aload_n (pc := 40) 1 S dX10_lacksLow_40 rfl ?_
    refine g_lload_n (pc := 41) 0 S dX10_lacksLow_41 rfl ?_
    refine g_aload_n (pc := 42) 1 S dX10_lacksLow_42 rfl ?_
    refine g_getJ (pc := 43) S dX10_lacksLow_43 fl_X10_170 k0 ?_
    refine g_iload_n (pc := 46) 2 S dX10_lacksLow_46 rfl ?_
    refine g_if_ne (pc := 47) (tgt := 57) S dX10_lacksLow_47 (by decide) hyp (fun hyp => ?_) (fun hyp => ?_)
    · refine g_aload_n (pc := 50) 1 S dX10_lacksLow_50 rfl ?_
      refine g_getI (pc := 51) S dX10_lacksLow_51 fl_X10_176 k0 ?_
      refine g_if_eq (pc := 54) (tgt := 61) S dX10_lacksLow_54 (by decide) hyp (fun hyp => ?_) (fun hyp => ?_)
      · refine g_iconst (pc := 61) (v := (1 : Int32)) S dX10_lacksLow_61 (by decide) ?_
        exact g_sub [] rfl (o_X10_lacksLow_b62 S k0 (1 : Int32) (h.2 c0 22) t0 h hyp F)
      · exact g_sub [] rfl (o_X10_lacksLow_b57 S k0 (h.2 c0 22) t0 h hyp F)
    · exact g_sub [] rfl (o_X10_lacksLow_b57 S k0 (h.2 c0 22) t0 h hyp F)
set_option maxRecDepth 100000 in
set_option maxHeartbeats 4000000 in
theorem o_X10_lacksLow {K : gK} (S : Cx K RX10 cX10_lacksLow 5 2 64) {c0 : Nat} (k0 : kd c0 (10 + 10, 0)) (a1 : Int32) (a2 : Int32) (h : Hp) {o : Int32 × Hp} (hyp : s_X10_lacksLow c0 a1 a2 h = some o) (F : Rt K (some .int) (some (.int o.1)) o.2) : Go K 0 [(0, .ref (ad K c0)), (1, .int a1), (2, .int a2)] [] h := by
  unfold s_X10_lacksLow at hyp
  refine g_aload_n (pc := 0) 0 S dX10_lacksLow_0 rfl ?_
  refine g_getI (pc := 1) S dX10_lacksLow_1 fl_X10_167 k0 ?_
  refine g_if_eq (pc := 4) (tgt := 22) S dX10_lacksLow_4 (by decide) hyp (fun hyp => ?_) (fun hyp => ?_)
  · refine g_ldc2 (pc := 22) (v := (-1 : Int64)) S dX10_lacksLow_22 tw_1079 ?_
    exact g_sub [0, 2] rfl (o_X10_lacksLow_b25 S k0 a2 (-1 : Int64) h hyp F)
  · refine g_aload_n (pc := 7) 0 S dX10_lacksLow_7 rfl ?_
    refine g_getJ (pc := 8) S dX10_lacksLow_8 fl_X10_173 k0 ?_
    refine g_iload_n (pc := 11) 1 S dX10_lacksLow_11 rfl ?_
    refine g_i2l (pc := 12) S dX10_lacksLow_12 ?_
    refine g_aload_n (pc := 13) 0 S dX10_lacksLow_13 rfl ?_
    refine g_getJ (pc := 14) S dX10_lacksLow_14 fl_X10_170 k0 ?_
    refine g_lmul (pc := 17) S dX10_lacksLow_17 ?_
    refine g_lsub (pc := 18) S dX10_lacksLow_18 ?_
    refine g_goto (pc := 19) (tgt := 25) S dX10_lacksLow_19 (by decide) ?_
    exact g_sub [0, 2] rfl (o_X10_lacksLow_b25 S k0 a2 ((h.2 c0 21) - ((a1).toInt64 * (h.2 c0 22))) h hyp F)
theorem m_X10_lacksLow {l : Launch} {D : va_G} {cT : Nat → ClassId} {aD : Nat → Nat} {c0 : Nat} (k0 : kd c0 (10 + 10, 0)) (a1 : Int32) (a2 : Int32) (h : Hp) {o : Int32 × Hp} (hyp : s_X10_lacksLow c0 a1 a2 h = some o) : Ok l D cT aD yX10_lacksLow cX10_lacksLow 5 (some .int) 2 64 [.ref (aD c0), .int a1, .int a2] h (some (.int o.1)) o.2 :=
  Ok.of (by decide +kernel) rfl (Nat.le_of_ble_eq_true rfl) (fun K e1 e2 e3 e4 S F => by subst e1; exact o_X10_lacksLow S k0 a1 a2 h hyp F)
-- BoundProofsModel lacksHigh (IZ)I
noncomputable def s_X10_lacksHigh_b62 (c0 : Nat) (t0 : Int32) (t1 : Int64) (t2 : Int64) (h : Hp) : Option (Int32 × Hp) :=
  (s_X10_says c0 t2 t1 t0 h).bind fun y2 =>
  some (y2.1, y2.2)
noncomputable def s_X10_lacksHigh_b57 (c0 : Nat) (t0 : Int64) (t1 : Int64) (h : Hp) : Option (Int32 × Hp) :=
  s_X10_lacksHigh_b62 c0 (0 : Int32) t0 t1 h
noncomputable def s_X10_lacksHigh_b25 (c0 : Nat) (a2 : Int32) (t0 : Int64) (h : Hp) : Option (Int32 × Hp) :=
  if t0 < (0 : Int64) then ((s_X10_says c0 (0 : Int64) (1 : Int64) (1 : Int32) h).bind fun y1 =>
  some (y1.1, y1.2))
  else (if a2 = 0 then (if (h.1 c0 27) = 0 then (s_X10_lacksHigh_b62 c0 (1 : Int32) (h.2 c0 26) t0 h)
  else (s_X10_lacksHigh_b57 c0 (h.2 c0 26) t0 h))
  else (s_X10_lacksHigh_b57 c0 (h.2 c0 26) t0 h))
noncomputable def s_X10_lacksHigh (c0 : Nat) (a1 : Int32) (a2 : Int32) (h : Hp) : Option (Int32 × Hp) :=
  if (h.1 c0 24) = 0 then (s_X10_lacksHigh_b25 c0 a2 (-1 : Int64) h)
  else (s_X10_lacksHigh_b25 c0 a2 (((a1).toInt64 * (h.2 c0 26)) - (h.2 c0 25)) h)
set_option maxRecDepth 100000 in
set_option maxHeartbeats 4000000 in
theorem o_X10_lacksHigh_b62 {K : gK} (S : Cx K RX10 cX10_lacksHigh 5 2 64) {c0 : Nat} (k0 : kd c0 (10 + 10, 0)) (t0 : Int32) (t1 : Int64) (t2 : Int64) (h : Hp) {o : Int32 × Hp} (hyp : s_X10_lacksHigh_b62 c0 t0 t1 t2 h = some o) (F : Rt K (some .int) (some (.int o.1)) o.2) : Go K 62 [] [.int t0, .long t1, .long t2, .ref (ad K c0)] h := by
  unfold s_X10_lacksHigh_b62 at hyp
  refine g_bind hyp (fun y2 hy2 hyp => ?_)
  refine g_callV (pc := 62) (As := [.long t2, .long t1, .int t0]) (rest := []) S dX10_lacksHigh_62 k0 rfl tw_1125 tw_1126 tw_59 mw_X10_says (m_X10_says k0 t2 t1 t0 h hy2) rfl rfl (Nat.le_of_ble_eq_true rfl) (Nat.le_of_ble_eq_true rfl) (Nat.le_of_ble_eq_true rfl) ?_
  have hyp := Option.some.inj hyp
  subst hyp
  exact g_iret (pc := 65) S F dX10_lacksHigh_65
set_option maxRecDepth 100000 in
set_option maxHeartbeats 4000000 in
theorem o_X10_lacksHigh_b57 {K : gK} (S : Cx K RX10 cX10_lacksHigh 5 2 64) {c0 : Nat} (k0 : kd c0 (10 + 10, 0)) (t0 : Int64) (t1 : Int64) (h : Hp) {o : Int32 × Hp} (hyp : s_X10_lacksHigh_b57 c0 t0 t1 h = some o) (F : Rt K (some .int) (some (.int o.1)) o.2) : Go K 57 [] [.long t0, .long t1, .ref (ad K c0)] h := by
  unfold s_X10_lacksHigh_b57 at hyp
  refine g_iconst (pc := 57) (v := (0 : Int32)) S dX10_lacksHigh_57 (by decide) ?_
  refine g_goto (pc := 58) (tgt := 62) S dX10_lacksHigh_58 (by decide) ?_
  exact g_sub [] rfl (o_X10_lacksHigh_b62 S k0 (0 : Int32) t0 t1 h hyp F)
set_option maxRecDepth 100000 in
set_option maxHeartbeats 4000000 in
theorem o_X10_lacksHigh_b25 {K : gK} (S : Cx K RX10 cX10_lacksHigh 5 2 64) {c0 : Nat} (k0 : kd c0 (10 + 10, 0)) (a2 : Int32) (t0 : Int64) (h : Hp) {o : Int32 × Hp} (hyp : s_X10_lacksHigh_b25 c0 a2 t0 h = some o) (F : Rt K (some .int) (some (.int o.1)) o.2) : Go K 25 [(0, .ref (ad K c0)), (2, .int a2)] [.long t0] h := by
  unfold s_X10_lacksHigh_b25 at hyp
  refine g_lstore_n (pc := 25) (lv' := [(3, .long t0), (0, .ref (ad K c0)), (2, .int a2)]) S dX10_lacksHigh_25 rfl (by decide) rfl ?_
  refine g_lload_n (pc := 26) 0 S dX10_lacksHigh_26 rfl ?_
  refine g_lconst (pc := 27) (v := (0 : Int64)) S dX10_lacksHigh_27 (by decide) ?_
  refine g_lcmp_ge (pc := 28) (tgt := 40) S dX10_lacksHigh_28 dX10_lacksHigh_29 (by decide) hyp (fun hyp => ?_) (fun hyp => ?_)
  · refine g_aload_n (pc := 32) 1 S dX10_lacksHigh_32 rfl ?_
    refine g_lconst (pc := 33) (v := (0 : Int64)) S dX10_lacksHigh_33 (by decide) ?_
    refine g_lconst (pc := 34) (v := (1 : Int64)) S dX10_lacksHigh_34 (by decide) ?_
    refine g_iconst (pc := 35) (v := (1 : Int32)) S dX10_lacksHigh_35 (by decide) ?_
    refine g_bind hyp (fun y1 hy1 hyp => ?_)
    refine g_callV (pc := 36) (As := [.long (0 : Int64), .long (1 : Int64), .int (1 : Int32)]) (rest := []) S dX10_lacksHigh_36 k0 rfl tw_1125 tw_1126 tw_59 mw_X10_says (m_X10_says k0 (0 : Int64) (1 : Int64) (1 : Int32) h hy1) rfl rfl (Nat.le_of_ble_eq_true rfl) (Nat.le_of_ble_eq_true rfl) (Nat.le_of_ble_eq_true rfl) ?_
    have hyp := Option.some.inj hyp
    subst hyp
    exact g_iret (pc := 39) S F dX10_lacksHigh_39
  · refine g_aload_n (pc := 40) 1 S dX10_lacksHigh_40 rfl ?_
    refine g_lload_n (pc := 41) 0 S dX10_lacksHigh_41 rfl ?_
    refine g_aload_n (pc := 42) 1 S dX10_lacksHigh_42 rfl ?_
    refine g_getJ (pc := 43) S dX10_lacksHigh_43 fl_X10_156 k0 ?_
    refine g_iload_n (pc := 46) 2 S dX10_lacksHigh_46 rfl ?_
    refine g_if_ne (pc := 47) (tgt := 57) S dX10_lacksHigh_47 (by decide) hyp (fun hyp => ?_) (fun hyp => ?_)
    · refine g_aload_n (pc := 50) 1 S dX10_lacksHigh_50 rfl ?_
      refine g_getI (pc := 51) S dX10_lacksHigh_51 fl_X10_164 k0 ?_
      refine g_if_eq (pc := 54) (tgt := 61) S dX10_lacksHigh_54 (by decide) hyp (fun hyp => ?_) (fun hyp => ?_)
      · refine g_iconst (pc := 61) (v := (1 : Int32)) S dX10_lacksHigh_61 (by decide) ?_
        exact g_sub [] rfl (o_X10_lacksHigh_b62 S k0 (1 : Int32) (h.2 c0 26) t0 h hyp F)
      · exact g_sub [] rfl (o_X10_lacksHigh_b57 S k0 (h.2 c0 26) t0 h hyp F)
    · exact g_sub [] rfl (o_X10_lacksHigh_b57 S k0 (h.2 c0 26) t0 h hyp F)
set_option maxRecDepth 100000 in
set_option maxHeartbeats 4000000 in
theorem o_X10_lacksHigh {K : gK} (S : Cx K RX10 cX10_lacksHigh 5 2 64) {c0 : Nat} (k0 : kd c0 (10 + 10, 0)) (a1 : Int32) (a2 : Int32) (h : Hp) {o : Int32 × Hp} (hyp : s_X10_lacksHigh c0 a1 a2 h = some o) (F : Rt K (some .int) (some (.int o.1)) o.2) : Go K 0 [(0, .ref (ad K c0)), (1, .int a1), (2, .int a2)] [] h := by
  unfold s_X10_lacksHigh at hyp
  refine g_aload_n (pc := 0) 0 S dX10_lacksHigh_0 rfl ?_
  refine g_getI (pc := 1) S dX10_lacksHigh_1 fl_X10_153 k0 ?_
  refine g_if_eq (pc := 4) (tgt := 22) S dX10_lacksHigh_4 (by decide) hyp (fun hyp => ?_) (fun hyp => ?_)
  · refine g_ldc2 (pc := 22) (v := (-1 : Int64)) S dX10_lacksHigh_22 tw_1079 ?_
    exact g_sub [0, 2] rfl (o_X10_lacksHigh_b25 S k0 a2 (-1 : Int64) h hyp F)
  · refine g_iload_n (pc := 7) 1 S dX10_lacksHigh_7 rfl ?_
    refine g_i2l (pc := 8) S dX10_lacksHigh_8 ?_
    refine g_aload_n (pc := 9) 0 S dX10_lacksHigh_9 rfl ?_
    refine g_getJ (pc := 10) S dX10_lacksHigh_10 fl_X10_156 k0 ?_
    refine g_lmul (pc := 13) S dX10_lacksHigh_13 ?_
    refine g_aload_n (pc := 14) 0 S dX10_lacksHigh_14 rfl ?_
    refine g_getJ (pc := 15) S dX10_lacksHigh_15 fl_X10_159 k0 ?_
    refine g_lsub (pc := 18) S dX10_lacksHigh_18 ?_
    refine g_goto (pc := 19) (tgt := 25) S dX10_lacksHigh_19 (by decide) ?_
    exact g_sub [0, 2] rfl (o_X10_lacksHigh_b25 S k0 a2 (((a1).toInt64 * (h.2 c0 26)) - (h.2 c0 25)) h hyp F)
theorem m_X10_lacksHigh {l : Launch} {D : va_G} {cT : Nat → ClassId} {aD : Nat → Nat} {c0 : Nat} (k0 : kd c0 (10 + 10, 0)) (a1 : Int32) (a2 : Int32) (h : Hp) {o : Int32 × Hp} (hyp : s_X10_lacksHigh c0 a1 a2 h = some o) : Ok l D cT aD yX10_lacksHigh cX10_lacksHigh 5 (some .int) 2 64 [.ref (aD c0), .int a1, .int a2] h (some (.int o.1)) o.2 :=
  Ok.of (by decide +kernel) rfl (Nat.le_of_ble_eq_true rfl) (fun K e1 e2 e3 e4 S F => by subst e1; exact o_X10_lacksHigh S k0 a1 a2 h hyp F)
