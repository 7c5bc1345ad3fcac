-- BoundProofs$Problem addForm (III)Z
noncomputable def s_X5_addForm (c0 : Nat) (a1 : Int32) (a2 : Int32) (a3 : Int32) (h : Hp) : Option (Int32 × Hp) :=
  if (h.1 c0 1) < (8 : Int32) then (stI h (c0 + 1) 24 ((h.1 c0 1) * (3 : Int32)) a1 fun h1 =>
  stI h1 (c0 + 1) 24 (((h1.1 c0 1) * (3 : Int32)) + (1 : Int32)) a2 fun h2 =>
  stI h2 (c0 + 1) 24 (((h2.1 c0 1) * (3 : Int32)) + (2 : Int32)) a3 fun h3 =>
  lt (sI h3 c0 1 ((h3.1 c0 1) + (1 : Int32))) fun h4 =>
  some ((1 : Int32), h4))
  else (some ((0 : Int32), h))
set_option maxRecDepth 100000 in
set_option maxHeartbeats 4000000 in
theorem o_X5_addForm {K : gK} (S : Cx K RX5 cX5_addForm 4 0 0) {c0 : Nat} (k0 : kd c0 (10 + 5, 0)) (a1 : Int32) (a2 : Int32) (a3 : Int32) (h : Hp) {o : Int32 × Hp} (hyp : s_X5_addForm c0 a1 a2 a3 h = some o) (F : Rt K (some .boolean) (some (.int o.1)) o.2) : Go K 0 [(0, .ref (ad K c0)), (1, .int a1), (2, .int a2), (3, .int a3)] [] h := by
  unfold s_X5_addForm at hyp
  refine g_aload_n (pc := 0) 0 S dX5_addForm_0 rfl ?_
  refine g_getI (pc := 1) S dX5_addForm_1 fl_X5_15 k0 ?_
  refine g_bipush (pc := 4) (v := (8 : Int32)) S dX5_addForm_4 (by decide) ?_
  refine g_icmp_lt (pc := 6) (tgt := 11) S dX5_addForm_6 (by decide) hyp (fun hyp => ?_) (fun hyp => ?_)
  · refine g_aload_n (pc := 11) 0 S dX5_addForm_11 rfl ?_
    refine g_getR (pc := 12) S dX5_addForm_12 fl_X5_24 k0 ?_
    refine g_aload_n (pc := 15) 0 S dX5_addForm_15 rfl ?_
    refine g_getI (pc := 16) S dX5_addForm_16 fl_X5_15 k0 ?_
    refine g_iconst (pc := 19) (v := (3 : Int32)) S dX5_addForm_19 (by decide) ?_
    refine g_imul (pc := 20) S dX5_addForm_20 ?_
    refine g_iload_n (pc := 21) 1 S dX5_addForm_21 rfl ?_
    refine g_iast (pc := 22) S dX5_addForm_22 (kf_5_1 k0) hyp (fun h1 hyp => ?_)
    refine g_aload_n (pc := 23) 0 S dX5_addForm_23 rfl ?_
    refine g_getR (pc := 24) S dX5_addForm_24 fl_X5_24 k0 ?_
    refine g_aload_n (pc := 27) 0 S dX5_addForm_27 rfl ?_
    refine g_getI (pc := 28) S dX5_addForm_28 fl_X5_15 k0 ?_
    refine g_iconst (pc := 31) (v := (3 : Int32)) S dX5_addForm_31 (by decide) ?_
    refine g_imul (pc := 32) S dX5_addForm_32 ?_
    refine g_iconst (pc := 33) (v := (1 : Int32)) S dX5_addForm_33 (by decide) ?_
    refine g_iadd (pc := 34) S dX5_addForm_34 ?_
    refine g_iload_n (pc := 35) 2 S dX5_addForm_35 rfl ?_
    refine g_iast (pc := 36) S dX5_addForm_36 (kf_5_1 k0) hyp (fun h2 hyp => ?_)
    refine g_aload_n (pc := 37) 0 S dX5_addForm_37 rfl ?_
    refine g_getR (pc := 38) S dX5_addForm_38 fl_X5_24 k0 ?_
    refine g_aload_n (pc := 41) 0 S dX5_addForm_41 rfl ?_
    refine g_getI (pc := 42) S dX5_addForm_42 fl_X5_15 k0 ?_
    refine g_iconst (pc := 45) (v := (3 : Int32)) S dX5_addForm_45 (by decide) ?_
    refine g_imul (pc := 46) S dX5_addForm_46 ?_
    refine g_iconst (pc := 47) (v := (2 : Int32)) S dX5_addForm_47 (by decide) ?_
    refine g_iadd (pc := 48) S dX5_addForm_48 ?_
    refine g_iload_n (pc := 49) 3 S dX5_addForm_49 rfl ?_
    refine g_iast (pc := 50) S dX5_addForm_50 (kf_5_1 k0) hyp (fun h3 hyp => ?_)
    refine g_aload_n (pc := 51) 0 S dX5_addForm_51 rfl ?_
    refine g_dup (pc := 52) S dX5_addForm_52 rfl ?_
    refine g_getI (pc := 53) S dX5_addForm_53 fl_X5_15 k0 ?_
    refine g_iconst (pc := 56) (v := (1 : Int32)) S dX5_addForm_56 (by decide) ?_
    refine g_iadd (pc := 57) S dX5_addForm_57 ?_
    refine g_putI (pc := 58) S dX5_addForm_58 fl_X5_15 k0 hyp (fun h4 hyp => ?_)
    refine g_iconst (pc := 61) (v := (1 : Int32)) S dX5_addForm_61 (by decide) ?_
    have hyp := Option.some.inj hyp
    subst hyp
    exact g_zret (pc := 62) S F dX5_addForm_62 (Or.inr rfl)
  · refine g_iconst (pc := 9) (v := (0 : Int32)) S dX5_addForm_9 (by decide) ?_
    have hyp := Option.some.inj hyp
    subst hyp
    exact g_zret (pc := 10) S F dX5_addForm_10 (Or.inl rfl)
theorem m_X5_addForm {l : Launch} {D : va_G} {cT : Nat → ClassId} {aD : Nat → Nat} {c0 : Nat} (k0 : kd c0 (10 + 5, 0)) (a1 : Int32) (a2 : Int32) (a3 : Int32) (h : Hp) {o : Int32 × Hp} (hyp : s_X5_addForm c0 a1 a2 a3 h = some o) : Ok l D cT aD yX5_addForm cX5_addForm 4 (some .boolean) 0 0 [.ref (aD c0), .int a1, .int a2, .int a3] h (some (.int o.1)) o.2 :=
  Ok.of (by decide +kernel) rfl (Nat.le_of_ble_eq_true rfl) (fun K e1 e2 e3 e4 S F => by subst e1; exact o_X5_addForm S k0 a1 a2 a3 h hyp F)
-- BoundProofs$Reader readForm (LBoundProofs$Problem;)Z
noncomputable def s_X6_readForm_l6 (c0 : Nat) (c1 : Nat) (a2 : Int32) (h : Hp) : Option ((Int32 × Hp) ⊕ (Hp)) :=
  if a2 < (3 : Int32) then (stI h (c0 + 2) 3 a2 (0 : Int32) fun h2 =>
  lt (a2 + (1 : Int32)) fun v2_3 =>
  some (.inl (v2_3, h2)))
  else (some (.inr (h)))
noncomputable def s_X6_readForm_b75 (c0 : Nat) (c1 : Nat) (a3 : Int32) (t0 : Int32) (h : Hp) : Option ((Int32 × Int32 × Hp) ⊕ ((Hp) ⊕ (Int32 × Hp))) :=
  lt (a3 + (1 : Int32)) fun v3_6 =>
  some (.inl (t0, v3_6, h))
noncomputable def s_X6_readForm_b70 (c0 : Nat) (c1 : Nat) (a3 : Int32) (h : Hp) : Option ((Int32 × Int32 × Hp) ⊕ ((Hp) ⊕ (Int32 × Hp))) :=
  s_X6_readForm_b75 c0 c1 a3 (1 : Int32) h
noncomputable def s_X6_readForm_l32 (c0 : Nat) (c1 : Nat) (a2 : Int32) (a3 : Int32) (h : Hp) : Option ((Int32 × Int32 × Hp) ⊕ ((Hp) ⊕ (Int32 × Hp))) :=
  if a3 < (90 : Int32) then (if a2 = 0 then (some (.inr (.inl h)))
  else ((s_X6_readTerm c0 c1  h).bind fun y5 =>
  if y5.1 = 0 then (some (.inr (.inr ((0 : Int32), y5.2))))
  else (if (y5.2.1 c0 2) = (43 : Int32) then (s_X6_readForm_b70 c0 c1 a3 y5.2)
  else (if (y5.2.1 c0 2) = (45 : Int32) then (s_X6_readForm_b70 c0 c1 a3 y5.2)
  else (s_X6_readForm_b75 c0 c1 a3 (0 : Int32) y5.2)))))
  else (some (.inr (.inl h)))
noncomputable def s_X6_readForm (c0 : Nat) (c1 : Nat)  (h : Hp) : Option (Int32 × Hp) :=
  (s_X6_step c0  h).bind fun y1 =>
  (iter (fun s : Int32 × Hp => s_X6_readForm_l6 c0 c1 s.1 s.2) FUEL ((0 : Int32), y1)).bind fun e4 =>
  (iter (fun s : Int32 × Int32 × Hp => s_X6_readForm_l32 c0 c1 s.1 s.2.1 s.2.2) FUEL ((1 : Int32), (0 : Int32), e4)).bind (Sum.elim (fun t8 => if (t8.1 c0 2) = (59 : Int32) then (ldI t8 (c0 + 2) 3 (0 : Int32) fun x9 =>
  ldI t8 (c0 + 2) 3 (1 : Int32) fun x10 =>
  ldI t8 (c0 + 2) 3 (2 : Int32) fun x11 =>
  (s_X5_allowsForm c1 x9 x10 x11 t8).bind fun y12 =>
  if y12 = 0 then (some ((0 : Int32), t8))
  else (ldI t8 (c0 + 2) 3 (0 : Int32) fun x13 =>
  ldI t8 (c0 + 2) 3 (1 : Int32) fun x14 =>
  ldI t8 (c0 + 2) 3 (2 : Int32) fun x15 =>
  (s_X5_addForm c1 x13 x14 x15 t8).bind fun y16 =>
  (s_X6_readSemicolon c0  y16.2).bind fun y17 =>
  ckB y17.1 <|
  some (y17.1, y17.2)))
  else (some ((0 : Int32), t8)))
  (fun t18 => some t18))
set_option maxRecDepth 100000 in
set_option maxHeartbeats 4000000 in
theorem o_X6_readForm_l6 {K : gK} (S : Cx K RX6 cX6_readForm 4 4 100) {c0 : Nat} (k0 : kd c0 (10 + 6, 0)) {c1 : Nat} (k1 : kd c1 (10 + 5, 0)) (a2 : Int32) (h : Hp) {o : (Int32 × Hp) ⊕ (Hp)} (hyp : s_X6_readForm_l6 c0 c1 a2 h = some o) (hin : ∀ s', o = .inl s' → Go K 6 [(0, .ref (ad K c0)), (1, .ref (ad K c1)), (2, .int s'.1)] [] s'.2) (hex0 : ∀ s', o = .inr (s') → Go K 28 [(0, .ref (ad K c0)), (1, .ref (ad K c1))] [] s') : Go K 6 [(0, .ref (ad K c0)), (1, .ref (ad K c1)), (2, .int a2)] [] h := by
  unfold s_X6_readForm_l6 at hyp
  refine g_iload_n (pc := 6) 2 S dX6_readForm_6 rfl ?_
  refine g_aload_n (pc := 7) 0 S dX6_readForm_7 rfl ?_
  refine g_getR (pc := 8) S dX6_readForm_8 fl_X6_19 k0 ?_
  refine g_alen (pc := 11) (v := (3 : Int32)) S dX6_readForm_11 (kf_6_2 k0) (by decide) (by decide) ?_
  refine g_icmp_ge (pc := 12) (tgt := 28) S dX6_readForm_12 (by decide) hyp (fun hyp => ?_) (fun hyp => ?_)
  · refine g_aload_n (pc := 15) 0 S dX6_readForm_15 rfl ?_
    refine g_getR (pc := 16) S dX6_readForm_16 fl_X6_19 k0 ?_
    refine g_iload_n (pc := 19) 2 S dX6_readForm_19 rfl ?_
    refine g_iconst (pc := 20) (v := (0 : Int32)) S dX6_readForm_20 (by decide) ?_
    refine g_iast (pc := 21) S dX6_readForm_21 (kf_6_2 k0) hyp (fun h2 hyp => ?_)
    refine g_iinc (pc := 22) (v := (a2 + (1 : Int32))) (lv' := [(2, .int (a2 + (1 : Int32))), (0, .ref (ad K c0)), (1, .ref (ad K c1))]) 2 S dX6_readForm_22 rfl (by rfl) (by decide) rfl ?_
    refine g_lti (C := fun v2_3 => Go K (22 + 3) [(2, .int v2_3), (0, .ref (ad K c0)), (1, .ref (ad K c1))] [] h2) hyp (fun v2_3 hyp => ?_)
    refine g_goto (pc := 25) (tgt := 6) S dX6_readForm_25 (by decide) ?_
    have hyp := Option.some.inj hyp
    subst hyp
    exact g_sub [1, 2, 0] rfl (hin (v2_3, h2) rfl)
  · have hyp := Option.some.inj hyp
    subst hyp
    exact g_sub [0, 1] rfl (hex0 h rfl)
set_option maxRecDepth 100000 in
set_option maxHeartbeats 4000000 in
theorem o_X6_readForm_b75 {K : gK} (S : Cx K RX6 cX6_readForm 4 4 100) {c0 : Nat} (k0 : kd c0 (10 + 6, 0)) {c1 : Nat} (k1 : kd c1 (10 + 5, 0)) (a3 : Int32) (t0 : Int32) (h : Hp) {o : (Int32 × Int32 × Hp) ⊕ ((Hp) ⊕ (Int32 × Hp))} (hyp : s_X6_readForm_b75 c0 c1 a3 t0 h = some o) (hin : ∀ s', o = .inl s' → Go K 32 [(0, .ref (ad K c0)), (1, .ref (ad K c1)), (2, .int s'.1), (3, .int s'.2.1)] [] s'.2.2) (hex0 : ∀ s', o = .inr (.inl s') → Go K 82 [(0, .ref (ad K c0)), (1, .ref (ad K c1))] [] s') (hret : ∀ x', o = .inr (.inr x') → Rt K (some .boolean) (some (.int x'.1)) x'.2) : Go K 75 [(0, .ref (ad K c0)), (1, .ref (ad K c1)), (3, .int a3)] [.int t0] h := by
  unfold s_X6_readForm_b75 at hyp
  refine g_istore_n (pc := 75) (lv' := [(2, .int t0), (0, .ref (ad K c0)), (1, .ref (ad K c1)), (3, .int a3)]) S dX6_readForm_75 rfl (by decide) rfl ?_
  refine g_iinc (pc := 76) (v := (a3 + (1 : Int32))) (lv' := [(3, .int (a3 + (1 : Int32))), (2, .int t0), (0, .ref (ad K c0)), (1, .ref (ad K c1))]) 3 S dX6_readForm_76 rfl (by rfl) (by decide) rfl ?_
  refine g_lti (C := fun v3_6 => Go K (76 + 3) [(3, .int v3_6), (2, .int t0), (0, .ref (ad K c0)), (1, .ref (ad K c1))] [] h) hyp (fun v3_6 hyp => ?_)
  refine g_goto (pc := 79) (tgt := 32) S dX6_readForm_79 (by decide) ?_
  have hyp := Option.some.inj hyp
  subst hyp
  exact g_sub [2, 3, 1, 0] rfl (hin (t0, v3_6, h) rfl)
set_option maxRecDepth 100000 in
set_option maxHeartbeats 4000000 in
theorem o_X6_readForm_b70 {K : gK} (S : Cx K RX6 cX6_readForm 4 4 100) {c0 : Nat} (k0 : kd c0 (10 + 6, 0)) {c1 : Nat} (k1 : kd c1 (10 + 5, 0)) (a3 : Int32) (h : Hp) {o : (Int32 × Int32 × Hp) ⊕ ((Hp) ⊕ (Int32 × Hp))} (hyp : s_X6_readForm_b70 c0 c1 a3 h = some o) (hin : ∀ s', o = .inl s' → Go K 32 [(0, .ref (ad K c0)), (1, .ref (ad K c1)), (2, .int s'.1), (3, .int s'.2.1)] [] s'.2.2) (hex0 : ∀ s', o = .inr (.inl s') → Go K 82 [(0, .ref (ad K c0)), (1, .ref (ad K c1))] [] s') (hret : ∀ x', o = .inr (.inr x') → Rt K (some .boolean) (some (.int x'.1)) x'.2) : Go K 70 [(0, .ref (ad K c0)), (1, .ref (ad K c1)), (3, .int a3)] [] h := by
  unfold s_X6_readForm_b70 at hyp
  refine g_iconst (pc := 70) (v := (1 : Int32)) S dX6_readForm_70 (by decide) ?_
  refine g_goto (pc := 71) (tgt := 75) S dX6_readForm_71 (by decide) ?_
  exact g_sub [0, 1, 2] rfl (o_X6_readForm_b75 S k0 k1 a3 (1 : Int32) h hyp hin hex0 hret)
set_option maxRecDepth 100000 in
set_option maxHeartbeats 4000000 in
theorem o_X6_readForm_l32 {K : gK} (S : Cx K RX6 cX6_readForm 4 4 100) {c0 : Nat} (k0 : kd c0 (10 + 6, 0)) {c1 : Nat} (k1 : kd c1 (10 + 5, 0)) (a2 : Int32) (a3 : Int32) (h : Hp) {o : (Int32 × Int32 × Hp) ⊕ ((Hp) ⊕ (Int32 × Hp))} (hyp : s_X6_readForm_l32 c0 c1 a2 a3 h = some o) (hin : ∀ s', o = .inl s' → Go K 32 [(0, .ref (ad K c0)), (1, .ref (ad K c1)), (2, .int s'.1), (3, .int s'.2.1)] [] s'.2.2) (hex0 : ∀ s', o = .inr (.inl s') → Go K 82 [(0, .ref (ad K c0)), (1, .ref (ad K c1))] [] s') (hret : ∀ x', o = .inr (.inr x') → Rt K (some .boolean) (some (.int x'.1)) x'.2) : Go K 32 [(0, .ref (ad K c0)), (1, .ref (ad K c1)), (2, .int a2), (3, .int a3)] [] h := by
  unfold s_X6_readForm_l32 at hyp
  refine g_iload_n (pc := 32) 3 S dX6_readForm_32 rfl ?_
  refine g_bipush (pc := 33) (v := (90 : Int32)) S dX6_readForm_33 (by decide) ?_
  refine g_icmp_ge (pc := 35) (tgt := 82) S dX6_readForm_35 (by decide) hyp (fun hyp => ?_) (fun hyp => ?_)
  · refine g_iload_n (pc := 38) 2 S dX6_readForm_38 rfl ?_
    refine g_if_eq (pc := 39) (tgt := 82) S dX6_readForm_39 (by decide) hyp (fun hyp => ?_) (fun hyp => ?_)
    · have hyp := Option.some.inj hyp
      subst hyp
      exact g_sub [0, 1] rfl (hex0 h rfl)
    · refine g_aload_n (pc := 42) 0 S dX6_readForm_42 rfl ?_
      refine g_aload_n (pc := 43) 1 S dX6_readForm_43 rfl ?_
      refine g_bind hyp (fun y5 hy5 hyp => ?_)
      refine g_callV (pc := 44) (As := [.ref (ad K c1)]) (rest := []) S dX6_readForm_44 k0 rfl tw_474 tw_475 tw_6 mw_X6_readTerm (m_X6_readTerm k0 k1  h hy5) rfl rfl (Nat.le_of_ble_eq_true rfl) (Nat.le_of_ble_eq_true rfl) (Nat.le_of_ble_eq_true rfl) ?_
      refine g_if_ne (pc := 47) (tgt := 52) S dX6_readForm_47 (by decide) hyp (fun hyp => ?_) (fun hyp => ?_)
      · refine g_iconst (pc := 50) (v := (0 : Int32)) S dX6_readForm_50 (by decide) ?_
        have hyp := Option.some.inj hyp
        subst hyp
        exact g_zret (pc := 51) S (hret ((0 : Int32), y5.2) rfl) dX6_readForm_51 (Or.inl rfl)
      · refine g_aload_n (pc := 52) 0 S dX6_readForm_52 rfl ?_
        refine g_getI (pc := 53) S dX6_readForm_53 fl_X6_33 k0 ?_
        refine g_bipush (pc := 56) (v := (43 : Int32)) S dX6_readForm_56 (by decide) ?_
        refine g_icmp_eq (pc := 58) (tgt := 70) S dX6_readForm_58 (by decide) hyp (fun hyp => ?_) (fun hyp => ?_)
        · exact g_sub [0, 1, 3] rfl (o_X6_readForm_b70 S k0 k1 a3 y5.2 hyp hin hex0 hret)
        · refine g_aload_n (pc := 61) 0 S dX6_readForm_61 rfl ?_
          refine g_getI (pc := 62) S dX6_readForm_62 fl_X6_33 k0 ?_
          refine g_bipush (pc := 65) (v := (45 : Int32)) S dX6_readForm_65 (by decide) ?_
          refine g_icmp_ne (pc := 67) (tgt := 74) S dX6_readForm_67 (by decide) hyp (fun hyp => ?_) (fun hyp => ?_)
          · exact g_sub [0, 1, 3] rfl (o_X6_readForm_b70 S k0 k1 a3 y5.2 hyp hin hex0 hret)
          · refine g_iconst (pc := 74) (v := (0 : Int32)) S dX6_readForm_74 (by decide) ?_
            exact g_sub [0, 1, 3] rfl (o_X6_readForm_b75 S k0 k1 a3 (0 : Int32) y5.2 hyp hin hex0 hret)
  · have hyp := Option.some.inj hyp
    subst hyp
    exact g_sub [0, 1] rfl (hex0 h rfl)
set_option maxRecDepth 100000 in
set_option maxHeartbeats 4000000 in
theorem o_X6_readForm {K : gK} (S : Cx K RX6 cX6_readForm 4 4 100) {c0 : Nat} (k0 : kd c0 (10 + 6, 0)) {c1 : Nat} (k1 : kd c1 (10 + 5, 0))  (h : Hp) {o : Int32 × Hp} (hyp : s_X6_readForm c0 c1  h = some o) (F : Rt K (some .boolean) (some (.int o.1)) o.2) : Go K 0 [(0, .ref (ad K c0)), (1, .ref (ad K c1))] [] h := by
  unfold s_X6_readForm at hyp
  refine g_aload_n (pc := 0) 0 S dX6_readForm_0 rfl ?_
  refine g_bind hyp (fun y1 hy1 hyp => ?_)
  refine g_callV (pc := 1) (As := []) (rest := []) S dX6_readForm_1 k0 rfl tw_447 tw_448 tw_0 mw_X6_step (m_X6_step k0  h hy1) rfl rfl (Nat.le_of_ble_eq_true rfl) (Nat.le_of_ble_eq_true rfl) (Nat.le_of_ble_eq_true rfl) ?_
  refine g_iconst (pc := 4) (v := (0 : Int32)) S dX6_readForm_4 (by decide) ?_
  refine g_istore_n (pc := 5) (lv' := [(2, .int (0 : Int32)), (0, .ref (ad K c0)), (1, .ref (ad K c1))]) S dX6_readForm_5 rfl (by decide) rfl ?_
  refine g_bind hyp (fun e4 he4 hyp => ?_)
  refine g_sub [1, 2, 0] rfl (g_loop (f := fun s : Int32 × Hp => s_X6_readForm_l6 c0 c1 s.1 s.2) (ρ := Hp) (Hd := fun s : Int32 × Hp => Go K 6 [(0, .ref (ad K c0)), (1, .ref (ad K c1)), (2, .int s.1)] [] s.2) (Ex := fun e4 => Go K 28 [(0, .ref (ad K c0)), (1, .ref (ad K c1))] [] e4) (fun s o h1 h2 h3 => o_X6_readForm_l6 S k0 k1 s.1 s.2 h1 h2 h3) FUEL _ e4 he4 ?_)
  refine g_iconst (pc := 28) (v := (1 : Int32)) S dX6_readForm_28 (by decide) ?_
  refine g_istore_n (pc := 29) (lv' := [(2, .int (1 : Int32)), (0, .ref (ad K c0)), (1, .ref (ad K c1))]) S dX6_readForm_29 rfl (by decide) rfl ?_
  refine g_iconst (pc := 30) (v := (0 : Int32)) S dX6_readForm_30 (by decide) ?_
  refine g_istore_n (pc := 31) (lv' := [(3, .int (0 : Int32)), (2, .int (1 : Int32)), (0, .ref (ad K c0)), (1, .ref (ad K c1))]) S dX6_readForm_31 rfl (by decide) rfl ?_
  refine g_bind hyp (fun e7 he7 hyp => ?_)
  refine g_sub [2, 3, 1, 0] rfl (g_loop (f := fun s : Int32 × Int32 × Hp => s_X6_readForm_l32 c0 c1 s.1 s.2.1 s.2.2) (ρ := (Hp) ⊕ (Int32 × Hp)) (Hd := fun s : Int32 × Int32 × Hp => Go K 32 [(0, .ref (ad K c0)), (1, .ref (ad K c1)), (2, .int s.1), (3, .int s.2.1)] [] s.2.2) (Ex := fun e7 => (∀ t, e7 = .inl t → Go K 82 [(0, .ref (ad K c0)), (1, .ref (ad K c1))] [] t) ∧ (∀ t, e7 = .inr t → Rt K (some .boolean) (some (.int t.1)) t.2)) (fun s o h1 h2 h3 => o_X6_readForm_l32 S k0 k1 s.1 s.2.1 s.2.2 h1 h2 (fun t q => (h3 _ q).1 t rfl) (fun t q => (h3 _ q).2 t rfl)) FUEL _ e7 he7 ?_)
  refine ⟨?_, ?_⟩
  · intro t8 q
    subst q
    try dsimp only [Sum.elim] at hyp
    refine g_aload_n (pc := 82) 0 S dX6_readForm_82 rfl ?_
    refine g_getI (pc := 83) S dX6_readForm_83 fl_X6_33 k0 ?_
    refine g_bipush (pc := 86) (v := (59 : Int32)) S dX6_readForm_86 (by decide) ?_
    refine g_icmp_ne (pc := 88) (tgt := 116) S dX6_readForm_88 (by decide) hyp (fun hyp => ?_) (fun hyp => ?_)
    · refine g_aload_n (pc := 91) 1 S dX6_readForm_91 rfl ?_
      refine g_aload_n (pc := 92) 0 S dX6_readForm_92 rfl ?_
      refine g_getR (pc := 93) S dX6_readForm_93 fl_X6_19 k0 ?_
      refine g_iconst (pc := 96) (v := (0 : Int32)) S dX6_readForm_96 (by decide) ?_
      refine g_iald (pc := 97) S dX6_readForm_97 (kf_6_2 k0) hyp (fun x9 hyp => ?_)
      refine g_aload_n (pc := 98) 0 S dX6_readForm_98 rfl ?_
      refine g_getR (pc := 99) S dX6_readForm_99 fl_X6_19 k0 ?_
      refine g_iconst (pc := 102) (v := (1 : Int32)) S dX6_readForm_102 (by decide) ?_
      refine g_iald (pc := 103) S dX6_readForm_103 (kf_6_2 k0) hyp (fun x10 hyp => ?_)
      refine g_aload_n (pc := 104) 0 S dX6_readForm_104 rfl ?_
      refine g_getR (pc := 105) S dX6_readForm_105 fl_X6_19 k0 ?_
      refine g_iconst (pc := 108) (v := (2 : Int32)) S dX6_readForm_108 (by decide) ?_
      refine g_iald (pc := 109) S dX6_readForm_109 (kf_6_2 k0) hyp (fun x11 hyp => ?_)
      refine g_bind hyp (fun y12 hy12 hyp => ?_)
      refine g_callV (pc := 110) (As := [.int x9, .int x10, .int x11]) (rest := []) S dX6_readForm_110 k1 rfl tw_481 tw_482 tw_483 mw_X5_allowsForm (m_X5_allowsForm k1 x9 x10 x11 t8 hy12) rfl rfl (Nat.le_of_ble_eq_true rfl) (Nat.le_of_ble_eq_true rfl) (Nat.le_of_ble_eq_true rfl) ?_
      refine g_if_ne (pc := 113) (tgt := 118) S dX6_readForm_113 (by decide) hyp (fun hyp => ?_) (fun hyp => ?_)
      · refine g_iconst (pc := 116) (v := (0 : Int32)) S dX6_readForm_116 (by decide) ?_
        have hyp := Option.some.inj hyp
        subst hyp
        exact g_zret (pc := 117) S F dX6_readForm_117 (Or.inl rfl)
      · refine g_aload_n (pc := 118) 1 S dX6_readForm_118 rfl ?_
        refine g_aload_n (pc := 119) 0 S dX6_readForm_119 rfl ?_
        refine g_getR (pc := 120) S dX6_readForm_120 fl_X6_19 k0 ?_
        refine g_iconst (pc := 123) (v := (0 : Int32)) S dX6_readForm_123 (by decide) ?_
        refine g_iald (pc := 124) S dX6_readForm_124 (kf_6_2 k0) hyp (fun x13 hyp => ?_)
        refine g_aload_n (pc := 125) 0 S dX6_readForm_125 rfl ?_
        refine g_getR (pc := 126) S dX6_readForm_126 fl_X6_19 k0 ?_
        refine g_iconst (pc := 129) (v := (1 : Int32)) S dX6_readForm_129 (by decide) ?_
        refine g_iald (pc := 130) S dX6_readForm_130 (kf_6_2 k0) hyp (fun x14 hyp => ?_)
        refine g_aload_n (pc := 131) 0 S dX6_readForm_131 rfl ?_
        refine g_getR (pc := 132) S dX6_readForm_132 fl_X6_19 k0 ?_
        refine g_iconst (pc := 135) (v := (2 : Int32)) S dX6_readForm_135 (by decide) ?_
        refine g_iald (pc := 136) S dX6_readForm_136 (kf_6_2 k0) hyp (fun x15 hyp => ?_)
        refine g_bind hyp (fun y16 hy16 hyp => ?_)
        refine g_callV (pc := 137) (As := [.int x13, .int x14, .int x15]) (rest := []) S dX6_readForm_137 k1 rfl tw_488 tw_489 tw_490 mw_X5_addForm (m_X5_addForm k1 x13 x14 x15 t8 hy16) rfl rfl (Nat.le_of_ble_eq_true rfl) (Nat.le_of_ble_eq_true rfl) (Nat.le_of_ble_eq_true rfl) ?_
        refine g_pop (pc := 140) S dX6_readForm_140 rfl ?_
        refine g_aload_n (pc := 141) 0 S dX6_readForm_141 rfl ?_
        refine g_bind hyp (fun y17 hy17 hyp => ?_)
        refine g_callV (pc := 142) (As := []) (rest := []) S dX6_readForm_142 k0 rfl tw_468 tw_469 tw_4 mw_X6_readSemicolon (m_X6_readSemicolon k0  y16.2 hy17) rfl rfl (Nat.le_of_ble_eq_true rfl) (Nat.le_of_ble_eq_true rfl) (Nat.le_of_ble_eq_true rfl) ?_
        refine g_ckB hyp (fun hz hyp => ?_)
        have hyp := Option.some.inj hyp
        subst hyp
        exact g_zret (pc := 145) S F dX6_readForm_145 hz
    · refine g_iconst (pc := 116) (v := (0 : Int32)) S dX6_readForm_116 (by decide) ?_
      have hyp := Option.some.inj hyp
      subst hyp
      exact g_zret (pc := 117) S F dX6_readForm_117 (Or.inl rfl)
  · intro t18 q
    subst q
    try dsimp only [Sum.elim] at hyp
    have hyp := Option.some.inj hyp
    subst hyp
    exact F
theorem m_X6_readForm {l : Launch} {D : va_G} {cT : Nat → ClassId} {aD : Nat → Nat} {c0 : Nat} (k0 : kd c0 (10 + 6, 0)) {c1 : Nat} (k1 : kd c1 (10 + 5, 0))  (h : Hp) {o : Int32 × Hp} (hyp : s_X6_readForm c0 c1  h = some o) : Ok l D cT aD yX6_readForm cX6_readForm 4 (some .boolean) 4 100 [.ref (aD c0), .ref (aD c1)] h (some (.int o.1)) o.2 :=
  Ok.of (by decide +kernel) rfl (Nat.le_of_ble_eq_true rfl) (fun K e1 e2 e3 e4 S F => by subst e1; exact o_X6_readForm S k0 k1  h hyp F)
-- BoundProofs$Problem addConstraint (III)Z
noncomputable def s_X5_addConstraint (c0 : Nat) (a1 : Int32) (a2 : Int32) (a3 : Int32) (h : Hp) : Option (Int32 × Hp) :=
  if (h.1 c0 2) < (10 : Int32) then (stI h (c0 + 2) 10 (h.1 c0 2) a1 fun h1 =>
  stI h1 (c0 + 3) 10 (h1.1 c0 2) a2 fun h2 =>
  stI h2 (c0 + 4) 10 (h2.1 c0 2) a3 fun h3 =>
  lt (sI h3 c0 2 ((h3.1 c0 2) + (1 : Int32))) fun h4 =>
  some ((1 : Int32), h4))
  else (some ((0 : Int32), h))
set_option maxRecDepth 100000 in
set_option maxHeartbeats 4000000 in
theorem o_X5_addConstraint {K : gK} (S : Cx K RX5 cX5_addConstraint 4 0 0) {c0 : Nat} (k0 : kd c0 (10 + 5, 0)) (a1 : Int32) (a2 : Int32) (a3 : Int32) (h : Hp) {o : Int32 × Hp} (hyp : s_X5_addConstraint c0 a1 a2 a3 h = some o) (F : Rt K (some .boolean) (some (.int o.1)) o.2) : Go K 0 [(0, .ref (ad K c0)), (1, .int a1), (2, .int a2), (3, .int a3)] [] h := by
  unfold s_X5_addConstraint at hyp
  refine g_aload_n (pc := 0) 0 S dX5_addConstraint_0 rfl ?_
  refine g_getI (pc := 1) S dX5_addConstraint_1 fl_X5_18 k0 ?_
  refine g_bipush (pc := 4) (v := (10 : Int32)) S dX5_addConstraint_4 (by decide) ?_
  refine g_icmp_lt (pc := 6) (tgt := 11) S dX5_addConstraint_6 (by decide) hyp (fun hyp => ?_) (fun hyp => ?_)
  · refine g_aload_n (pc := 11) 0 S dX5_addConstraint_11 rfl ?_
    refine g_getR (pc := 12) S dX5_addConstraint_12 fl_X5_28 k0 ?_
    refine g_aload_n (pc := 15) 0 S dX5_addConstraint_15 rfl ?_
    refine g_getI (pc := 16) S dX5_addConstraint_16 fl_X5_18 k0 ?_
    refine g_iload_n (pc := 19) 1 S dX5_addConstraint_19 rfl ?_
    refine g_iast (pc := 20) S dX5_addConstraint_20 (kf_5_2 k0) hyp (fun h1 hyp => ?_)
    refine g_aload_n (pc := 21) 0 S dX5_addConstraint_21 rfl ?_
    refine g_getR (pc := 22) S dX5_addConstraint_22 fl_X5_31 k0 ?_
    refine g_aload_n (pc := 25) 0 S dX5_addConstraint_25 rfl ?_
    refine g_getI (pc := 26) S dX5_addConstraint_26 fl_X5_18 k0 ?_
    refine g_iload_n (pc := 29) 2 S dX5_addConstraint_29 rfl ?_
    refine g_iast (pc := 30) S dX5_addConstraint_30 (kf_5_3 k0) hyp (fun h2 hyp => ?_)
    refine g_aload_n (pc := 31) 0 S dX5_addConstraint_31 rfl ?_
    refine g_getR (pc := 32) S dX5_addConstraint_32 fl_X5_34 k0 ?_
    refine g_aload_n (pc := 35) 0 S dX5_addConstraint_35 rfl ?_
    refine g_getI (pc := 36) S dX5_addConstraint_36 fl_X5_18 k0 ?_
    refine g_iload_n (pc := 39) 3 S dX5_addConstraint_39 rfl ?_
    refine g_iast (pc := 40) S dX5_addConstraint_40 (kf_5_4 k0) hyp (fun h3 hyp => ?_)
    refine g_aload_n (pc := 41) 0 S dX5_addConstraint_41 rfl ?_
    refine g_dup (pc := 42) S dX5_addConstraint_42 rfl ?_
    refine g_getI (pc := 43) S dX5_addConstraint_43 fl_X5_18 k0 ?_
    refine g_iconst (pc := 46) (v := (1 : Int32)) S dX5_addConstraint_46 (by decide) ?_
    refine g_iadd (pc := 47) S dX5_addConstraint_47 ?_
    refine g_putI (pc := 48) S dX5_addConstraint_48 fl_X5_18 k0 hyp (fun h4 hyp => ?_)
    refine g_iconst (pc := 51) (v := (1 : Int32)) S dX5_addConstraint_51 (by decide) ?_
    have hyp := Option.some.inj hyp
    subst hyp
    exact g_zret (pc := 52) S F dX5_addConstraint_52 (Or.inr rfl)
  · refine g_iconst (pc := 9) (v := (0 : Int32)) S dX5_addConstraint_9 (by decide) ?_
    have hyp := Option.some.inj hyp
    subst hyp
    exact g_zret (pc := 10) S F dX5_addConstraint_10 (Or.inl rfl)
theorem m_X5_addConstraint {l : Launch} {D : va_G} {cT : Nat → ClassId} {aD : Nat → Nat} {c0 : Nat} (k0 : kd c0 (10 + 5, 0)) (a1 : Int32) (a2 : Int32) (a3 : Int32) (h : Hp) {o : Int32 × Hp} (hyp : s_X5_addConstraint c0 a1 a2 a3 h = some o) : Ok l D cT aD yX5_addConstraint cX5_addConstraint 4 (some .boolean) 0 0 [.ref (aD c0), .int a1, .int a2, .int a3] h (some (.int o.1)) o.2 :=
  Ok.of (by decide +kernel) rfl (Nat.le_of_ble_eq_true rfl) (fun K e1 e2 e3 e4 S F => by subst e1; exact o_X5_addConstraint S k0 a1 a2 a3 h hyp F)
-- BoundProofs$Reader readConstraint (LBoundProofs$Problem;)Z
noncomputable def s_X6_readConstraint_b78 (c0 : Nat) (c1 : Nat) (a2 : Int32) (a3 : Int32) (a4 : Int32) (h : Hp) : Option (Int32 × Hp) :=
  (s_X6_isNumber c0 (0 : Int32) (50 : Int32) h).bind fun y9 =>
  if y9 = 0 then (some ((0 : Int32), h))
  else ((s_X5_addConstraint c1 a2 a3 (a4 * (h.1 c0 5)) h).bind fun y10 =>
  (s_X6_step c0  y10.2).bind fun y11 =>
  (s_X6_readSemicolon c0  y11).bind fun y12 =>
  ckB y12.1 <|
  some (y12.1, y12.2))
noncomputable def s_X6_readConstraint_b63 (c0 : Nat) (c1 : Nat) (a2 : Int32) (a3 : Int32) (t0 : Int32) (h : Hp) : Option (Int32 × Hp) :=
  if (h.1 c0 2) = (45 : Int32) then ((s_X6_step c0  h).bind fun y8 =>
  s_X6_readConstraint_b78 c0 c1 a2 a3 t0 y8)
  else (s_X6_readConstraint_b78 c0 c1 a2 a3 t0 h)
noncomputable def s_X6_readConstraint (c0 : Nat) (c1 : Nat)  (h : Hp) : Option (Int32 × Hp) :=
  (s_X6_step c0  h).bind fun y1 =>
  (s_X6_isNumber c0 (0 : Int32) ((y1.1 c1 1) - (1 : Int32)) y1).bind fun y2 =>
  if y2 = 0 then (some ((0 : Int32), y1))
  else (lt (y1.1 c0 5) fun v2_3 =>
  (s_X6_step c0  y1).bind fun y4 =>
  (s_X6_isNumber c0 (0 : Int32) (4 : Int32) y4).bind fun y5 =>
  if y5 = 0 then (some ((0 : Int32), y4))
  else (lt (y4.1 c0 5) fun v3_6 =>
  (s_X6_step c0  y4).bind fun y7 =>
  if (y7.1 c0 2) = (45 : Int32) then (s_X6_readConstraint_b63 c0 c1 v2_3 v3_6 (-1 : Int32) y7)
  else (s_X6_readConstraint_b63 c0 c1 v2_3 v3_6 (1 : Int32) y7)))
set_option maxRecDepth 100000 in
set_option maxHeartbeats 4000000 in
theorem o_X6_readConstraint_b78 {K : gK} (S : Cx K RX6 cX6_readConstraint 5 4 97) {c0 : Nat} (k0 : kd c0 (10 + 6, 0)) {c1 : Nat} (k1 : kd c1 (10 + 5, 0)) (a2 : Int32) (a3 : Int32) (a4 : Int32) (h : Hp) {o : Int32 × Hp} (hyp : s_X6_readConstraint_b78 c0 c1 a2 a3 a4 h = some o) (F : Rt K (some .boolean) (some (.int o.1)) o.2) : Go K 78 [(0, .ref (ad K c0)), (1, .ref (ad K c1)), (2, .int a2), (3, .int a3), (4, .int a4)] [] h := by
  unfold s_X6_readConstraint_b78 at hyp
  refine g_aload_n (pc := 78) 0 S dX6_readConstraint_78 rfl ?_
  refine g_iconst (pc := 79) (v := (0 : Int32)) S dX6_readConstraint_79 (by decide) ?_
  refine g_bipush (pc := 80) (v := (50 : Int32)) S dX6_readConstraint_80 (by decide) ?_
  refine g_bind hyp (fun y9 hy9 hyp => ?_)
  refine g_callV (pc := 82) (As := [.int (0 : Int32), .int (50 : Int32)]) (rest := []) S dX6_readConstraint_82 k0 rfl tw_465 tw_466 tw_3 mw_X6_isNumber (m_X6_isNumber k0 (0 : Int32) (50 : Int32) h hy9) rfl rfl (Nat.le_of_ble_eq_true rfl) (Nat.le_of_ble_eq_true rfl) (Nat.le_of_ble_eq_true rfl) ?_
  refine g_if_ne (pc := 85) (tgt := 90) S dX6_readConstraint_85 (by decide) hyp (fun hyp => ?_) (fun hyp => ?_)
  · refine g_iconst (pc := 88) (v := (0 : Int32)) S dX6_readConstraint_88 (by decide) ?_
    have hyp := Option.some.inj hyp
    subst hyp
    exact g_zret (pc := 89) S F dX6_readConstraint_89 (Or.inl rfl)
  · refine g_aload_n (pc := 90) 1 S dX6_readConstraint_90 rfl ?_
    refine g_iload_n (pc := 91) 2 S dX6_readConstraint_91 rfl ?_
    refine g_iload_n (pc := 92) 3 S dX6_readConstraint_92 rfl ?_
    refine g_iload (pc := 93) 4 S dX6_readConstraint_93 rfl ?_
    refine g_aload_n (pc := 95) 0 S dX6_readConstraint_95 rfl ?_
    refine g_getI (pc := 96) S dX6_readConstraint_96 fl_X6_65 k0 ?_
    refine g_imul (pc := 99) S dX6_readConstraint_99 ?_
    refine g_bind hyp (fun y10 hy10 hyp => ?_)
    refine g_callV (pc := 100) (As := [.int a2, .int a3, .int (a4 * (h.1 c0 5))]) (rest := []) S dX6_readConstraint_100 k1 rfl tw_495 tw_496 tw_497 mw_X5_addConstraint (m_X5_addConstraint k1 a2 a3 (a4 * (h.1 c0 5)) h hy10) rfl rfl (Nat.le_of_ble_eq_true rfl) (Nat.le_of_ble_eq_true rfl) (Nat.le_of_ble_eq_true rfl) ?_
    refine g_pop (pc := 103) S dX6_readConstraint_103 rfl ?_
    refine g_aload_n (pc := 104) 0 S dX6_readConstraint_104 rfl ?_
    refine g_bind hyp (fun y11 hy11 hyp => ?_)
    refine g_callV (pc := 105) (As := []) (rest := []) S dX6_readConstraint_105 k0 rfl tw_447 tw_448 tw_0 mw_X6_step (m_X6_step k0  y10.2 hy11) rfl rfl (Nat.le_of_ble_eq_true rfl) (Nat.le_of_ble_eq_true rfl) (Nat.le_of_ble_eq_true rfl) ?_
    refine g_aload_n (pc := 108) 0 S dX6_readConstraint_108 rfl ?_
    refine g_bind hyp (fun y12 hy12 hyp => ?_)
    refine g_callV (pc := 109) (As := []) (rest := []) S dX6_readConstraint_109 k0 rfl tw_468 tw_469 tw_4 mw_X6_readSemicolon (m_X6_readSemicolon k0  y11 hy12) rfl rfl (Nat.le_of_ble_eq_true rfl) (Nat.le_of_ble_eq_true rfl) (Nat.le_of_ble_eq_true rfl) ?_
    refine g_ckB hyp (fun hz hyp => ?_)
    have hyp := Option.some.inj hyp
    subst hyp
    exact g_zret (pc := 112) S F dX6_readConstraint_112 hz
set_option maxRecDepth 100000 in
set_option maxHeartbeats 4000000 in
theorem o_X6_readConstraint_b63 {K : gK} (S : Cx K RX6 cX6_readConstraint 5 4 97) {c0 : Nat} (k0 : kd c0 (10 + 6, 0)) {c1 : Nat} (k1 : kd c1 (10 + 5, 0)) (a2 : Int32) (a3 : Int32) (t0 : Int32) (h : Hp) {o : Int32 × Hp} (hyp : s_X6_readConstraint_b63 c0 c1 a2 a3 t0 h = some o) (F : Rt K (some .boolean) (some (.int o.1)) o.2) : Go K 63 [(0, .ref (ad K c0)), (1, .ref (ad K c1)), (2, .int a2), (3, .int a3)] [.int t0] h := by
  unfold s_X6_readConstraint_b63 at hyp
  refine g_istore (pc := 63) (lv' := [(4, .int t0), (0, .ref (ad K c0)), (1, .ref (ad K c1)), (2, .int a2), (3, .int a3)]) S dX6_readConstraint_63 (by decide) rfl ?_
  refine g_aload_n (pc := 65) 1 S dX6_readConstraint_65 rfl ?_
  refine g_getI (pc := 66) S dX6_readConstraint_66 fl_X6_33 k0 ?_
  refine g_bipush (pc := 69) (v := (45 : Int32)) S dX6_readConstraint_69 (by decide) ?_
  refine g_icmp_ne (pc := 71) (tgt := 78) S dX6_readConstraint_71 (by decide) hyp (fun hyp => ?_) (fun hyp => ?_)
  · refine g_aload_n (pc := 74) 1 S dX6_readConstraint_74 rfl ?_
    refine g_bind hyp (fun y8 hy8 hyp => ?_)
    refine g_callV (pc := 75) (As := []) (rest := []) S dX6_readConstraint_75 k0 rfl tw_447 tw_448 tw_0 mw_X6_step (m_X6_step k0  h hy8) rfl rfl (Nat.le_of_ble_eq_true rfl) (Nat.le_of_ble_eq_true rfl) (Nat.le_of_ble_eq_true rfl) ?_
    exact g_sub [1, 2, 3, 4, 0] rfl (o_X6_readConstraint_b78 S k0 k1 a2 a3 t0 y8 hyp F)
  · exact g_sub [1, 2, 3, 4, 0] rfl (o_X6_readConstraint_b78 S k0 k1 a2 a3 t0 h hyp F)
set_option maxRecDepth 100000 in
set_option maxHeartbeats 4000000 in
theorem o_X6_readConstraint {K : gK} (S : Cx K RX6 cX6_readConstraint 5 4 97) {c0 : Nat} (k0 : kd c0 (10 + 6, 0)) {c1 : Nat} (k1 : kd c1 (10 + 5, 0))  (h : Hp) {o : Int32 × Hp} (hyp : s_X6_readConstraint c0 c1  h = some o) (F : Rt K (some .boolean) (some (.int o.1)) o.2) : Go K 0 [(0, .ref (ad K c0)), (1, .ref (ad K c1))] [] h := by
  unfold s_X6_readConstraint at hyp
  refine g_aload_n (pc := 0) 0 S dX6_readConstraint_0 rfl ?_
  refine g_bind hyp (fun y1 hy1 hyp => ?_)
  refine g_callV (pc := 1) (As := []) (rest := []) S dX6_readConstraint_1 k0 rfl tw_447 tw_448 tw_0 mw_X6_step (m_X6_step k0  h hy1) rfl rfl (Nat.le_of_ble_eq_true rfl) (Nat.le_of_ble_eq_true rfl) (Nat.le_of_ble_eq_true rfl) ?_
  refine g_aload_n (pc := 4) 0 S dX6_readConstraint_4 rfl ?_
  refine g_iconst (pc := 5) (v := (0 : Int32)) S dX6_readConstraint_5 (by decide) ?_
  refine g_aload_n (pc := 6) 1 S dX6_readConstraint_6 rfl ?_
  refine g_getI (pc := 7) S dX6_readConstraint_7 fl_X6_40 k1 ?_
  refine g_iconst (pc := 10) (v := (1 : Int32)) S dX6_readConstraint_10 (by decide) ?_
  refine g_isub (pc := 11) S dX6_readConstraint_11 ?_
  refine g_bind hyp (fun y2 hy2 hyp => ?_)
  refine g_callV (pc := 12) (As := [.int (0 : Int32), .int ((y1.1 c1 1) - (1 : Int32))]) (rest := []) S dX6_readConstraint_12 k0 rfl tw_465 tw_466 tw_3 mw_X6_isNumber (m_X6_isNumber k0 (0 : Int32) ((y1.1 c1 1) - (1 : Int32)) y1 hy2) rfl rfl (Nat.le_of_ble_eq_true rfl) (Nat.le_of_ble_eq_true rfl) (Nat.le_of_ble_eq_true rfl) ?_
  refine g_if_ne (pc := 15) (tgt := 20) S dX6_readConstraint_15 (by decide) hyp (fun hyp => ?_) (fun hyp => ?_)
  · refine g_iconst (pc := 18) (v := (0 : Int32)) S dX6_readConstraint_18 (by decide) ?_
    have hyp := Option.some.inj hyp
    subst hyp
    exact g_zret (pc := 19) S F dX6_readConstraint_19 (Or.inl rfl)
  · refine g_aload_n (pc := 20) 0 S dX6_readConstraint_20 rfl ?_
    refine g_getI (pc := 21) S dX6_readConstraint_21 fl_X6_65 k0 ?_
    refine g_lti (C := fun v2_3 => Go K 24 [(0, .ref (ad K c0)), (1, .ref (ad K c1))] [.int v2_3] y1) hyp (fun v2_3 hyp => ?_)
    refine g_istore_n (pc := 24) (lv' := [(2, .int v2_3), (0, .ref (ad K c0)), (1, .ref (ad K c1))]) S dX6_readConstraint_24 rfl (by decide) rfl ?_
    refine g_aload_n (pc := 25) 1 S dX6_readConstraint_25 rfl ?_
    refine g_bind hyp (fun y4 hy4 hyp => ?_)
    refine g_callV (pc := 26) (As := []) (rest := []) S dX6_readConstraint_26 k0 rfl tw_447 tw_448 tw_0 mw_X6_step (m_X6_step k0  y1 hy4) rfl rfl (Nat.le_of_ble_eq_true rfl) (Nat.le_of_ble_eq_true rfl) (Nat.le_of_ble_eq_true rfl) ?_
    refine g_aload_n (pc := 29) 1 S dX6_readConstraint_29 rfl ?_
    refine g_iconst (pc := 30) (v := (0 : Int32)) S dX6_readConstraint_30 (by decide) ?_
    refine g_iconst (pc := 31) (v := (4 : Int32)) S dX6_readConstraint_31 (by decide) ?_
    refine g_bind hyp (fun y5 hy5 hyp => ?_)
    refine g_callV (pc := 32) (As := [.int (0 : Int32), .int (4 : Int32)]) (rest := []) S dX6_readConstraint_32 k0 rfl tw_465 tw_466 tw_3 mw_X6_isNumber (m_X6_isNumber k0 (0 : Int32) (4 : Int32) y4 hy5) rfl rfl (Nat.le_of_ble_eq_true rfl) (Nat.le_of_ble_eq_true rfl) (Nat.le_of_ble_eq_true rfl) ?_
    refine g_if_ne (pc := 35) (tgt := 40) S dX6_readConstraint_35 (by decide) hyp (fun hyp => ?_) (fun hyp => ?_)
    · refine g_iconst (pc := 38) (v := (0 : Int32)) S dX6_readConstraint_38 (by decide) ?_
      have hyp := Option.some.inj hyp
      subst hyp
      exact g_zret (pc := 39) S F dX6_readConstraint_39 (Or.inl rfl)
    · refine g_aload_n (pc := 40) 1 S dX6_readConstraint_40 rfl ?_
      refine g_getI (pc := 41) S dX6_readConstraint_41 fl_X6_65 k0 ?_
      refine g_lti (C := fun v3_6 => Go K 44 [(2, .int v2_3), (0, .ref (ad K c0)), (1, .ref (ad K c1))] [.int v3_6] y4) hyp (fun v3_6 hyp => ?_)
      refine g_istore_n (pc := 44) (lv' := [(3, .int v3_6), (2, .int v2_3), (0, .ref (ad K c0)), (1, .ref (ad K c1))]) S dX6_readConstraint_44 rfl (by decide) rfl ?_
      refine g_aload_n (pc := 45) 2 S dX6_readConstraint_45 rfl ?_
      refine g_bind hyp (fun y7 hy7 hyp => ?_)
      refine g_callV (pc := 46) (As := []) (rest := []) S dX6_readConstraint_46 k0 rfl tw_447 tw_448 tw_0 mw_X6_step (m_X6_step k0  y4 hy7) rfl rfl (Nat.le_of_ble_eq_true rfl) (Nat.le_of_ble_eq_true rfl) (Nat.le_of_ble_eq_true rfl) ?_
      refine g_aload_n (pc := 49) 2 S dX6_readConstraint_49 rfl ?_
      refine g_getI (pc := 50) S dX6_readConstraint_50 fl_X6_33 k0 ?_
      refine g_bipush (pc := 53) (v := (45 : Int32)) S dX6_readConstraint_53 (by decide) ?_
      refine g_icmp_ne (pc := 55) (tgt := 62) S dX6_readConstraint_55 (by decide) hyp (fun hyp => ?_) (fun hyp => ?_)
      · refine g_iconst (pc := 58) (v := (-1 : Int32)) S dX6_readConstraint_58 (by decide) ?_
        refine g_goto (pc := 59) (tgt := 63) S dX6_readConstraint_59 (by decide) ?_
        exact g_sub [2, 3, 1, 0] rfl (o_X6_readConstraint_b63 S k0 k1 v2_3 v3_6 (-1 : Int32) y7 hyp F)
      · refine g_iconst (pc := 62) (v := (1 : Int32)) S dX6_readConstraint_62 (by decide) ?_
        exact g_sub [2, 3, 1, 0] rfl (o_X6_readConstraint_b63 S k0 k1 v2_3 v3_6 (1 : Int32) y7 hyp F)
theorem m_X6_readConstraint {l : Launch} {D : va_G} {cT : Nat → ClassId} {aD : Nat → Nat} {c0 : Nat} (k0 : kd c0 (10 + 6, 0)) {c1 : Nat} (k1 : kd c1 (10 + 5, 0))  (h : Hp) {o : Int32 × Hp} (hyp : s_X6_readConstraint c0 c1  h = some o) : Ok l D cT aD yX6_readConstraint cX6_readConstraint 5 (some .boolean) 4 97 [.ref (aD c0), .ref (aD c1)] h (some (.int o.1)) o.2 :=
  Ok.of (by decide +kernel) rfl (Nat.le_of_ble_eq_true rfl) (fun K e1 e2 e3 e4 S F => by subst e1; exact o_X6_readConstraint S k0 k1  h hyp F)
-- BoundProofs$Reader read (LBoundProofs$Problem;)I
noncomputable def s_X6_read_b114 (c0 : Nat) (c1 : Nat) (a2 : Int32) (a3 : Int32) (h : Hp) : Option ((Int32 × Int32 × Hp) ⊕ (Int32 × Int32 × Hp)) :=
  lt (a2 + (1 : Int32)) fun v2_5 =>
  some (.inl (v2_5, a3, h))
noncomputable def s_X6_read_b112 (c0 : Nat) (c1 : Nat) (a2 : Int32) (h : Hp) : Option ((Int32 × Int32 × Hp) ⊕ (Int32 × Int32 × Hp)) :=
  s_X6_read_b114 c0 c1 a2 (0 : Int32) h
noncomputable def s_X6_read_b85 (c0 : Nat) (c1 : Nat) (a2 : Int32) (h : Hp) : Option ((Int32 × Int32 × Hp) ⊕ (Int32 × Int32 × Hp)) :=
  if (h.1 c0 2) = (98 : Int32) then (if (h.1 c1 2) < (10 : Int32) then ((s_X6_readConstraint c0 c1  h).bind fun y7 =>
  s_X6_read_b114 c0 c1 a2 y7.1 y7.2)
  else (s_X6_read_b112 c0 c1 a2 h))
  else (s_X6_read_b112 c0 c1 a2 h)
noncomputable def s_X6_read_b58 (c0 : Nat) (c1 : Nat) (a2 : Int32) (h : Hp) : Option ((Int32 × Int32 × Hp) ⊕ (Int32 × Int32 × Hp)) :=
  if (h.1 c0 2) = (102 : Int32) then (if (h.1 c1 1) < (8 : Int32) then ((s_X6_readForm c0 c1  h).bind fun y6 =>
  s_X6_read_b114 c0 c1 a2 y6.1 y6.2)
  else (s_X6_read_b85 c0 c1 a2 h))
  else (s_X6_read_b85 c0 c1 a2 h)
noncomputable def s_X6_read_l17 (c0 : Nat) (c1 : Nat) (a2 : Int32) (a3 : Int32) (h : Hp) : Option ((Int32 × Int32 × Hp) ⊕ (Int32 × Int32 × Hp)) :=
  if a2 < (90 : Int32) then (if (h.1 c0 2) = (-2 : Int32) then (some (.inr ((a2, a3, h))))
  else (if a3 = 0 then (some (.inr ((a2, a3, h))))
  else (if (h.1 c0 2) = (110 : Int32) then (if a2 = 0 then ((s_X6_readVariables c0 c1  h).bind fun y4 =>
  s_X6_read_b114 c0 c1 a2 y4.1 y4.2)
  else (s_X6_read_b58 c0 c1 a2 h))
  else (s_X6_read_b58 c0 c1 a2 h))))
  else (some (.inr ((a2, a3, h))))
noncomputable def s_X6_read (c0 : Nat) (c1 : Nat)  (h : Hp) : Option (Int32 × Hp) :=
  (s_X5_reset c1  h).bind fun y1 =>
  lt (sI y1 c0 4 (0 : Int32)) fun h2 =>
  (s_X6_step c0  h2).bind fun y3 =>
  (iter (fun s : Int32 × Int32 × Hp => s_X6_read_l17 c0 c1 s.1 s.2.1 s.2.2) FUEL ((0 : Int32), (1 : Int32), y3)).bind fun e8 =>
  if e8.2.1 = 0 then (some (((-10 : Int32) - (e8.2.2.1 c0 3)), e8.2.2))
  else (some (e8.1, e8.2.2))
set_option maxRecDepth 100000 in
set_option maxHeartbeats 4000000 in
theorem o_X6_read_b114 {K : gK} (S : Cx K RX6 cX6_read 4 5 127) {c0 : Nat} (k0 : kd c0 (10 + 6, 0)) {c1 : Nat} (k1 : kd c1 (10 + 5, 0)) (a2 : Int32) (a3 : Int32) (h : Hp) {o : (Int32 × Int32 × Hp) ⊕ (Int32 × Int32 × Hp)} (hyp : s_X6_read_b114 c0 c1 a2 a3 h = some o) (hin : ∀ s', o = .inl s' → Go K 17 [(0, .ref (ad K c0)), (1, .ref (ad K c1)), (2, .int s'.1), (3, .int s'.2.1)] [] s'.2.2) (hex0 : ∀ s', o = .inr (s') → Go K 120 [(0, .ref (ad K c0)), (2, .int s'.1), (3, .int s'.2.1)] [] s'.2.2) : Go K 114 [(0, .ref (ad K c0)), (1, .ref (ad K c1)), (2, .int a2), (3, .int a3)] [] h := by
  unfold s_X6_read_b114 at hyp
  refine g_iinc (pc := 114) (v := (a2 + (1 : Int32))) (lv' := [(2, .int (a2 + (1 : Int32))), (0, .ref (ad K c0)), (1, .ref (ad K c1)), (3, .int a3)]) 2 S dX6_read_114 rfl (by rfl) (by decide) rfl ?_
  refine g_lti (C := fun v2_5 => Go K (114 + 3) [(2, .int v2_5), (0, .ref (ad K c0)), (1, .ref (ad K c1)), (3, .int a3)] [] h) hyp (fun v2_5 hyp => ?_)
  refine g_goto (pc := 117) (tgt := 17) S dX6_read_117 (by decide) ?_
  have hyp := Option.some.inj hyp
  subst hyp
  exact g_sub [1, 2, 0, 3] rfl (hin (v2_5, a3, h) rfl)
set_option maxRecDepth 100000 in
set_option maxHeartbeats 4000000 in
theorem o_X6_read_b112 {K : gK} (S : Cx K RX6 cX6_read 4 5 127) {c0 : Nat} (k0 : kd c0 (10 + 6, 0)) {c1 : Nat} (k1 : kd c1 (10 + 5, 0)) (a2 : Int32) (h : Hp) {o : (Int32 × Int32 × Hp) ⊕ (Int32 × Int32 × Hp)} (hyp : s_X6_read_b112 c0 c1 a2 h = some o) (hin : ∀ s', o = .inl s' → Go K 17 [(0, .ref (ad K c0)), (1, .ref (ad K c1)), (2, .int s'.1), (3, .int s'.2.1)] [] s'.2.2) (hex0 : ∀ s', o = .inr (s') → Go K 120 [(0, .ref (ad K c0)), (2, .int s'.1), (3, .int s'.2.1)] [] s'.2.2) : Go K 112 [(0, .ref (ad K c0)), (1, .ref (ad K c1)), (2, .int a2)] [] h := by
  unfold s_X6_read_b112 at hyp
  refine g_iconst (pc := 112) (v := (0 : Int32)) S dX6_read_112 (by decide) ?_
  refine g_istore_n (pc := 113) (lv' := [(3, .int (0 : Int32)), (0, .ref (ad K c0)), (1, .ref (ad K c1)), (2, .int a2)]) S dX6_read_113 rfl (by decide) rfl ?_
  exact g_sub [1, 2, 3, 0] rfl (o_X6_read_b114 S k0 k1 a2 (0 : Int32) h hyp hin hex0)
set_option maxRecDepth 100000 in
set_option maxHeartbeats 4000000 in
theorem o_X6_read_b85 {K : gK} (S : Cx K RX6 cX6_read 4 5 127) {c0 : Nat} (k0 : kd c0 (10 + 6, 0)) {c1 : Nat} (k1 : kd c1 (10 + 5, 0)) (a2 : Int32) (h : Hp) {o : (Int32 × Int32 × Hp) ⊕ (Int32 × Int32 × Hp)} (hyp : s_X6_read_b85 c0 c1 a2 h = some o) (hin : ∀ s', o = .inl s' → Go K 17 [(0, .ref (ad K c0)), (1, .ref (ad K c1)), (2, .int s'.1), (3, .int s'.2.1)] [] s'.2.2) (hex0 : ∀ s', o = .inr (s') → Go K 120 [(0, .ref (ad K c0)), (2, .int s'.1), (3, .int s'.2.1)] [] s'.2.2) : Go K 85 [(0, .ref (ad K c0)), (1, .ref (ad K c1)), (2, .int a2)] [] h := by
  unfold s_X6_read_b85 at hyp
  refine g_aload_n (pc := 85) 0 S dX6_read_85 rfl ?_
  refine g_getI (pc := 86) S dX6_read_86 fl_X6_33 k0 ?_
  refine g_bipush (pc := 89) (v := (98 : Int32)) S dX6_read_89 (by decide) ?_
  refine g_icmp_ne (pc := 91) (tgt := 112) S dX6_read_91 (by decide) hyp (fun hyp => ?_) (fun hyp => ?_)
  · refine g_aload_n (pc := 94) 1 S dX6_read_94 rfl ?_
    refine g_getI (pc := 95) S dX6_read_95 fl_X6_46 k1 ?_
    refine g_bipush (pc := 98) (v := (10 : Int32)) S dX6_read_98 (by decide) ?_
    refine g_icmp_ge (pc := 100) (tgt := 112) S dX6_read_100 (by decide) hyp (fun hyp => ?_) (fun hyp => ?_)
    · refine g_aload_n (pc := 103) 0 S dX6_read_103 rfl ?_
      refine g_aload_n (pc := 104) 1 S dX6_read_104 rfl ?_
      refine g_bind hyp (fun y7 hy7 hyp => ?_)
      refine g_callV (pc := 105) (As := [.ref (ad K c1)]) (rest := []) S dX6_read_105 k0 rfl tw_492 tw_493 tw_8 mw_X6_readConstraint (m_X6_readConstraint k0 k1  h hy7) rfl rfl (Nat.le_of_ble_eq_true rfl) (Nat.le_of_ble_eq_true rfl) (Nat.le_of_ble_eq_true rfl) ?_
      refine g_istore_n (pc := 108) (lv' := [(3, .int y7.1), (0, .ref (ad K c0)), (1, .ref (ad K c1)), (2, .int a2)]) S dX6_read_108 rfl (by decide) rfl ?_
      refine g_goto (pc := 109) (tgt := 114) S dX6_read_109 (by decide) ?_
      exact g_sub [1, 2, 3, 0] rfl (o_X6_read_b114 S k0 k1 a2 y7.1 y7.2 hyp hin hex0)
    · exact g_sub [0, 1, 2] rfl (o_X6_read_b112 S k0 k1 a2 h hyp hin hex0)
  · exact g_sub [0, 1, 2] rfl (o_X6_read_b112 S k0 k1 a2 h hyp hin hex0)
set_option maxRecDepth 100000 in
set_option maxHeartbeats 4000000 in
theorem o_X6_read_b58 {K : gK} (S : Cx K RX6 cX6_read 4 5 127) {c0 : Nat} (k0 : kd c0 (10 + 6, 0)) {c1 : Nat} (k1 : kd c1 (10 + 5, 0)) (a2 : Int32) (h : Hp) {o : (Int32 × Int32 × Hp) ⊕ (Int32 × Int32 × Hp)} (hyp : s_X6_read_b58 c0 c1 a2 h = some o) (hin : ∀ s', o = .inl s' → Go K 17 [(0, .ref (ad K c0)), (1, .ref (ad K c1)), (2, .int s'.1), (3, .int s'.2.1)] [] s'.2.2) (hex0 : ∀ s', o = .inr (s') → Go K 120 [(0, .ref (ad K c0)), (2, .int s'.1), (3, .int s'.2.1)] [] s'.2.2) : Go K 58 [(0, .ref (ad K c0)), (1, .ref (ad K c1)), (2, .int a2)] [] h := by
  unfold s_X6_read_b58 at hyp
  refine g_aload_n (pc := 58) 0 S dX6_read_58 rfl ?_
  refine g_getI (pc := 59) S dX6_read_59 fl_X6_33 k0 ?_
  refine g_bipush (pc := 62) (v := (102 : Int32)) S dX6_read_62 (by decide) ?_
  refine g_icmp_ne (pc := 64) (tgt := 85) S dX6_read_64 (by decide) hyp (fun hyp => ?_) (fun hyp => ?_)
  · refine g_aload_n (pc := 67) 1 S dX6_read_67 rfl ?_
    refine g_getI (pc := 68) S dX6_read_68 fl_X6_40 k1 ?_
    refine g_bipush (pc := 71) (v := (8 : Int32)) S dX6_read_71 (by decide) ?_
    refine g_icmp_ge (pc := 73) (tgt := 85) S dX6_read_73 (by decide) hyp (fun hyp => ?_) (fun hyp => ?_)
    · refine g_aload_n (pc := 76) 0 S dX6_read_76 rfl ?_
      refine g_aload_n (pc := 77) 1 S dX6_read_77 rfl ?_
      refine g_bind hyp (fun y6 hy6 hyp => ?_)
      refine g_callV (pc := 78) (As := [.ref (ad K c1)]) (rest := []) S dX6_read_78 k0 rfl tw_471 tw_472 tw_5 mw_X6_readForm (m_X6_readForm k0 k1  h hy6) rfl rfl (Nat.le_of_ble_eq_true rfl) (Nat.le_of_ble_eq_true rfl) (Nat.le_of_ble_eq_true rfl) ?_
      refine g_istore_n (pc := 81) (lv' := [(3, .int y6.1), (0, .ref (ad K c0)), (1, .ref (ad K c1)), (2, .int a2)]) S dX6_read_81 rfl (by decide) rfl ?_
      refine g_goto (pc := 82) (tgt := 114) S dX6_read_82 (by decide) ?_
      exact g_sub [1, 2, 3, 0] rfl (o_X6_read_b114 S k0 k1 a2 y6.1 y6.2 hyp hin hex0)
    · exact g_sub [0, 1, 2] rfl (o_X6_read_b85 S k0 k1 a2 h hyp hin hex0)
  · exact g_sub [0, 1, 2] rfl (o_X6_read_b85 S k0 k1 a2 h hyp hin hex0)
set_option maxRecDepth 100000 in
set_option maxHeartbeats 4000000 in
theorem o_X6_read_l17 {K : gK} (S : Cx K RX6 cX6_read 4 5 127) {c0 : Nat} (k0 : kd c0 (10 + 6, 0)) {c1 : Nat} (k1 : kd c1 (10 + 5, 0)) (a2 : Int32) (a3 : Int32) (h : Hp) {o : (Int32 × Int32 × Hp) ⊕ (Int32 × Int32 × Hp)} (hyp : s_X6_read_l17 c0 c1 a2 a3 h = some o) (hin : ∀ s', o = .inl s' → Go K 17 [(0, .ref (ad K c0)), (1, .ref (ad K c1)), (2, .int s'.1), (3, .int s'.2.1)] [] s'.2.2) (hex0 : ∀ s', o = .inr (s') → Go K 120 [(0, .ref (ad K c0)), (2, .int s'.1), (3, .int s'.2.1)] [] s'.2.2) : Go K 17 [(0, .ref (ad K c0)), (1, .ref (ad K c1)), (2, .int a2), (3, .int a3)] [] h := by
  unfold s_X6_read_l17 at hyp
  refine g_iload_n (pc := 17) 2 S dX6_read_17 rfl ?_
  refine g_bipush (pc := 18) (v := (90 : Int32)) S dX6_read_18 (by decide) ?_
  refine g_icmp_ge (pc := 20) (tgt := 120) S dX6_read_20 (by decide) hyp (fun hyp => ?_) (fun hyp => ?_)
  · refine g_aload_n (pc := 23) 0 S dX6_read_23 rfl ?_
    refine g_getI (pc := 24) S dX6_read_24 fl_X6_33 k0 ?_
    refine g_bipush (pc := 27) (v := (-2 : Int32)) S dX6_read_27 (by decide) ?_
    refine g_icmp_eq (pc := 29) (tgt := 120) S dX6_read_29 (by decide) hyp (fun hyp => ?_) (fun hyp => ?_)
    · have hyp := Option.some.inj hyp
      subst hyp
      exact g_sub [0, 2, 3] rfl (hex0 (a2, a3, h) rfl)
    · refine g_iload_n (pc := 32) 3 S dX6_read_32 rfl ?_
      refine g_if_eq (pc := 33) (tgt := 120) S dX6_read_33 (by decide) hyp (fun hyp => ?_) (fun hyp => ?_)
      · have hyp := Option.some.inj hyp
        subst hyp
        exact g_sub [0, 2, 3] rfl (hex0 (a2, a3, h) rfl)
      · refine g_aload_n (pc := 36) 0 S dX6_read_36 rfl ?_
        refine g_getI (pc := 37) S dX6_read_37 fl_X6_33 k0 ?_
        refine g_bipush (pc := 40) (v := (110 : Int32)) S dX6_read_40 (by decide) ?_
        refine g_icmp_ne (pc := 42) (tgt := 58) S dX6_read_42 (by decide) hyp (fun hyp => ?_) (fun hyp => ?_)
        · refine g_iload_n (pc := 45) 2 S dX6_read_45 rfl ?_
          refine g_if_ne (pc := 46) (tgt := 58) S dX6_read_46 (by decide) hyp (fun hyp => ?_) (fun hyp => ?_)
          · refine g_aload_n (pc := 49) 0 S dX6_read_49 rfl ?_
            refine g_aload_n (pc := 50) 1 S dX6_read_50 rfl ?_
            refine g_bind hyp (fun y4 hy4 hyp => ?_)
            refine g_callV (pc := 51) (As := [.ref (ad K c1)]) (rest := []) S dX6_read_51 k0 rfl tw_462 tw_463 tw_2 mw_X6_readVariables (m_X6_readVariables k0 k1  h hy4) rfl rfl (Nat.le_of_ble_eq_true rfl) (Nat.le_of_ble_eq_true rfl) (Nat.le_of_ble_eq_true rfl) ?_
            refine g_istore_n (pc := 54) (lv' := [(3, .int y4.1), (0, .ref (ad K c0)), (1, .ref (ad K c1)), (2, .int a2)]) S dX6_read_54 rfl (by decide) rfl ?_
            refine g_goto (pc := 55) (tgt := 114) S dX6_read_55 (by decide) ?_
            exact g_sub [1, 2, 3, 0] rfl (o_X6_read_b114 S k0 k1 a2 y4.1 y4.2 hyp hin hex0)
          · exact g_sub [0, 1, 2] rfl (o_X6_read_b58 S k0 k1 a2 h hyp hin hex0)
        · exact g_sub [0, 1, 2] rfl (o_X6_read_b58 S k0 k1 a2 h hyp hin hex0)
  · have hyp := Option.some.inj hyp
    subst hyp
    exact g_sub [0, 2, 3] rfl (hex0 (a2, a3, h) rfl)
set_option maxRecDepth 100000 in
set_option maxHeartbeats 4000000 in
theorem o_X6_read {K : gK} (S : Cx K RX6 cX6_read 4 5 127) {c0 : Nat} (k0 : kd c0 (10 + 6, 0)) {c1 : Nat} (k1 : kd c1 (10 + 5, 0))  (h : Hp) {o : Int32 × Hp} (hyp : s_X6_read c0 c1  h = some o) (F : Rt K (some .int) (some (.int o.1)) o.2) : Go K 0 [(0, .ref (ad K c0)), (1, .ref (ad K c1))] [] h := by
  unfold s_X6_read at hyp
  refine g_aload_n (pc := 0) 1 S dX6_read_0 rfl ?_
  refine g_bind hyp (fun y1 hy1 hyp => ?_)
  refine g_callV (pc := 1) (As := []) (rest := []) S dX6_read_1 k1 rfl tw_443 tw_444 tw_445 mw_X5_reset (m_X5_reset k1  h hy1) rfl rfl (Nat.le_of_ble_eq_true rfl) (Nat.le_of_ble_eq_true rfl) (Nat.le_of_ble_eq_true rfl) ?_
  refine g_aload_n (pc := 4) 0 S dX6_read_4 rfl ?_
  refine g_iconst (pc := 5) (v := (0 : Int32)) S dX6_read_5 (by decide) ?_
  refine g_putI (pc := 6) S dX6_read_6 fl_X6_27 k0 hyp (fun h2 hyp => ?_)
  refine g_aload_n (pc := 9) 0 S dX6_read_9 rfl ?_
  refine g_bind hyp (fun y3 hy3 hyp => ?_)
  refine g_callV (pc := 10) (As := []) (rest := []) S dX6_read_10 k0 rfl tw_447 tw_448 tw_0 mw_X6_step (m_X6_step k0  h2 hy3) rfl rfl (Nat.le_of_ble_eq_true rfl) (Nat.le_of_ble_eq_true rfl) (Nat.le_of_ble_eq_true rfl) ?_
  refine g_iconst (pc := 13) (v := (0 : Int32)) S dX6_read_13 (by decide) ?_
  refine g_istore_n (pc := 14) (lv' := [(2, .int (0 : Int32)), (0, .ref (ad K c0)), (1, .ref (ad K c1))]) S dX6_read_14 rfl (by decide) rfl ?_
  refine g_iconst (pc := 15) (v := (1 : Int32)) S dX6_read_15 (by decide) ?_
  refine g_istore_n (pc := 16) (lv' := [(3, .int (1 : Int32)), (2, .int (0 : Int32)), (0, .ref (ad K c0)), (1, .ref (ad K c1))]) S dX6_read_16 rfl (by decide) rfl ?_
  refine g_bind hyp (fun e8 he8 hyp => ?_)
  refine g_sub [2, 3, 1, 0] rfl (g_loop (f := fun s : Int32 × Int32 × Hp => s_X6_read_l17 c0 c1 s.1 s.2.1 s.2.2) (ρ := Int32 × Int32 × Hp) (Hd := fun s : Int32 × Int32 × Hp => Go K 17 [(0, .ref (ad K c0)), (1, .ref (ad K c1)), (2, .int s.1), (3, .int s.2.1)] [] s.2.2) (Ex := fun e8 => Go K 120 [(0, .ref (ad K c0)), (2, .int e8.1), (3, .int e8.2.1)] [] e8.2.2) (fun s o h1 h2 h3 => o_X6_read_l17 S k0 k1 s.1 s.2.1 s.2.2 h1 h2 h3) FUEL _ e8 he8 ?_)
  refine g_iload_n (pc := 120) 2 S dX6_read_120 rfl ?_
  refine g_if_eq (pc := 121) (tgt := 128) S dX6_read_121 (by decide) hyp (fun hyp => ?_) (fun hyp => ?_)
  · refine g_bipush (pc := 128) (v := (-10 : Int32)) S dX6_read_128 (by decide) ?_
    refine g_aload_n (pc := 130) 0 S dX6_read_130 rfl ?_
    refine g_getI (pc := 131) S dX6_read_131 fl_X6_52 k0 ?_
    refine g_isub (pc := 134) S dX6_read_134 ?_
    have hyp := Option.some.inj hyp
    subst hyp
    exact g_iret (pc := 135) S F dX6_read_135
  · refine g_iload_n (pc := 124) 1 S dX6_read_124 rfl ?_
    refine g_goto (pc := 125) (tgt := 135) S dX6_read_125 (by decide) ?_
    have hyp := Option.some.inj hyp
    subst hyp
    exact g_iret (pc := 135) S F dX6_read_135
theorem m_X6_read {l : Launch} {D : va_G} {cT : Nat → ClassId} {aD : Nat → Nat} {c0 : Nat} (k0 : kd c0 (10 + 6, 0)) {c1 : Nat} (k1 : kd c1 (10 + 5, 0))  (h : Hp) {o : Int32 × Hp} (hyp : s_X6_read c0 c1  h = some o) : Ok l D cT aD yX6_read cX6_read 4 (some .int) 5 127 [.ref (aD c0), .ref (aD c1)] h (some (.int o.1)) o.2 :=
  Ok.of (by decide +kernel) rfl (Nat.le_of_ble_eq_true rfl) (fun K e1 e2 e3 e4 S F => by subst e1; exact o_X6_read S k0 k1  h hyp F)
-- BoundProofs$Problem copy (LBoundProofs$Problem;)V
noncomputable def s_X5_copy (c0 : Nat) (c1 : Nat)  (h : Hp) : Option (Hp) :=
  lt (sI h c0 0 (h.1 c1 0)) fun h1 =>
  lt (sI h1 c0 1 (h1.1 c1 1)) fun h2 =>
  lt (sI h2 c0 2 (h2.1 c1 2)) fun h3 =>
  lt (sI h3 c0 3 (h3.1 c1 3)) fun h4 =>
  cpyI h4 (c1 + 1) 24 (0 : Int32) (c0 + 1) 24 (0 : Int32) (24 : Int32) fun h5 =>
  cpyI h5 (c1 + 2) 10 (0 : Int32) (c0 + 2) 10 (0 : Int32) (10 : Int32) fun h6 =>
  cpyI h6 (c1 + 3) 10 (0 : Int32) (c0 + 3) 10 (0 : Int32) (10 : Int32) fun h7 =>
  cpyI h7 (c1 + 4) 10 (0 : Int32) (c0 + 4) 10 (0 : Int32) (10 : Int32) fun h8 =>
  cpyI h8 (c1 + 5) 4 (0 : Int32) (c0 + 5) 4 (0 : Int32) (4 : Int32) fun h9 =>
  some h9
set_option maxRecDepth 100000 in
set_option maxHeartbeats 4000000 in
theorem o_X5_copy {K : gK} (S : Cx K RX5 cX5_copy 2 1 60) {c0 : Nat} (k0 : kd c0 (10 + 5, 0)) {c1 : Nat} (k1 : kd c1 (10 + 5, 0))  (h : Hp) {o : Hp} (hyp : s_X5_copy c0 c1  h = some o) (F : Rt K none none o) : Go K 0 [(0, .ref (ad K c0)), (1, .ref (ad K c1))] [] h := by
  unfold s_X5_copy at hyp
  refine g_aload_n (pc := 0) 0 S dX5_copy_0 rfl ?_
  refine g_aload_n (pc := 1) 1 S dX5_copy_1 rfl ?_
  refine g_getI (pc := 2) S dX5_copy_2 fl_X5_9 k1 ?_
  refine g_putI (pc := 5) S dX5_copy_5 fl_X5_9 k0 hyp (fun h1 hyp => ?_)
  refine g_aload_n (pc := 8) 0 S dX5_copy_8 rfl ?_
  refine g_aload_n (pc := 9) 1 S dX5_copy_9 rfl ?_
  refine g_getI (pc := 10) S dX5_copy_10 fl_X5_15 k1 ?_
  refine g_putI (pc := 13) S dX5_copy_13 fl_X5_15 k0 hyp (fun h2 hyp => ?_)
  refine g_aload_n (pc := 16) 0 S dX5_copy_16 rfl ?_
  refine g_aload_n (pc := 17) 1 S dX5_copy_17 rfl ?_
  refine g_getI (pc := 18) S dX5_copy_18 fl_X5_18 k1 ?_
  refine g_putI (pc := 21) S dX5_copy_21 fl_X5_18 k0 hyp (fun h3 hyp => ?_)
  refine g_aload_n (pc := 24) 0 S dX5_copy_24 rfl ?_
  refine g_aload_n (pc := 25) 1 S dX5_copy_25 rfl ?_
  refine g_getI (pc := 26) S dX5_copy_26 fl_X5_21 k1 ?_
  refine g_putI (pc := 29) S dX5_copy_29 fl_X5_21 k0 hyp (fun h4 hyp => ?_)
  refine g_aload_n (pc := 32) 1 S dX5_copy_32 rfl ?_
  refine g_getR (pc := 33) S dX5_copy_33 fl_X5_24 k1 ?_
  refine g_iconst (pc := 36) (v := (0 : Int32)) S dX5_copy_36 (by decide) ?_
  refine g_aload_n (pc := 37) 0 S dX5_copy_37 rfl ?_
  refine g_getR (pc := 38) S dX5_copy_38 fl_X5_24 k0 ?_
  refine g_iconst (pc := 41) (v := (0 : Int32)) S dX5_copy_41 (by decide) ?_
  refine g_aload_n (pc := 42) 0 S dX5_copy_42 rfl ?_
  refine g_getR (pc := 43) S dX5_copy_43 fl_X5_24 k0 ?_
  refine g_alen (pc := 46) (v := (24 : Int32)) S dX5_copy_46 (kf_5_1 k0) (by decide) (by decide) ?_
  refine g_cpI (pc := 47) S dX5_copy_47 tw_503 tw_505 tw_504 tw_99 (kf_5_1 k1) (kf_5_1 k0) (Nat.le_of_ble_eq_true rfl) (Nat.le_of_ble_eq_true rfl) hyp (fun h5 hyp => ?_)
  refine g_aload_n (pc := 50) 1 S dX5_copy_50 rfl ?_
  refine g_getR (pc := 51) S dX5_copy_51 fl_X5_28 k1 ?_
  refine g_iconst (pc := 54) (v := (0 : Int32)) S dX5_copy_54 (by decide) ?_
  refine g_aload_n (pc := 55) 0 S dX5_copy_55 rfl ?_
  refine g_getR (pc := 56) S dX5_copy_56 fl_X5_28 k0 ?_
  refine g_iconst (pc := 59) (v := (0 : Int32)) S dX5_copy_59 (by decide) ?_
  refine g_aload_n (pc := 60) 0 S dX5_copy_60 rfl ?_
  refine g_getR (pc := 61) S dX5_copy_61 fl_X5_28 k0 ?_
  refine g_alen (pc := 64) (v := (10 : Int32)) S dX5_copy_64 (kf_5_2 k0) (by decide) (by decide) ?_
  refine g_cpI (pc := 65) S dX5_copy_65 tw_503 tw_505 tw_504 tw_99 (kf_5_2 k1) (kf_5_2 k0) (Nat.le_of_ble_eq_true rfl) (Nat.le_of_ble_eq_true rfl) hyp (fun h6 hyp => ?_)
  refine g_aload_n (pc := 68) 1 S dX5_copy_68 rfl ?_
  refine g_getR (pc := 69) S dX5_copy_69 fl_X5_31 k1 ?_
  refine g_iconst (pc := 72) (v := (0 : Int32)) S dX5_copy_72 (by decide) ?_
  refine g_aload_n (pc := 73) 0 S dX5_copy_73 rfl ?_
  refine g_getR (pc := 74) S dX5_copy_74 fl_X5_31 k0 ?_
  refine g_iconst (pc := 77) (v := (0 : Int32)) S dX5_copy_77 (by decide) ?_
  refine g_aload_n (pc := 78) 0 S dX5_copy_78 rfl ?_
  refine g_getR (pc := 79) S dX5_copy_79 fl_X5_31 k0 ?_
  refine g_alen (pc := 82) (v := (10 : Int32)) S dX5_copy_82 (kf_5_3 k0) (by decide) (by decide) ?_
  refine g_cpI (pc := 83) S dX5_copy_83 tw_503 tw_505 tw_504 tw_99 (kf_5_3 k1) (kf_5_3 k0) (Nat.le_of_ble_eq_true rfl) (Nat.le_of_ble_eq_true rfl) hyp (fun h7 hyp => ?_)
  refine g_aload_n (pc := 86) 1 S dX5_copy_86 rfl ?_
  refine g_getR (pc := 87) S dX5_copy_87 fl_X5_34 k1 ?_
  refine g_iconst (pc := 90) (v := (0 : Int32)) S dX5_copy_90 (by decide) ?_
  refine g_aload_n (pc := 91) 0 S dX5_copy_91 rfl ?_
  refine g_getR (pc := 92) S dX5_copy_92 fl_X5_34 k0 ?_
  refine g_iconst (pc := 95) (v := (0 : Int32)) S dX5_copy_95 (by decide) ?_
  refine g_aload_n (pc := 96) 0 S dX5_copy_96 rfl ?_
  refine g_getR (pc := 97) S dX5_copy_97 fl_X5_34 k0 ?_
  refine g_alen (pc := 100) (v := (10 : Int32)) S dX5_copy_100 (kf_5_4 k0) (by decide) (by decide) ?_
  refine g_cpI (pc := 101) S dX5_copy_101 tw_503 tw_505 tw_504 tw_99 (kf_5_4 k1) (kf_5_4 k0) (Nat.le_of_ble_eq_true rfl) (Nat.le_of_ble_eq_true rfl) hyp (fun h8 hyp => ?_)
  refine g_aload_n (pc := 104) 1 S dX5_copy_104 rfl ?_
  refine g_getR (pc := 105) S dX5_copy_105 fl_X5_37 k1 ?_
  refine g_iconst (pc := 108) (v := (0 : Int32)) S dX5_copy_108 (by decide) ?_
  refine g_aload_n (pc := 109) 0 S dX5_copy_109 rfl ?_
  refine g_getR (pc := 110) S dX5_copy_110 fl_X5_37 k0 ?_
  refine g_iconst (pc := 113) (v := (0 : Int32)) S dX5_copy_113 (by decide) ?_
  refine g_aload_n (pc := 114) 0 S dX5_copy_114 rfl ?_
  refine g_getR (pc := 115) S dX5_copy_115 fl_X5_37 k0 ?_
  refine g_alen (pc := 118) (v := (4 : Int32)) S dX5_copy_118 (kf_5_5 k0) (by decide) (by decide) ?_
  refine g_cpI (pc := 119) S dX5_copy_119 tw_503 tw_505 tw_504 tw_99 (kf_5_5 k1) (kf_5_5 k0) (Nat.le_of_ble_eq_true rfl) (Nat.le_of_ble_eq_true rfl) hyp (fun h9 hyp => ?_)
  have hyp := Option.some.inj hyp
  subst hyp
  exact g_vret (pc := 122) S F dX5_copy_122
theorem m_X5_copy {l : Launch} {D : va_G} {cT : Nat → ClassId} {aD : Nat → Nat} {c0 : Nat} (k0 : kd c0 (10 + 5, 0)) {c1 : Nat} (k1 : kd c1 (10 + 5, 0))  (h : Hp) {o : Hp} (hyp : s_X5_copy c0 c1  h = some o) : Ok l D cT aD yX5_copy cX5_copy 2 none 1 60 [.ref (aD c0), .ref (aD c1)] h none o :=
  Ok.of (by decide +kernel) rfl (Nat.le_of_ble_eq_true rfl) (fun K e1 e2 e3 e4 S F => by subst e1; exact o_X5_copy S k0 k1  h hyp F)
-- BoundProofs$Rows restart (I)V
noncomputable def s_X7_restart (c0 : Nat) (a1 : Int32) (h : Hp) : Option (Hp) :=
  lt (sI h c0 4 (0 : Int32)) fun h1 =>
  lt (sI h1 c0 5 a1) fun h2 =>
  some h2
set_option maxRecDepth 100000 in
set_option maxHeartbeats 4000000 in
theorem o_X7_restart {K : gK} (S : Cx K RX7 cX7_restart 2 0 0) {c0 : Nat} (k0 : kd c0 (10 + 7, 0)) (a1 : Int32) (h : Hp) {o : Hp} (hyp : s_X7_restart c0 a1 h = some o) (F : Rt K none none o) : Go K 0 [(0, .ref (ad K c0)), (1, .int a1)] [] h := by
  unfold s_X7_restart at hyp
  refine g_aload_n (pc := 0) 0 S dX7_restart_0 rfl ?_
  refine g_iconst (pc := 1) (v := (0 : Int32)) S dX7_restart_1 (by decide) ?_
  refine g_putI (pc := 2) S dX7_restart_2 fl_X7_26 k0 hyp (fun h1 hyp => ?_)
  refine g_aload_n (pc := 5) 0 S dX7_restart_5 rfl ?_
  refine g_iload_n (pc := 6) 1 S dX7_restart_6 rfl ?_
  refine g_putI (pc := 7) S dX7_restart_7 fl_X7_30 k0 hyp (fun h2 hyp => ?_)
  have hyp := Option.some.inj hyp
  subst hyp
  exact g_vret (pc := 10) S F dX7_restart_10
theorem m_X7_restart {l : Launch} {D : va_G} {cT : Nat → ClassId} {aD : Nat → Nat} {c0 : Nat} (k0 : kd c0 (10 + 7, 0)) (a1 : Int32) (h : Hp) {o : Hp} (hyp : s_X7_restart c0 a1 h = some o) : Ok l D cT aD yX7_restart cX7_restart 2 none 0 0 [.ref (aD c0), .int a1] h none o :=
  Ok.of (by decide +kernel) rfl (Nat.le_of_ble_eq_true rfl) (fun K e1 e2 e3 e4 S F => by subst e1; exact o_X7_restart S k0 a1 h hyp F)
-- BoundProofs$Problem hasForm (I)Z
noncomputable def s_X5_hasForm (c0 : Nat) (a1 : Int32) (h : Hp) : Option (Int32) :=
  if a1 < 0 then (some (0 : Int32))
  else (if a1 < (h.1 c0 1) then (some (1 : Int32))
  else (some (0 : Int32)))
set_option maxRecDepth 100000 in
set_option maxHeartbeats 4000000 in
theorem o_X5_hasForm {K : gK} (S : Cx K RX5 cX5_hasForm 2 0 0) {c0 : Nat} (k0 : kd c0 (10 + 5, 0)) (a1 : Int32) (h : Hp) {o : Int32} (hyp : s_X5_hasForm c0 a1 h = some o) (F : Rt K (some .boolean) (some (.int o)) h) : Go K 0 [(0, .ref (ad K c0)), (1, .int a1)] [] h := by
  unfold s_X5_hasForm at hyp
  refine g_iload_n (pc := 0) 1 S dX5_hasForm_0 rfl ?_
  refine g_if_lt (pc := 1) (tgt := 16) S dX5_hasForm_1 (by decide) hyp (fun hyp => ?_) (fun hyp => ?_)
  · refine g_iconst (pc := 16) (v := (0 : Int32)) S dX5_hasForm_16 (by decide) ?_
    have hyp := Option.some.inj hyp
    subst hyp
    exact g_zret (pc := 17) S F dX5_hasForm_17 (Or.inl rfl)
  · refine g_iload_n (pc := 4) 1 S dX5_hasForm_4 rfl ?_
    refine g_aload_n (pc := 5) 0 S dX5_hasForm_5 rfl ?_
    refine g_getI (pc := 6) S dX5_hasForm_6 fl_X5_15 k0 ?_
    refine g_icmp_ge (pc := 9) (tgt := 16) S dX5_hasForm_9 (by decide) hyp (fun hyp => ?_) (fun hyp => ?_)
    · refine g_iconst (pc := 12) (v := (1 : Int32)) S dX5_hasForm_12 (by decide) ?_
      refine g_goto (pc := 13) (tgt := 17) S dX5_hasForm_13 (by decide) ?_
      have hyp := Option.some.inj hyp
      subst hyp
      exact g_zret (pc := 17) S F dX5_hasForm_17 (Or.inr rfl)
    · refine g_iconst (pc := 16) (v := (0 : Int32)) S dX5_hasForm_16 (by decide) ?_
      have hyp := Option.some.inj hyp
      subst hyp
      exact g_zret (pc := 17) S F dX5_hasForm_17 (Or.inl rfl)
theorem m_X5_hasForm {l : Launch} {D : va_G} {cT : Nat → ClassId} {aD : Nat → Nat} {c0 : Nat} (k0 : kd c0 (10 + 5, 0)) (a1 : Int32) (h : Hp) {o : Int32} (hyp : s_X5_hasForm c0 a1 h = some o) : Ok l D cT aD yX5_hasForm cX5_hasForm 2 (some .boolean) 0 0 [.ref (aD c0), .int a1] h (some (.int o)) h :=
  Ok.of (by decide +kernel) rfl (Nat.le_of_ble_eq_true rfl) (fun K e1 e2 e3 e4 S F => by subst e1; exact o_X5_hasForm S k0 a1 h hyp F)
-- BoundProofs$Problem entry (II)I
noncomputable def s_X5_entry (c0 : Nat) (a1 : Int32) (a2 : Int32) (h : Hp) : Option (Int32) :=
  (s_X5_hasForm c0 a1 h).bind fun y1 =>
  if y1 = 0 then (some (0 : Int32))
  else ((s_X5_hasVariable c0 a2 h).bind fun y2 =>
  if y2 = 0 then (some (0 : Int32))
  else (ldI h (c0 + 1) 24 ((a1 * (3 : Int32)) + a2) fun x3 =>
  some x3))
set_option maxRecDepth 100000 in
set_option maxHeartbeats 4000000 in
theorem o_X5_entry {K : gK} (S : Cx K RX5 cX5_entry 3 1 25) {c0 : Nat} (k0 : kd c0 (10 + 5, 0)) (a1 : Int32) (a2 : Int32) (h : Hp) {o : Int32} (hyp : s_X5_entry c0 a1 a2 h = some o) (F : Rt K (some .int) (some (.int o)) h) : Go K 0 [(0, .ref (ad K c0)), (1, .int a1), (2, .int a2)] [] h := by
  unfold s_X5_entry at hyp
  refine g_aload_n (pc := 0) 0 S dX5_entry_0 rfl ?_
  refine g_iload_n (pc := 1) 1 S dX5_entry_1 rfl ?_
  refine g_bind hyp (fun y1 hy1 hyp => ?_)
  refine g_callV (pc := 2) (As := [.int a1]) (rest := []) S dX5_entry_2 k0 rfl tw_520 tw_521 tw_522 mw_X5_hasForm (m_X5_hasForm k0 a1 h hy1) rfl rfl (Nat.le_of_ble_eq_true rfl) (Nat.le_of_ble_eq_true rfl) (Nat.le_of_ble_eq_true rfl) ?_
  refine g_if_eq (pc := 5) (tgt := 29) S dX5_entry_5 (by decide) hyp (fun hyp => ?_) (fun hyp => ?_)
  · refine g_iconst (pc := 29) (v := (0 : Int32)) S dX5_entry_29 (by decide) ?_
    have hyp := Option.some.inj hyp
    subst hyp
    exact g_iret (pc := 30) S F dX5_entry_30
  · refine g_aload_n (pc := 8) 0 S dX5_entry_8 rfl ?_
    refine g_iload_n (pc := 9) 2 S dX5_entry_9 rfl ?_
    refine g_bind hyp (fun y2 hy2 hyp => ?_)
    refine g_callV (pc := 10) (As := [.int a2]) (rest := []) S dX5_entry_10 k0 rfl tw_524 tw_478 tw_479 mw_X5_hasVariable (m_X5_hasVariable k0 a2 h hy2) rfl rfl (Nat.le_of_ble_eq_true rfl) (Nat.le_of_ble_eq_true rfl) (Nat.le_of_ble_eq_true rfl) ?_
    refine g_if_eq (pc := 13) (tgt := 29) S dX5_entry_13 (by decide) hyp (fun hyp => ?_) (fun hyp => ?_)
    · refine g_iconst (pc := 29) (v := (0 : Int32)) S dX5_entry_29 (by decide) ?_
      have hyp := Option.some.inj hyp
      subst hyp
      exact g_iret (pc := 30) S F dX5_entry_30
    · refine g_aload_n (pc := 16) 0 S dX5_entry_16 rfl ?_
      refine g_getR (pc := 17) S dX5_entry_17 fl_X5_24 k0 ?_
      refine g_iload_n (pc := 20) 1 S dX5_entry_20 rfl ?_
      refine g_iconst (pc := 21) (v := (3 : Int32)) S dX5_entry_21 (by decide) ?_
      refine g_imul (pc := 22) S dX5_entry_22 ?_
      refine g_iload_n (pc := 23) 2 S dX5_entry_23 rfl ?_
      refine g_iadd (pc := 24) S dX5_entry_24 ?_
      refine g_iald (pc := 25) S dX5_entry_25 (kf_5_1 k0) hyp (fun x3 hyp => ?_)
      refine g_goto (pc := 26) (tgt := 30) S dX5_entry_26 (by decide) ?_
      have hyp := Option.some.inj hyp
      subst hyp
      exact g_iret (pc := 30) S F dX5_entry_30
theorem m_X5_entry {l : Launch} {D : va_G} {cT : Nat → ClassId} {aD : Nat → Nat} {c0 : Nat} (k0 : kd c0 (10 + 5, 0)) (a1 : Int32) (a2 : Int32) (h : Hp) {o : Int32} (hyp : s_X5_entry c0 a1 a2 h = some o) : Ok l D cT aD yX5_entry cX5_entry 3 (some .int) 1 25 [.ref (aD c0), .int a1, .int a2] h (some (.int o)) h :=
  Ok.of (by decide +kernel) rfl (Nat.le_of_ble_eq_true rfl) (fun K e1 e2 e3 e4 S F => by subst e1; exact o_X5_entry S k0 a1 a2 h hyp F)
