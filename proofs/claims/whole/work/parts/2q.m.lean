-- BoundProofsModel since (III)I
noncomputable def s_X10_since_l15 (c0 : Nat) (a1 : Int32) (a2 : Int32) (a3 : Int32) (a4 : Int32) (h : Hp) : Option ((Int32 × Hp) ⊕ ((Hp) ⊕ (Int32 × Hp))) :=
  if (h.1 c0 3) < a4 then (some (.inr (.inl h)))
  else ((s_X10_doesFollow c0 (((1 : Int32) <<< (a4 &&& 31)) - (1 : Int32)) a1 a2 a3 h).bind fun y2 =>
  if y2.1 = 0 then (lt (a4 + (1 : Int32)) fun v4_3 =>
  some (.inl (v4_3, y2.2)))
  else (some (.inr (.inr (a4, y2.2)))))
noncomputable def s_X10_since (c0 : Nat) (a1 : Int32) (a2 : Int32) (a3 : Int32) (h : Hp) : Option (Int32 × Hp) :=
  (s_X10_isTold c0 a1 a2 a3 h).bind fun y1 =>
  if y1 = 0 then (some ((-1 : Int32), h))
  else ((iter (fun s : Int32 × Hp => s_X10_since_l15 c0 a1 a2 a3 s.1 s.2) FUEL ((0 : Int32), h)).bind (Sum.elim (fun t5 => some ((-9 : Int32), t5))
  (fun t6 => some t6)))
set_option maxRecDepth 100000 in
set_option maxHeartbeats 4000000 in
theorem o_X10_since_l15 {K : gK} (S : Cx K RX10 cX10_since 5 5 155) {c0 : Nat} (k0 : kd c0 (10 + 10, 0)) (a1 : Int32) (a2 : Int32) (a3 : Int32) (a4 : Int32) (h : Hp) {o : (Int32 × Hp) ⊕ ((Hp) ⊕ (Int32 × Hp))} (hyp : s_X10_since_l15 c0 a1 a2 a3 a4 h = some o) (hin : ∀ s', o = .inl s' → Go K 15 [(0, .ref (ad K c0)), (1, .int a1), (2, .int a2), (3, .int a3), (4, .int s'.1)] [] s'.2) (hex0 : ∀ s', o = .inr (.inl s') → Go K 49 [] [] s') (hret : ∀ x', o = .inr (.inr x') → Rt K (some .int) (some (.int x'.1)) x'.2) : Go K 15 [(0, .ref (ad K c0)), (1, .int a1), (2, .int a2), (3, .int a3), (4, .int a4)] [] h := by
  unfold s_X10_since_l15 at hyp
  refine g_iload (pc := 15) 4 S dX10_since_15 rfl ?_
  refine g_aload_n (pc := 17) 0 S dX10_since_17 rfl ?_
  refine g_getI (pc := 18) S dX10_since_18 fl_X10_97 k0 ?_
  refine g_icmp_gt (pc := 21) (tgt := 49) S dX10_since_21 (by decide) hyp (fun hyp => ?_) (fun hyp => ?_)
  · have hyp := Option.some.inj hyp
    subst hyp
    exact g_sub [] rfl (hex0 h rfl)
  · refine g_aload_n (pc := 24) 0 S dX10_since_24 rfl ?_
    refine g_iconst (pc := 25) (v := (1 : Int32)) S dX10_since_25 (by decide) ?_
    refine g_iload (pc := 26) 4 S dX10_since_26 rfl ?_
    refine g_ishl (pc := 28) S dX10_since_28 ?_
    refine g_iconst (pc := 29) (v := (1 : Int32)) S dX10_since_29 (by decide) ?_
    refine g_isub (pc := 30) S dX10_since_30 ?_
    refine g_iload_n (pc := 31) 1 S dX10_since_31 rfl ?_
    refine g_iload_n (pc := 32) 2 S dX10_since_32 rfl ?_
    refine g_iload_n (pc := 33) 3 S dX10_since_33 rfl ?_
    refine g_bind hyp (fun y2 hy2 hyp => ?_)
    refine g_callV (pc := 34) (As := [.int (((1 : Int32) <<< (a4 &&& 31)) - (1 : Int32)), .int a1, .int a2, .int a3]) (rest := []) S dX10_since_34 k0 rfl tw_1149 tw_1150 tw_62 mw_X10_doesFollow (m_X10_doesFollow k0 (((1 : Int32) <<< (a4 &&& 31)) - (1 : Int32)) a1 a2 a3 h hy2) rfl rfl (Nat.le_of_ble_eq_true rfl) (Nat.le_of_ble_eq_true rfl) (Nat.le_of_ble_eq_true rfl) ?_
    refine g_if_eq (pc := 37) (tgt := 43) S dX10_since_37 (by decide) hyp (fun hyp => ?_) (fun hyp => ?_)
    · refine g_iinc (pc := 43) (v := (a4 + (1 : Int32))) (lv' := [(4, .int (a4 + (1 : Int32))), (0, .ref (ad K c0)), (1, .int a1), (2, .int a2), (3, .int a3)]) 4 S dX10_since_43 rfl (by rfl) (by decide) rfl ?_
      refine g_lti (C := fun v4_3 => Go K (43 + 3) [(4, .int v4_3), (0, .ref (ad K c0)), (1, .int a1), (2, .int a2), (3, .int a3)] [] y2.2) hyp (fun v4_3 hyp => ?_)
      refine g_goto (pc := 46) (tgt := 15) S dX10_since_46 (by decide) ?_
      have hyp := Option.some.inj hyp
      subst hyp
      exact g_sub [1, 2, 3, 4, 0] rfl (hin (v4_3, y2.2) rfl)
    · refine g_iload (pc := 40) 4 S dX10_since_40 rfl ?_
      have hyp := Option.some.inj hyp
      subst hyp
      exact g_iret (pc := 42) S (hret (a4, y2.2) rfl) dX10_since_42
set_option maxRecDepth 100000 in
set_option maxHeartbeats 4000000 in
theorem o_X10_since {K : gK} (S : Cx K RX10 cX10_since 5 5 155) {c0 : Nat} (k0 : kd c0 (10 + 10, 0)) (a1 : Int32) (a2 : Int32) (a3 : Int32) (h : Hp) {o : Int32 × Hp} (hyp : s_X10_since c0 a1 a2 a3 h = some o) (F : Rt K (some .int) (some (.int o.1)) o.2) : Go K 0 [(0, .ref (ad K c0)), (1, .int a1), (2, .int a2), (3, .int a3)] [] h := by
  unfold s_X10_since at hyp
  refine g_aload_n (pc := 0) 0 S dX10_since_0 rfl ?_
  refine g_iload_n (pc := 1) 1 S dX10_since_1 rfl ?_
  refine g_iload_n (pc := 2) 2 S dX10_since_2 rfl ?_
  refine g_iload_n (pc := 3) 3 S dX10_since_3 rfl ?_
  refine g_bind hyp (fun y1 hy1 hyp => ?_)
  refine g_callV (pc := 4) (As := [.int a1, .int a2, .int a3]) (rest := []) S dX10_since_4 k0 rfl tw_1024 tw_1025 tw_36 mw_X10_isTold (m_X10_isTold k0 a1 a2 a3 h hy1) rfl rfl (Nat.le_of_ble_eq_true rfl) (Nat.le_of_ble_eq_true rfl) (Nat.le_of_ble_eq_true rfl) ?_
  refine g_if_ne (pc := 7) (tgt := 12) S dX10_since_7 (by decide) hyp (fun hyp => ?_) (fun hyp => ?_)
  · refine g_iconst (pc := 10) (v := (-1 : Int32)) S dX10_since_10 (by decide) ?_
    have hyp := Option.some.inj hyp
    subst hyp
    exact g_iret (pc := 11) S F dX10_since_11
  · refine g_iconst (pc := 12) (v := (0 : Int32)) S dX10_since_12 (by decide) ?_
    refine g_istore (pc := 13) (lv' := [(4, .int (0 : Int32)), (0, .ref (ad K c0)), (1, .int a1), (2, .int a2), (3, .int a3)]) S dX10_since_13 (by decide) rfl ?_
    refine g_bind hyp (fun e4 he4 hyp => ?_)
    refine g_sub [1, 2, 3, 4, 0] rfl (g_loop (f := fun s : Int32 × Hp => s_X10_since_l15 c0 a1 a2 a3 s.1 s.2) (ρ := (Hp) ⊕ (Int32 × Hp)) (Hd := fun s : Int32 × Hp => Go K 15 [(0, .ref (ad K c0)), (1, .int a1), (2, .int a2), (3, .int a3), (4, .int s.1)] [] s.2) (Ex := fun e4 => (∀ t, e4 = .inl t → Go K 49 [] [] t) ∧ (∀ t, e4 = .inr t → Rt K (some .int) (some (.int t.1)) t.2)) (fun s o h1 h2 h3 => o_X10_since_l15 S k0 a1 a2 a3 s.1 s.2 h1 h2 (fun t q => (h3 _ q).1 t rfl) (fun t q => (h3 _ q).2 t rfl)) FUEL _ e4 he4 ?_)
    refine ⟨?_, ?_⟩
    · intro t5 q
      subst q
      try dsimp only [Sum.elim] at hyp
      refine g_bipush (pc := 49) (v := (-9 : Int32)) S dX10_since_49 (by decide) ?_
      have hyp := Option.some.inj hyp
      subst hyp
      exact g_iret (pc := 51) S F dX10_since_51
    · intro t6 q
      subst q
      try dsimp only [Sum.elim] at hyp
      have hyp := Option.some.inj hyp
      subst hyp
      exact F
theorem m_X10_since {l : Launch} {D : va_G} {cT : Nat → ClassId} {aD : Nat → Nat} {c0 : Nat} (k0 : kd c0 (10 + 10, 0)) (a1 : Int32) (a2 : Int32) (a3 : Int32) (h : Hp) {o : Int32 × Hp} (hyp : s_X10_since c0 a1 a2 a3 h = some o) : Ok l D cT aD yX10_since cX10_since 5 (some .int) 5 155 [.ref (aD c0), .int a1, .int a2, .int a3] h (some (.int o.1)) o.2 :=
  Ok.of (by decide +kernel) rfl (Nat.le_of_ble_eq_true rfl) (fun K e1 e2 e3 e4 S F => by subst e1; exact o_X10_since S k0 a1 a2 a3 h hyp F)
-- BoundProofsModel why (III)I
noncomputable def s_X10_why_b79 (c0 : Nat) (a1 : Int32) (a2 : Int32) (a3 : Int32) (a5 : Int32) (t0 : Int32) (h : Hp) : Option ((Int32 × Int32 × Hp) ⊕ (Int32 × Hp)) :=
  lt (a5 + (-1 : Int32)) fun v5_6 =>
  some (.inl (t0, v5_6, h))
noncomputable def s_X10_why_l41 (c0 : Nat) (a1 : Int32) (a2 : Int32) (a3 : Int32) (a4 : Int32) (a5 : Int32) (h : Hp) : Option ((Int32 × Int32 × Hp) ⊕ (Int32 × Hp)) :=
  if a5 < 0 then (some (.inr ((a4, h))))
  else ((s_X10_doesFollow c0 (a4 &&& (((1 : Int32) <<< (a5 &&& 31)) ^^^ (-1 : Int32))) a1 a2 a3 h).bind fun y5 =>
  if y5.1 = 0 then (s_X10_why_b79 c0 a1 a2 a3 a5 a4 y5.2)
  else (s_X10_why_b79 c0 a1 a2 a3 a5 (a4 &&& (((1 : Int32) <<< (a5 &&& 31)) ^^^ (-1 : Int32))) y5.2))
noncomputable def s_X10_why (c0 : Nat) (a1 : Int32) (a2 : Int32) (a3 : Int32) (h : Hp) : Option (Int32 × Hp) :=
  (s_X10_isTold c0 a1 a2 a3 h).bind fun y1 =>
  if y1 = 0 then (some ((-1 : Int32), h))
  else ((s_X10_allBounds c0  h).bind fun y2 =>
  (s_X10_doesFollow c0 y2 a1 a2 a3 h).bind fun y3 =>
  if y3.1 = 0 then (some ((-9 : Int32), y3.2))
  else (lt ((y3.2.1 c0 3) - (1 : Int32)) fun v5_4 =>
  (iter (fun s : Int32 × Int32 × Hp => s_X10_why_l41 c0 a1 a2 a3 s.1 s.2.1 s.2.2) FUEL (y2, v5_4, y3.2)).bind fun e7 =>
  some (e7.1, e7.2)))
set_option maxRecDepth 100000 in
set_option maxHeartbeats 4000000 in
theorem o_X10_why_b79 {K : gK} (S : Cx K RX10 cX10_why 6 5 155) {c0 : Nat} (k0 : kd c0 (10 + 10, 0)) (a1 : Int32) (a2 : Int32) (a3 : Int32) (a5 : Int32) (t0 : Int32) (h : Hp) {o : (Int32 × Int32 × Hp) ⊕ (Int32 × Hp)} (hyp : s_X10_why_b79 c0 a1 a2 a3 a5 t0 h = some o) (hin : ∀ s', o = .inl s' → Go K 41 [(0, .ref (ad K c0)), (1, .int a1), (2, .int a2), (3, .int a3), (4, .int s'.1), (5, .int s'.2.1)] [] s'.2.2) (hex0 : ∀ s', o = .inr (s') → Go K 87 [(4, .int s'.1)] [] s'.2) : Go K 79 [(0, .ref (ad K c0)), (1, .int a1), (2, .int a2), (3, .int a3), (5, .int a5)] [.int t0] h := by
  unfold s_X10_why_b79 at hyp
  refine g_istore (pc := 79) (lv' := [(4, .int t0), (0, .ref (ad K c0)), (1, .int a1), (2, .int a2), (3, .int a3), (5, .int a5)]) S dX10_why_79 (by decide) rfl ?_
  refine g_iinc (pc := 81) (v := (a5 + (-1 : Int32))) (lv' := [(5, .int (a5 + (-1 : Int32))), (4, .int t0), (0, .ref (ad K c0)), (1, .int a1), (2, .int a2), (3, .int a3)]) 5 S dX10_why_81 rfl (by rfl) (by decide) rfl ?_
  refine g_lti (C := fun v5_6 => Go K (81 + 3) [(5, .int v5_6), (4, .int t0), (0, .ref (ad K c0)), (1, .int a1), (2, .int a2), (3, .int a3)] [] h) hyp (fun v5_6 hyp => ?_)
  refine g_goto (pc := 84) (tgt := 41) S dX10_why_84 (by decide) ?_
  have hyp := Option.some.inj hyp
  subst hyp
  exact g_sub [2, 3, 4, 5, 1, 0] rfl (hin (t0, v5_6, h) rfl)
set_option maxRecDepth 100000 in
set_option maxHeartbeats 4000000 in
theorem o_X10_why_l41 {K : gK} (S : Cx K RX10 cX10_why 6 5 155) {c0 : Nat} (k0 : kd c0 (10 + 10, 0)) (a1 : Int32) (a2 : Int32) (a3 : Int32) (a4 : Int32) (a5 : Int32) (h : Hp) {o : (Int32 × Int32 × Hp) ⊕ (Int32 × Hp)} (hyp : s_X10_why_l41 c0 a1 a2 a3 a4 a5 h = some o) (hin : ∀ s', o = .inl s' → Go K 41 [(0, .ref (ad K c0)), (1, .int a1), (2, .int a2), (3, .int a3), (4, .int s'.1), (5, .int s'.2.1)] [] s'.2.2) (hex0 : ∀ s', o = .inr (s') → Go K 87 [(4, .int s'.1)] [] s'.2) : Go K 41 [(0, .ref (ad K c0)), (1, .int a1), (2, .int a2), (3, .int a3), (4, .int a4), (5, .int a5)] [] h := by
  unfold s_X10_why_l41 at hyp
  refine g_iload (pc := 41) 5 S dX10_why_41 rfl ?_
  refine g_if_lt (pc := 43) (tgt := 87) S dX10_why_43 (by decide) hyp (fun hyp => ?_) (fun hyp => ?_)
  · have hyp := Option.some.inj hyp
    subst hyp
    exact g_sub [4] rfl (hex0 (a4, h) rfl)
  · refine g_aload_n (pc := 46) 0 S dX10_why_46 rfl ?_
    refine g_iload (pc := 47) 4 S dX10_why_47 rfl ?_
    refine g_iconst (pc := 49) (v := (1 : Int32)) S dX10_why_49 (by decide) ?_
    refine g_iload (pc := 50) 5 S dX10_why_50 rfl ?_
    refine g_ishl (pc := 52) S dX10_why_52 ?_
    refine g_iconst (pc := 53) (v := (-1 : Int32)) S dX10_why_53 (by decide) ?_
    refine g_ixor (pc := 54) S dX10_why_54 ?_
    refine g_iand (pc := 55) S dX10_why_55 ?_
    refine g_iload_n (pc := 56) 1 S dX10_why_56 rfl ?_
    refine g_iload_n (pc := 57) 2 S dX10_why_57 rfl ?_
    refine g_iload_n (pc := 58) 3 S dX10_why_58 rfl ?_
    refine g_bind hyp (fun y5 hy5 hyp => ?_)
    refine g_callV (pc := 59) (As := [.int (a4 &&& (((1 : Int32) <<< (a5 &&& 31)) ^^^ (-1 : Int32))), .int a1, .int a2, .int a3]) (rest := []) S dX10_why_59 k0 rfl tw_1149 tw_1150 tw_62 mw_X10_doesFollow (m_X10_doesFollow k0 (a4 &&& (((1 : Int32) <<< (a5 &&& 31)) ^^^ (-1 : Int32))) a1 a2 a3 h hy5) rfl rfl (Nat.le_of_ble_eq_true rfl) (Nat.le_of_ble_eq_true rfl) (Nat.le_of_ble_eq_true rfl) ?_
    refine g_if_eq (pc := 62) (tgt := 77) S dX10_why_62 (by decide) hyp (fun hyp => ?_) (fun hyp => ?_)
    · refine g_iload (pc := 77) 4 S dX10_why_77 rfl ?_
      exact g_sub [0, 1, 2, 3, 5] rfl (o_X10_why_b79 S k0 a1 a2 a3 a5 a4 y5.2 hyp hin hex0)
    · refine g_iload (pc := 65) 4 S dX10_why_65 rfl ?_
      refine g_iconst (pc := 67) (v := (1 : Int32)) S dX10_why_67 (by decide) ?_
      refine g_iload (pc := 68) 5 S dX10_why_68 rfl ?_
      refine g_ishl (pc := 70) S dX10_why_70 ?_
      refine g_iconst (pc := 71) (v := (-1 : Int32)) S dX10_why_71 (by decide) ?_
      refine g_ixor (pc := 72) S dX10_why_72 ?_
      refine g_iand (pc := 73) S dX10_why_73 ?_
      refine g_goto (pc := 74) (tgt := 79) S dX10_why_74 (by decide) ?_
      exact g_sub [0, 1, 2, 3, 5] rfl (o_X10_why_b79 S k0 a1 a2 a3 a5 (a4 &&& (((1 : Int32) <<< (a5 &&& 31)) ^^^ (-1 : Int32))) y5.2 hyp hin hex0)
set_option maxRecDepth 100000 in
set_option maxHeartbeats 4000000 in
theorem o_X10_why {K : gK} (S : Cx K RX10 cX10_why 6 5 155) {c0 : Nat} (k0 : kd c0 (10 + 10, 0)) (a1 : Int32) (a2 : Int32) (a3 : Int32) (h : Hp) {o : Int32 × Hp} (hyp : s_X10_why c0 a1 a2 a3 h = some o) (F : Rt K (some .int) (some (.int o.1)) o.2) : Go K 0 [(0, .ref (ad K c0)), (1, .int a1), (2, .int a2), (3, .int a3)] [] h := by
  unfold s_X10_why at hyp
  refine g_aload_n (pc := 0) 0 S dX10_why_0 rfl ?_
  refine g_iload_n (pc := 1) 1 S dX10_why_1 rfl ?_
  refine g_iload_n (pc := 2) 2 S dX10_why_2 rfl ?_
  refine g_iload_n (pc := 3) 3 S dX10_why_3 rfl ?_
  refine g_bind hyp (fun y1 hy1 hyp => ?_)
  refine g_callV (pc := 4) (As := [.int a1, .int a2, .int a3]) (rest := []) S dX10_why_4 k0 rfl tw_1024 tw_1025 tw_36 mw_X10_isTold (m_X10_isTold k0 a1 a2 a3 h hy1) rfl rfl (Nat.le_of_ble_eq_true rfl) (Nat.le_of_ble_eq_true rfl) (Nat.le_of_ble_eq_true rfl) ?_
  refine g_if_ne (pc := 7) (tgt := 12) S dX10_why_7 (by decide) hyp (fun hyp => ?_) (fun hyp => ?_)
  · refine g_iconst (pc := 10) (v := (-1 : Int32)) S dX10_why_10 (by decide) ?_
    have hyp := Option.some.inj hyp
    subst hyp
    exact g_iret (pc := 11) S F dX10_why_11
  · refine g_aload_n (pc := 12) 0 S dX10_why_12 rfl ?_
    refine g_bind hyp (fun y2 hy2 hyp => ?_)
    refine g_callV (pc := 13) (As := []) (rest := []) S dX10_why_13 k0 rfl tw_1049 tw_1050 tw_39 mw_X10_allBounds (m_X10_allBounds k0  h hy2) rfl rfl (Nat.le_of_ble_eq_true rfl) (Nat.le_of_ble_eq_true rfl) (Nat.le_of_ble_eq_true rfl) ?_
    refine g_istore (pc := 16) (lv' := [(4, .int y2), (0, .ref (ad K c0)), (1, .int a1), (2, .int a2), (3, .int a3)]) S dX10_why_16 (by decide) rfl ?_
    refine g_aload_n (pc := 18) 1 S dX10_why_18 rfl ?_
    refine g_iload (pc := 19) 0 S dX10_why_19 rfl ?_
    refine g_iload_n (pc := 21) 2 S dX10_why_21 rfl ?_
    refine g_iload_n (pc := 22) 3 S dX10_why_22 rfl ?_
    refine g_iload_n (pc := 23) 4 S dX10_why_23 rfl ?_
    refine g_bind hyp (fun y3 hy3 hyp => ?_)
    refine g_callV (pc := 24) (As := [.int y2, .int a1, .int a2, .int a3]) (rest := []) S dX10_why_24 k0 rfl tw_1149 tw_1150 tw_62 mw_X10_doesFollow (m_X10_doesFollow k0 y2 a1 a2 a3 h hy3) rfl rfl (Nat.le_of_ble_eq_true rfl) (Nat.le_of_ble_eq_true rfl) (Nat.le_of_ble_eq_true rfl) ?_
    refine g_if_ne (pc := 27) (tgt := 33) S dX10_why_27 (by decide) hyp (fun hyp => ?_) (fun hyp => ?_)
    · refine g_bipush (pc := 30) (v := (-9 : Int32)) S dX10_why_30 (by decide) ?_
      have hyp := Option.some.inj hyp
      subst hyp
      exact g_iret (pc := 32) S F dX10_why_32
    · refine g_aload_n (pc := 33) 1 S dX10_why_33 rfl ?_
      refine g_getI (pc := 34) S dX10_why_34 fl_X10_97 k0 ?_
      refine g_iconst (pc := 37) (v := (1 : Int32)) S dX10_why_37 (by decide) ?_
      refine g_isub (pc := 38) S dX10_why_38 ?_
      refine g_lti (C := fun v5_4 => Go K 39 [(4, .int y2), (0, .ref (ad K c0)), (1, .int a1), (2, .int a2), (3, .int a3)] [.int v5_4] y3.2) hyp (fun v5_4 hyp => ?_)
      refine g_istore (pc := 39) (lv' := [(5, .int v5_4), (4, .int y2), (0, .ref (ad K c0)), (1, .int a1), (2, .int a2), (3, .int a3)]) S dX10_why_39 (by decide) rfl ?_
      refine g_bind hyp (fun e7 he7 hyp => ?_)
      refine g_sub [2, 3, 4, 5, 1, 0] rfl (g_loop (f := fun s : Int32 × Int32 × Hp => s_X10_why_l41 c0 a1 a2 a3 s.1 s.2.1 s.2.2) (ρ := Int32 × Hp) (Hd := fun s : Int32 × Int32 × Hp => Go K 41 [(0, .ref (ad K c0)), (1, .int a1), (2, .int a2), (3, .int a3), (4, .int s.1), (5, .int s.2.1)] [] s.2.2) (Ex := fun e7 => Go K 87 [(4, .int e7.1)] [] e7.2) (fun s o h1 h2 h3 => o_X10_why_l41 S k0 a1 a2 a3 s.1 s.2.1 s.2.2 h1 h2 h3) FUEL _ e7 he7 ?_)
      refine g_iload (pc := 87) 0 S dX10_why_87 rfl ?_
      have hyp := Option.some.inj hyp
      subst hyp
      exact g_iret (pc := 89) S F dX10_why_89
theorem m_X10_why {l : Launch} {D : va_G} {cT : Nat → ClassId} {aD : Nat → Nat} {c0 : Nat} (k0 : kd c0 (10 + 10, 0)) (a1 : Int32) (a2 : Int32) (a3 : Int32) (h : Hp) {o : Int32 × Hp} (hyp : s_X10_why c0 a1 a2 a3 h = some o) : Ok l D cT aD yX10_why cX10_why 6 (some .int) 5 155 [.ref (aD c0), .int a1, .int a2, .int a3] h (some (.int o.1)) o.2 :=
  Ok.of (by decide +kernel) rfl (Nat.le_of_ble_eq_true rfl) (fun K e1 e2 e3 e4 S F => by subst e1; exact o_X10_why S k0 a1 a2 a3 h hyp F)
-- BoundProofsModel floorOf (JJ)J
noncomputable def s_X10_floorOf  (a0 : Int64) (a2 : Int64) (h : Hp) : Option (Int64) :=
  nzJ a2 <|
  lt (a0 / a2) fun v4_1 =>
  nzJ a2 <|
  if (a0 - a0 / a2 * a2) < (0 : Int64) then (some (v4_1 - (1 : Int64)))
  else (some v4_1)
set_option maxRecDepth 100000 in
set_option maxHeartbeats 4000000 in
theorem o_X10_floorOf {K : gK} (S : Cx K RX10 cX10_floorOf 6 0 0)  (a0 : Int64) (a2 : Int64) (h : Hp) {o : Int64} (hyp : s_X10_floorOf  a0 a2 h = some o) (F : Rt K (some .long) (some (.long o)) h) : Go K 0 [(0, .long a0), (2, .long a2)] [] h := by
  unfold s_X10_floorOf at hyp
  refine g_lload_n (pc := 0) 0 S dX10_floorOf_0 rfl ?_
  refine g_lload_n (pc := 1) 1 S dX10_floorOf_1 rfl ?_
  refine g_nzJ hyp (fun hz hyp => ?_)
  refine g_ldiv (pc := 2) S dX10_floorOf_2 hz ?_
  refine g_lti (C := fun v4_1 => Go K 3 [(0, .long a0), (2, .long a2)] [.long v4_1] h) hyp (fun v4_1 hyp => ?_)
  refine g_lstore (pc := 3) (lv' := [(4, .long v4_1), (0, .long a0), (2, .long a2)]) S dX10_floorOf_3 (by decide) rfl ?_
  refine g_lload_n (pc := 5) 1 S dX10_floorOf_5 rfl ?_
  refine g_lload_n (pc := 6) 2 S dX10_floorOf_6 rfl ?_
  refine g_nzJ hyp (fun hz hyp => ?_)
  refine g_lrem (pc := 7) S dX10_floorOf_7 hz ?_
  refine g_lconst (pc := 8) (v := (0 : Int64)) S dX10_floorOf_8 (by decide) ?_
  refine g_lcmp_ge (pc := 9) (tgt := 20) S dX10_floorOf_9 dX10_floorOf_10 (by decide) hyp (fun hyp => ?_) (fun hyp => ?_)
  · refine g_lload (pc := 13) 0 S dX10_floorOf_13 rfl ?_
    refine g_lconst (pc := 15) (v := (1 : Int64)) S dX10_floorOf_15 (by decide) ?_
    refine g_lsub (pc := 16) S dX10_floorOf_16 ?_
    refine g_goto (pc := 17) (tgt := 22) S dX10_floorOf_17 (by decide) ?_
    have hyp := Option.some.inj hyp
    subst hyp
    exact g_lret (pc := 22) S F dX10_floorOf_22
  · refine g_lload (pc := 20) 0 S dX10_floorOf_20 rfl ?_
    have hyp := Option.some.inj hyp
    subst hyp
    exact g_lret (pc := 22) S F dX10_floorOf_22
theorem m_X10_floorOf {l : Launch} {D : va_G} {cT : Nat → ClassId} {aD : Nat → Nat}  (a0 : Int64) (a2 : Int64) (h : Hp) {o : Int64} (hyp : s_X10_floorOf  a0 a2 h = some o) : Ok l D cT aD yX10_floorOf cX10_floorOf 6 (some .long) 0 0 [.long a0, .long a2] h (some (.long o)) h :=
  Ok.of (by decide +kernel) rfl (Nat.le_of_ble_eq_true rfl) (fun K e1 e2 e3 e4 S F => by subst e1; exact o_X10_floorOf S  a0 a2 h hyp F)
-- BoundProofsModel setSimplest (IJ)V
noncomputable def s_X10_setSimplest_b222 (c0 : Nat) (a1 : Int32) (a2 : Int64) (a4 : Int64) (t0 : Int64) (t1 : Int32) (h : Hp) : Option ((Int64 × Hp) ⊕ ((Hp) ⊕ (Hp))) :=
  stJ h (c0 + 19) 3 t1 t0 fun h2 =>
  stJ h2 (c0 + 20) 3 a1 a4 fun h3 =>
  some (.inr (.inr h3))
noncomputable def s_X10_setSimplest_b221 (c0 : Nat) (a1 : Int32) (a2 : Int64) (a4 : Int64) (t0 : Int32) (h : Hp) : Option ((Int64 × Hp) ⊕ ((Hp) ⊕ (Hp))) :=
  s_X10_setSimplest_b222 c0 a1 a2 a4 (0 : Int64) t0 h
noncomputable def s_X10_setSimplest_b202 (c0 : Nat) (a1 : Int32) (a2 : Int64) (a4 : Int64) (a8 : Int64) (t0 : Int32) (h : Hp) : Option ((Int64 × Hp) ⊕ ((Hp) ⊕ (Hp))) :=
  if (h.1 c0 24) = 0 then (s_X10_setSimplest_b221 c0 a1 a2 a4 t0 h)
  else (if a8 < (0 : Int64) then (s_X10_setSimplest_b222 c0 a1 a2 a4 a8 t0 h)
  else (s_X10_setSimplest_b221 c0 a1 a2 a4 t0 h))
noncomputable def s_X10_setSimplest_b171 (c0 : Nat) (a1 : Int32) (a2 : Int64) (a4 : Int64) (a6 : Int64) (a8 : Int64) (t0 : Int32) (h : Hp) : Option ((Int64 × Hp) ⊕ ((Hp) ⊕ (Hp))) :=
  if t0 = 0 then (lt (a4 + (1 : Int64)) fun v4_1 =>
  some (.inl (v4_1, h)))
  else (if (h.1 c0 20) = 0 then (s_X10_setSimplest_b202 c0 a1 a2 a4 a8 a1 h)
  else (if (0 : Int64) < a6 then (s_X10_setSimplest_b222 c0 a1 a2 a4 a6 a1 h)
  else (s_X10_setSimplest_b202 c0 a1 a2 a4 a8 a1 h)))
noncomputable def s_X10_setSimplest_b166 (c0 : Nat) (a1 : Int32) (a2 : Int64) (a4 : Int64) (a6 : Int64) (a8 : Int64) (h : Hp) : Option ((Int64 × Hp) ⊕ ((Hp) ⊕ (Hp))) :=
  s_X10_setSimplest_b171 c0 a1 a2 a4 a6 a8 (1 : Int32) h
noncomputable def s_X10_setSimplest_b144 (c0 : Nat) (a1 : Int32) (a2 : Int64) (a4 : Int64) (a6 : Int64) (a8 : Int64) (h : Hp) : Option ((Int64 × Hp) ⊕ ((Hp) ⊕ (Hp))) :=
  if (h.1 c0 20) = 0 then (s_X10_setSimplest_b166 c0 a1 a2 a4 a6 a8 h)
  else (if (h.1 c0 24) = 0 then (s_X10_setSimplest_b166 c0 a1 a2 a4 a6 a8 h)
  else (if a8 < a6 then (s_X10_setSimplest_b171 c0 a1 a2 a4 a6 a8 (0 : Int32) h)
  else (s_X10_setSimplest_b166 c0 a1 a2 a4 a6 a8 h)))
noncomputable def s_X10_setSimplest_b141 (c0 : Nat) (a1 : Int32) (a2 : Int64) (a4 : Int64) (a6 : Int64) (t0 : Int64) (t1 : Int64) (h : Hp) : Option ((Int64 × Hp) ⊕ ((Hp) ⊕ (Hp))) :=
  lt (t1 - t0) fun v8_5 =>
  s_X10_setSimplest_b144 c0 a1 a2 a4 a6 v8_5 h
noncomputable def s_X10_setSimplest_b140 (c0 : Nat) (a1 : Int32) (a2 : Int64) (a4 : Int64) (a6 : Int64) (t0 : Int64) (h : Hp) : Option ((Int64 × Hp) ⊕ ((Hp) ⊕ (Hp))) :=
  s_X10_setSimplest_b141 c0 a1 a2 a4 a6 (0 : Int64) t0 h
noncomputable def s_X10_setSimplest_b82 (c0 : Nat) (a1 : Int32) (a2 : Int64) (a4 : Int64) (a6 : Int64) (a8 : Int64) (h : Hp) : Option ((Int64 × Hp) ⊕ ((Hp) ⊕ (Hp))) :=
  if (h.1 c0 24) = 0 then (s_X10_setSimplest_b144 c0 a1 a2 a4 a6 a8 h)
  else ((s_X10_floorOf  ((h.2 c0 25) * a4) ((h.2 c0 26) * a2) h).bind fun y4 =>
  if (h.1 c0 27) = 0 then (s_X10_setSimplest_b140 c0 a1 a2 a4 a6 y4 h)
  else (if ((y4 * a2) * (h.2 c0 26)) = ((h.2 c0 25) * a4) then (s_X10_setSimplest_b141 c0 a1 a2 a4 a6 (1 : Int64) y4 h)
  else (s_X10_setSimplest_b140 c0 a1 a2 a4 a6 y4 h)))
noncomputable def s_X10_setSimplest_b79 (c0 : Nat) (a1 : Int32) (a2 : Int64) (a4 : Int64) (a8 : Int64) (t0 : Int64) (t1 : Int64) (h : Hp) : Option ((Int64 × Hp) ⊕ ((Hp) ⊕ (Hp))) :=
  lt (t1 + t0) fun v6_8 =>
  s_X10_setSimplest_b82 c0 a1 a2 a4 v6_8 a8 h
noncomputable def s_X10_setSimplest_b78 (c0 : Nat) (a1 : Int32) (a2 : Int64) (a4 : Int64) (a8 : Int64) (t0 : Int64) (h : Hp) : Option ((Int64 × Hp) ⊕ ((Hp) ⊕ (Hp))) :=
  s_X10_setSimplest_b79 c0 a1 a2 a4 a8 (0 : Int64) t0 h
noncomputable def s_X10_setSimplest_l3 (c0 : Nat) (a1 : Int32) (a2 : Int64) (a4 : Int64) (h : Hp) : Option ((Int64 × Hp) ⊕ ((Hp) ⊕ (Hp))) :=
  if a4 < (100000000 : Int64) then (if (h.1 c0 20) = 0 then (s_X10_setSimplest_b82 c0 a1 a2 a4 (0 : Int64) (0 : Int64) h)
  else ((s_X10_floorOf  ((-(h.2 c0 21)) * a4) ((h.2 c0 22) * a2) h).bind fun y6 =>
  lt (-y6) fun v6_7 =>
  if (h.1 c0 23) = 0 then (s_X10_setSimplest_b78 c0 a1 a2 a4 (0 : Int64) v6_7 h)
  else (if ((v6_7 * a2) * (h.2 c0 22)) = ((h.2 c0 21) * a4) then (s_X10_setSimplest_b79 c0 a1 a2 a4 (0 : Int64) (1 : Int64) v6_7 h)
  else (s_X10_setSimplest_b78 c0 a1 a2 a4 (0 : Int64) v6_7 h))))
  else (some (.inr (.inl h)))
noncomputable def s_X10_setSimplest (c0 : Nat) (a1 : Int32) (a2 : Int64) (h : Hp) : Option (Hp) :=
  (iter (fun s : Int64 × Hp => s_X10_setSimplest_l3 c0 a1 a2 s.1 s.2) FUEL ((1 : Int64), h)).bind (Sum.elim (fun t10 => some t10)
  (fun t11 => some t11))
set_option maxRecDepth 100000 in
set_option maxHeartbeats 4000000 in
theorem o_X10_setSimplest_b222 {K : gK} (S : Cx K RX10 cX10_setSimplest 11 1 29) {c0 : Nat} (k0 : kd c0 (10 + 10, 0)) (a1 : Int32) (a2 : Int64) (a4 : Int64) (t0 : Int64) (t1 : Int32) (h : Hp) {o : (Int64 × Hp) ⊕ ((Hp) ⊕ (Hp))} (hyp : s_X10_setSimplest_b222 c0 a1 a2 a4 t0 t1 h = some o) (hin : ∀ s', o = .inl s' → Go K 3 [(0, .ref (ad K c0)), (1, .int a1), (2, .long a2), (4, .long s'.1)] [] s'.2) (hex0 : ∀ s', o = .inr (.inl s') → Go K 241 [] [] s') (hret : ∀ x', o = .inr (.inr x') → Rt K none none x') : Go K 222 [(0, .ref (ad K c0)), (1, .int a1), (2, .long a2), (4, .long a4)] [.long t0, .int t1, .ref (ad K (c0 + 19))] h := by
  unfold s_X10_setSimplest_b222 at hyp
  refine g_last (pc := 222) S dX10_setSimplest_222 (kf_10_19 k0) hyp (fun h2 hyp => ?_)
  refine g_aload_n (pc := 223) 0 S dX10_setSimplest_223 rfl ?_
  refine g_getR (pc := 224) S dX10_setSimplest_224 fl_X10_76 k0 ?_
  refine g_iload_n (pc := 227) 1 S dX10_setSimplest_227 rfl ?_
  refine g_lload (pc := 228) 3 S dX10_setSimplest_228 rfl ?_
  refine g_last (pc := 230) S dX10_setSimplest_230 (kf_10_20 k0) hyp (fun h3 hyp => ?_)
  have hyp := Option.some.inj hyp
  subst hyp
  exact g_vret (pc := 231) S (hret h3 rfl) dX10_setSimplest_231
set_option maxRecDepth 100000 in
set_option maxHeartbeats 4000000 in
theorem o_X10_setSimplest_b221 {K : gK} (S : Cx K RX10 cX10_setSimplest 11 1 29) {c0 : Nat} (k0 : kd c0 (10 + 10, 0)) (a1 : Int32) (a2 : Int64) (a4 : Int64) (t0 : Int32) (h : Hp) {o : (Int64 × Hp) ⊕ ((Hp) ⊕ (Hp))} (hyp : s_X10_setSimplest_b221 c0 a1 a2 a4 t0 h = some o) (hin : ∀ s', o = .inl s' → Go K 3 [(0, .ref (ad K c0)), (1, .int a1), (2, .long a2), (4, .long s'.1)] [] s'.2) (hex0 : ∀ s', o = .inr (.inl s') → Go K 241 [] [] s') (hret : ∀ x', o = .inr (.inr x') → Rt K none none x') : Go K 221 [(0, .ref (ad K c0)), (1, .int a1), (2, .long a2), (4, .long a4)] [.int t0, .ref (ad K (c0 + 19))] h := by
  unfold s_X10_setSimplest_b221 at hyp
  refine g_lconst (pc := 221) (v := (0 : Int64)) S dX10_setSimplest_221 (by decide) ?_
  exact g_sub [0, 1, 2, 3] rfl (o_X10_setSimplest_b222 S k0 a1 a2 a4 (0 : Int64) t0 h hyp hin hex0 hret)
set_option maxRecDepth 100000 in
set_option maxHeartbeats 4000000 in
theorem o_X10_setSimplest_b202 {K : gK} (S : Cx K RX10 cX10_setSimplest 11 1 29) {c0 : Nat} (k0 : kd c0 (10 + 10, 0)) (a1 : Int32) (a2 : Int64) (a4 : Int64) (a8 : Int64) (t0 : Int32) (h : Hp) {o : (Int64 × Hp) ⊕ ((Hp) ⊕ (Hp))} (hyp : s_X10_setSimplest_b202 c0 a1 a2 a4 a8 t0 h = some o) (hin : ∀ s', o = .inl s' → Go K 3 [(0, .ref (ad K c0)), (1, .int a1), (2, .long a2), (4, .long s'.1)] [] s'.2) (hex0 : ∀ s', o = .inr (.inl s') → Go K 241 [] [] s') (hret : ∀ x', o = .inr (.inr x') → Rt K none none x') : Go K 202 [(0, .ref (ad K c0)), (1, .int a1), (2, .long a2), (4, .long a4), (8, .long a8)] [.int t0, .ref (ad K (c0 + 19))] h := by
  unfold s_X10_setSimplest_b202 at hyp
  refine g_aload_n (pc := 202) 0 S dX10_setSimplest_202 rfl ?_
  refine g_getI (pc := 203) S dX10_setSimplest_203 fl_X10_153 k0 ?_
  refine g_if_eq (pc := 206) (tgt := 221) S dX10_setSimplest_206 (by decide) hyp (fun hyp => ?_) (fun hyp => ?_)
  · exact g_sub [0, 1, 2, 3] rfl (o_X10_setSimplest_b221 S k0 a1 a2 a4 t0 h hyp hin hex0 hret)
  · refine g_lload (pc := 209) 4 S dX10_setSimplest_209 rfl ?_
    refine g_lconst (pc := 211) (v := (0 : Int64)) S dX10_setSimplest_211 (by decide) ?_
    refine g_lcmp_ge (pc := 212) (tgt := 221) S dX10_setSimplest_212 dX10_setSimplest_213 (by decide) hyp (fun hyp => ?_) (fun hyp => ?_)
    · refine g_lload (pc := 216) 4 S dX10_setSimplest_216 rfl ?_
      refine g_goto (pc := 218) (tgt := 222) S dX10_setSimplest_218 (by decide) ?_
      exact g_sub [0, 1, 2, 3] rfl (o_X10_setSimplest_b222 S k0 a1 a2 a4 a8 t0 h hyp hin hex0 hret)
    · exact g_sub [0, 1, 2, 3] rfl (o_X10_setSimplest_b221 S k0 a1 a2 a4 t0 h hyp hin hex0 hret)
set_option maxRecDepth 100000 in
set_option maxHeartbeats 4000000 in
theorem o_X10_setSimplest_b171 {K : gK} (S : Cx K RX10 cX10_setSimplest 11 1 29) {c0 : Nat} (k0 : kd c0 (10 + 10, 0)) (a1 : Int32) (a2 : Int64) (a4 : Int64) (a6 : Int64) (a8 : Int64) (t0 : Int32) (h : Hp) {o : (Int64 × Hp) ⊕ ((Hp) ⊕ (Hp))} (hyp : s_X10_setSimplest_b171 c0 a1 a2 a4 a6 a8 t0 h = some o) (hin : ∀ s', o = .inl s' → Go K 3 [(0, .ref (ad K c0)), (1, .int a1), (2, .long a2), (4, .long s'.1)] [] s'.2) (hex0 : ∀ s', o = .inr (.inl s') → Go K 241 [] [] s') (hret : ∀ x', o = .inr (.inr x') → Rt K none none x') : Go K 171 [(0, .ref (ad K c0)), (1, .int a1), (2, .long a2), (4, .long a4), (6, .long a6), (8, .long a8)] [.int t0] h := by
  unfold s_X10_setSimplest_b171 at hyp
  refine g_istore (pc := 171) (lv' := [(10, .int t0), (0, .ref (ad K c0)), (1, .int a1), (2, .long a2), (4, .long a4), (6, .long a6), (8, .long a8)]) S dX10_setSimplest_171 (by decide) rfl ?_
  refine g_iload (pc := 173) 0 S dX10_setSimplest_173 rfl ?_
  refine g_if_eq (pc := 175) (tgt := 232) S dX10_setSimplest_175 (by decide) hyp (fun hyp => ?_) (fun hyp => ?_)
  · refine g_lload (pc := 232) 4 S dX10_setSimplest_232 rfl ?_
    refine g_lconst (pc := 234) (v := (1 : Int64)) S dX10_setSimplest_234 (by decide) ?_
    refine g_ladd (pc := 235) S dX10_setSimplest_235 ?_
    refine g_lti (C := fun v4_1 => Go K 236 [(10, .int t0), (0, .ref (ad K c0)), (1, .int a1), (2, .long a2), (4, .long a4), (6, .long a6), (8, .long a8)] [.long v4_1] h) hyp (fun v4_1 hyp => ?_)
    refine g_lstore (pc := 236) (lv' := [(4, .long v4_1), (10, .int t0), (0, .ref (ad K c0)), (1, .int a1), (2, .long a2), (6, .long a6), (8, .long a8)]) S dX10_setSimplest_236 (by decide) rfl ?_
    refine g_goto (pc := 238) (tgt := 3) S dX10_setSimplest_238 (by decide) ?_
    have hyp := Option.some.inj hyp
    subst hyp
    exact g_sub [2, 3, 4, 0] rfl (hin (v4_1, h) rfl)
  · refine g_aload_n (pc := 178) 1 S dX10_setSimplest_178 rfl ?_
    refine g_getR (pc := 179) S dX10_setSimplest_179 fl_X10_73 k0 ?_
    refine g_iload_n (pc := 182) 2 S dX10_setSimplest_182 rfl ?_
    refine g_aload_n (pc := 183) 1 S dX10_setSimplest_183 rfl ?_
    refine g_getI (pc := 184) S dX10_setSimplest_184 fl_X10_167 k0 ?_
    refine g_if_eq (pc := 187) (tgt := 202) S dX10_setSimplest_187 (by decide) hyp (fun hyp => ?_) (fun hyp => ?_)
    · exact g_sub [1, 2, 3, 4, 6] rfl (o_X10_setSimplest_b202 S k0 a1 a2 a4 a8 a1 h hyp hin hex0 hret)
    · refine g_lload (pc := 190) 5 S dX10_setSimplest_190 rfl ?_
      refine g_lconst (pc := 192) (v := (0 : Int64)) S dX10_setSimplest_192 (by decide) ?_
      refine g_lcmp_le (pc := 193) (tgt := 202) S dX10_setSimplest_193 dX10_setSimplest_194 (by decide) hyp (fun hyp => ?_) (fun hyp => ?_)
      · refine g_lload (pc := 197) 5 S dX10_setSimplest_197 rfl ?_
        refine g_goto (pc := 199) (tgt := 222) S dX10_setSimplest_199 (by decide) ?_
        exact g_sub [1, 2, 3, 4] rfl (o_X10_setSimplest_b222 S k0 a1 a2 a4 a6 a1 h hyp hin hex0 hret)
      · exact g_sub [1, 2, 3, 4, 6] rfl (o_X10_setSimplest_b202 S k0 a1 a2 a4 a8 a1 h hyp hin hex0 hret)
set_option maxRecDepth 100000 in
set_option maxHeartbeats 4000000 in
theorem o_X10_setSimplest_b166 {K : gK} (S : Cx K RX10 cX10_setSimplest 11 1 29) {c0 : Nat} (k0 : kd c0 (10 + 10, 0)) (a1 : Int32) (a2 : Int64) (a4 : Int64) (a6 : Int64) (a8 : Int64) (h : Hp) {o : (Int64 × Hp) ⊕ ((Hp) ⊕ (Hp))} (hyp : s_X10_setSimplest_b166 c0 a1 a2 a4 a6 a8 h = some o) (hin : ∀ s', o = .inl s' → Go K 3 [(0, .ref (ad K c0)), (1, .int a1), (2, .long a2), (4, .long s'.1)] [] s'.2) (hex0 : ∀ s', o = .inr (.inl s') → Go K 241 [] [] s') (hret : ∀ x', o = .inr (.inr x') → Rt K none none x') : Go K 166 [(0, .ref (ad K c0)), (1, .int a1), (2, .long a2), (4, .long a4), (6, .long a6), (8, .long a8)] [] h := by
  unfold s_X10_setSimplest_b166 at hyp
  refine g_iconst (pc := 166) (v := (1 : Int32)) S dX10_setSimplest_166 (by decide) ?_
  refine g_goto (pc := 167) (tgt := 171) S dX10_setSimplest_167 (by decide) ?_
  exact g_sub [0, 1, 2, 3, 4, 5] rfl (o_X10_setSimplest_b171 S k0 a1 a2 a4 a6 a8 (1 : Int32) h hyp hin hex0 hret)
set_option maxRecDepth 100000 in
set_option maxHeartbeats 4000000 in
theorem o_X10_setSimplest_b144 {K : gK} (S : Cx K RX10 cX10_setSimplest 11 1 29) {c0 : Nat} (k0 : kd c0 (10 + 10, 0)) (a1 : Int32) (a2 : Int64) (a4 : Int64) (a6 : Int64) (a8 : Int64) (h : Hp) {o : (Int64 × Hp) ⊕ ((Hp) ⊕ (Hp))} (hyp : s_X10_setSimplest_b144 c0 a1 a2 a4 a6 a8 h = some o) (hin : ∀ s', o = .inl s' → Go K 3 [(0, .ref (ad K c0)), (1, .int a1), (2, .long a2), (4, .long s'.1)] [] s'.2) (hex0 : ∀ s', o = .inr (.inl s') → Go K 241 [] [] s') (hret : ∀ x', o = .inr (.inr x') → Rt K none none x') : Go K 144 [(0, .ref (ad K c0)), (1, .int a1), (2, .long a2), (4, .long a4), (6, .long a6), (8, .long a8)] [] h := by
  unfold s_X10_setSimplest_b144 at hyp
  refine g_aload_n (pc := 144) 0 S dX10_setSimplest_144 rfl ?_
  refine g_getI (pc := 145) S dX10_setSimplest_145 fl_X10_167 k0 ?_
  refine g_if_eq (pc := 148) (tgt := 166) S dX10_setSimplest_148 (by decide) hyp (fun hyp => ?_) (fun hyp => ?_)
  · exact g_sub [0, 1, 2, 3, 4, 5] rfl (o_X10_setSimplest_b166 S k0 a1 a2 a4 a6 a8 h hyp hin hex0 hret)
  · refine g_aload_n (pc := 151) 0 S dX10_setSimplest_151 rfl ?_
    refine g_getI (pc := 152) S dX10_setSimplest_152 fl_X10_153 k0 ?_
    refine g_if_eq (pc := 155) (tgt := 166) S dX10_setSimplest_155 (by decide) hyp (fun hyp => ?_) (fun hyp => ?_)
    · exact g_sub [0, 1, 2, 3, 4, 5] rfl (o_X10_setSimplest_b166 S k0 a1 a2 a4 a6 a8 h hyp hin hex0 hret)
    · refine g_lload (pc := 158) 4 S dX10_setSimplest_158 rfl ?_
      refine g_lload (pc := 160) 5 S dX10_setSimplest_160 rfl ?_
      refine g_lcmp_gt (pc := 162) (tgt := 170) S dX10_setSimplest_162 dX10_setSimplest_163 (by decide) hyp (fun hyp => ?_) (fun hyp => ?_)
      · refine g_iconst (pc := 170) (v := (0 : Int32)) S dX10_setSimplest_170 (by decide) ?_
        exact g_sub [0, 1, 2, 3, 4, 5] rfl (o_X10_setSimplest_b171 S k0 a1 a2 a4 a6 a8 (0 : Int32) h hyp hin hex0 hret)
      · exact g_sub [0, 1, 2, 3, 4, 5] rfl (o_X10_setSimplest_b166 S k0 a1 a2 a4 a6 a8 h hyp hin hex0 hret)
set_option maxRecDepth 100000 in
set_option maxHeartbeats 4000000 in
theorem o_X10_setSimplest_b141 {K : gK} (S : Cx K RX10 cX10_setSimplest 11 1 29) {c0 : Nat} (k0 : kd c0 (10 + 10, 0)) (a1 : Int32) (a2 : Int64) (a4 : Int64) (a6 : Int64) (t0 : Int64) (t1 : Int64) (h : Hp) {o : (Int64 × Hp) ⊕ ((Hp) ⊕ (Hp))} (hyp : s_X10_setSimplest_b141 c0 a1 a2 a4 a6 t0 t1 h = some o) (hin : ∀ s', o = .inl s' → Go K 3 [(0, .ref (ad K c0)), (1, .int a1), (2, .long a2), (4, .long s'.1)] [] s'.2) (hex0 : ∀ s', o = .inr (.inl s') → Go K 241 [] [] s') (hret : ∀ x', o = .inr (.inr x') → Rt K none none x') : Go K 141 [(0, .ref (ad K c0)), (1, .int a1), (2, .long a2), (4, .long a4), (6, .long a6)] [.long t0, .long t1] h := by
  unfold s_X10_setSimplest_b141 at hyp
  refine g_lsub (pc := 141) S dX10_setSimplest_141 ?_
  refine g_lti (C := fun v8_5 => Go K 142 [(0, .ref (ad K c0)), (1, .int a1), (2, .long a2), (4, .long a4), (6, .long a6)] [.long v8_5] h) hyp (fun v8_5 hyp => ?_)
  refine g_lstore (pc := 142) (lv' := [(8, .long v8_5), (0, .ref (ad K c0)), (1, .int a1), (2, .long a2), (4, .long a4), (6, .long a6)]) S dX10_setSimplest_142 (by decide) rfl ?_
  exact g_sub [1, 2, 3, 4, 5, 0] rfl (o_X10_setSimplest_b144 S k0 a1 a2 a4 a6 v8_5 h hyp hin hex0 hret)
set_option maxRecDepth 100000 in
set_option maxHeartbeats 4000000 in
theorem o_X10_setSimplest_b140 {K : gK} (S : Cx K RX10 cX10_setSimplest 11 1 29) {c0 : Nat} (k0 : kd c0 (10 + 10, 0)) (a1 : Int32) (a2 : Int64) (a4 : Int64) (a6 : Int64) (t0 : Int64) (h : Hp) {o : (Int64 × Hp) ⊕ ((Hp) ⊕ (Hp))} (hyp : s_X10_setSimplest_b140 c0 a1 a2 a4 a6 t0 h = some o) (hin : ∀ s', o = .inl s' → Go K 3 [(0, .ref (ad K c0)), (1, .int a1), (2, .long a2), (4, .long s'.1)] [] s'.2) (hex0 : ∀ s', o = .inr (.inl s') → Go K 241 [] [] s') (hret : ∀ x', o = .inr (.inr x') → Rt K none none x') : Go K 140 [(0, .ref (ad K c0)), (1, .int a1), (2, .long a2), (4, .long a4), (6, .long a6)] [.long t0] h := by
  unfold s_X10_setSimplest_b140 at hyp
  refine g_lconst (pc := 140) (v := (0 : Int64)) S dX10_setSimplest_140 (by decide) ?_
  exact g_sub [0, 1, 2, 3, 4] rfl (o_X10_setSimplest_b141 S k0 a1 a2 a4 a6 (0 : Int64) t0 h hyp hin hex0 hret)
set_option maxRecDepth 100000 in
set_option maxHeartbeats 4000000 in
theorem o_X10_setSimplest_b82 {K : gK} (S : Cx K RX10 cX10_setSimplest 11 1 29) {c0 : Nat} (k0 : kd c0 (10 + 10, 0)) (a1 : Int32) (a2 : Int64) (a4 : Int64) (a6 : Int64) (a8 : Int64) (h : Hp) {o : (Int64 × Hp) ⊕ ((Hp) ⊕ (Hp))} (hyp : s_X10_setSimplest_b82 c0 a1 a2 a4 a6 a8 h = some o) (hin : ∀ s', o = .inl s' → Go K 3 [(0, .ref (ad K c0)), (1, .int a1), (2, .long a2), (4, .long s'.1)] [] s'.2) (hex0 : ∀ s', o = .inr (.inl s') → Go K 241 [] [] s') (hret : ∀ x', o = .inr (.inr x') → Rt K none none x') : Go K 82 [(0, .ref (ad K c0)), (1, .int a1), (2, .long a2), (4, .long a4), (6, .long a6), (8, .long a8)] [] h := by
  unfold s_X10_setSimplest_b82 at hyp
  refine g_aload_n (pc := 82) 0 S dX10_setSimplest_82 rfl ?_
  refine g_getI (pc := 83) S dX10_setSimplest_83 fl_X10_153 k0 ?_
  refine g_if_eq (pc := 86) (tgt := 144) S dX10_setSimplest_86 (by decide) hyp (fun hyp => ?_) (fun hyp => ?_)
  · exact g_sub [0, 1, 2, 3, 4, 5] rfl (o_X10_setSimplest_b144 S k0 a1 a2 a4 a6 a8 h hyp hin hex0 hret)
  · refine g_aload_n (pc := 89) 0 S dX10_setSimplest_89 rfl ?_
    refine g_getJ (pc := 90) S dX10_setSimplest_90 fl_X10_159 k0 ?_
    refine g_lload (pc := 93) 3 S dX10_setSimplest_93 rfl ?_
    refine g_lmul (pc := 95) S dX10_setSimplest_95 ?_
    refine g_aload_n (pc := 96) 0 S dX10_setSimplest_96 rfl ?_
    refine g_getJ (pc := 97) S dX10_setSimplest_97 fl_X10_156 k0 ?_
    refine g_lload_n (pc := 100) 2 S dX10_setSimplest_100 rfl ?_
    refine g_lmul (pc := 101) S dX10_setSimplest_101 ?_
    refine g_bind hyp (fun y4 hy4 hyp => ?_)
    refine g_callS (pc := 102) (As := [.long ((h.2 c0 25) * a4), .long ((h.2 c0 26) * a2)]) (rest := []) S dX10_setSimplest_102 tw_1177 tw_1178 mw_X10_floorOf (m_X10_floorOf  ((h.2 c0 25) * a4) ((h.2 c0 26) * a2) h hy4) rfl rfl (Nat.le_of_ble_eq_true rfl) (Nat.le_of_ble_eq_true rfl) (Nat.le_of_ble_eq_true rfl) ?_
    refine g_lstore (pc := 105) (lv' := [(8, .long y4), (0, .ref (ad K c0)), (1, .int a1), (2, .long a2), (4, .long a4), (6, .long a6)]) S dX10_setSimplest_105 (by decide) rfl ?_
    refine g_lload (pc := 107) 0 S dX10_setSimplest_107 rfl ?_
    refine g_aload_n (pc := 109) 1 S dX10_setSimplest_109 rfl ?_
    refine g_getI (pc := 110) S dX10_setSimplest_110 fl_X10_164 k0 ?_
    refine g_if_eq (pc := 113) (tgt := 140) S dX10_setSimplest_113 (by decide) hyp (fun hyp => ?_) (fun hyp => ?_)
    · exact g_sub [1, 2, 3, 4, 5] rfl (o_X10_setSimplest_b140 S k0 a1 a2 a4 a6 y4 h hyp hin hex0 hret)
    · refine g_lload (pc := 116) 0 S dX10_setSimplest_116 rfl ?_
      refine g_lload_n (pc := 118) 3 S dX10_setSimplest_118 rfl ?_
      refine g_lmul (pc := 119) S dX10_setSimplest_119 ?_
      refine g_aload_n (pc := 120) 1 S dX10_setSimplest_120 rfl ?_
      refine g_getJ (pc := 121) S dX10_setSimplest_121 fl_X10_156 k0 ?_
      refine g_lmul (pc := 124) S dX10_setSimplest_124 ?_
      refine g_aload_n (pc := 125) 1 S dX10_setSimplest_125 rfl ?_
      refine g_getJ (pc := 126) S dX10_setSimplest_126 fl_X10_159 k0 ?_
      refine g_lload (pc := 129) 4 S dX10_setSimplest_129 rfl ?_
      refine g_lmul (pc := 131) S dX10_setSimplest_131 ?_
      refine g_lcmp_ne (pc := 132) (tgt := 140) S dX10_setSimplest_132 dX10_setSimplest_133 (by decide) hyp (fun hyp => ?_) (fun hyp => ?_)
      · refine g_lconst (pc := 136) (v := (1 : Int64)) S dX10_setSimplest_136 (by decide) ?_
        refine g_goto (pc := 137) (tgt := 141) S dX10_setSimplest_137 (by decide) ?_
        exact g_sub [1, 2, 3, 4, 5] rfl (o_X10_setSimplest_b141 S k0 a1 a2 a4 a6 (1 : Int64) y4 h hyp hin hex0 hret)
      · exact g_sub [1, 2, 3, 4, 5] rfl (o_X10_setSimplest_b140 S k0 a1 a2 a4 a6 y4 h hyp hin hex0 hret)
set_option maxRecDepth 100000 in
set_option maxHeartbeats 4000000 in
theorem o_X10_setSimplest_b79 {K : gK} (S : Cx K RX10 cX10_setSimplest 11 1 29) {c0 : Nat} (k0 : kd c0 (10 + 10, 0)) (a1 : Int32) (a2 : Int64) (a4 : Int64) (a8 : Int64) (t0 : Int64) (t1 : Int64) (h : Hp) {o : (Int64 × Hp) ⊕ ((Hp) ⊕ (Hp))} (hyp : s_X10_setSimplest_b79 c0 a1 a2 a4 a8 t0 t1 h = some o) (hin : ∀ s', o = .inl s' → Go K 3 [(0, .ref (ad K c0)), (1, .int a1), (2, .long a2), (4, .long s'.1)] [] s'.2) (hex0 : ∀ s', o = .inr (.inl s') → Go K 241 [] [] s') (hret : ∀ x', o = .inr (.inr x') → Rt K none none x') : Go K 79 [(0, .ref (ad K c0)), (1, .int a1), (2, .long a2), (4, .long a4), (8, .long a8)] [.long t0, .long t1] h := by
  unfold s_X10_setSimplest_b79 at hyp
  refine g_ladd (pc := 79) S dX10_setSimplest_79 ?_
  refine g_lti (C := fun v6_8 => Go K 80 [(0, .ref (ad K c0)), (1, .int a1), (2, .long a2), (4, .long a4), (8, .long a8)] [.long v6_8] h) hyp (fun v6_8 hyp => ?_)
  refine g_lstore (pc := 80) (lv' := [(6, .long v6_8), (0, .ref (ad K c0)), (1, .int a1), (2, .long a2), (4, .long a4), (8, .long a8)]) S dX10_setSimplest_80 (by decide) rfl ?_
  exact g_sub [1, 2, 3, 4, 0, 5] rfl (o_X10_setSimplest_b82 S k0 a1 a2 a4 v6_8 a8 h hyp hin hex0 hret)
set_option maxRecDepth 100000 in
set_option maxHeartbeats 4000000 in
theorem o_X10_setSimplest_b78 {K : gK} (S : Cx K RX10 cX10_setSimplest 11 1 29) {c0 : Nat} (k0 : kd c0 (10 + 10, 0)) (a1 : Int32) (a2 : Int64) (a4 : Int64) (a8 : Int64) (t0 : Int64) (h : Hp) {o : (Int64 × Hp) ⊕ ((Hp) ⊕ (Hp))} (hyp : s_X10_setSimplest_b78 c0 a1 a2 a4 a8 t0 h = some o) (hin : ∀ s', o = .inl s' → Go K 3 [(0, .ref (ad K c0)), (1, .int a1), (2, .long a2), (4, .long s'.1)] [] s'.2) (hex0 : ∀ s', o = .inr (.inl s') → Go K 241 [] [] s') (hret : ∀ x', o = .inr (.inr x') → Rt K none none x') : Go K 78 [(0, .ref (ad K c0)), (1, .int a1), (2, .long a2), (4, .long a4), (8, .long a8)] [.long t0] h := by
  unfold s_X10_setSimplest_b78 at hyp
  refine g_lconst (pc := 78) (v := (0 : Int64)) S dX10_setSimplest_78 (by decide) ?_
  exact g_sub [0, 1, 2, 3, 4] rfl (o_X10_setSimplest_b79 S k0 a1 a2 a4 a8 (0 : Int64) t0 h hyp hin hex0 hret)
set_option maxRecDepth 100000 in
set_option maxHeartbeats 4000000 in
theorem o_X10_setSimplest_l3 {K : gK} (S : Cx K RX10 cX10_setSimplest 11 1 29) {c0 : Nat} (k0 : kd c0 (10 + 10, 0)) (a1 : Int32) (a2 : Int64) (a4 : Int64) (h : Hp) {o : (Int64 × Hp) ⊕ ((Hp) ⊕ (Hp))} (hyp : s_X10_setSimplest_l3 c0 a1 a2 a4 h = some o) (hin : ∀ s', o = .inl s' → Go K 3 [(0, .ref (ad K c0)), (1, .int a1), (2, .long a2), (4, .long s'.1)] [] s'.2) (hex0 : ∀ s', o = .inr (.inl s') → Go K 241 [] [] s') (hret : ∀ x', o = .inr (.inr x') → Rt K none none x') : Go K 3 [(0, .ref (ad K c0)), (1, .int a1), (2, .long a2), (4, .long a4)] [] h := by
  unfold s_X10_setSimplest_l3 at hyp
  refine g_lload (pc := 3) 3 S dX10_setSimplest_3 rfl ?_
  refine g_ldc2 (pc := 5) (v := (100000000 : Int64)) S dX10_setSimplest_5 tw_1176 ?_
  refine g_lcmp_ge (pc := 8) (tgt := 241) S dX10_setSimplest_8 dX10_setSimplest_9 (by decide) hyp (fun hyp => ?_) (fun hyp => ?_)
  · refine g_lconst (pc := 12) (v := (0 : Int64)) S dX10_setSimplest_12 (by decide) ?_
    refine g_lstore (pc := 13) (lv' := [(6, .long (0 : Int64)), (0, .ref (ad K c0)), (1, .int a1), (2, .long a2), (4, .long a4)]) S dX10_setSimplest_13 (by decide) rfl ?_
    refine g_lconst (pc := 15) (v := (0 : Int64)) S dX10_setSimplest_15 (by decide) ?_
    refine g_lstore (pc := 16) (lv' := [(8, .long (0 : Int64)), (6, .long (0 : Int64)), (0, .ref (ad K c0)), (1, .int a1), (2, .long a2), (4, .long a4)]) S dX10_setSimplest_16 (by decide) rfl ?_
    refine g_aload_n (pc := 18) 2 S dX10_setSimplest_18 rfl ?_
    refine g_getI (pc := 19) S dX10_setSimplest_19 fl_X10_167 k0 ?_
    refine g_if_eq (pc := 22) (tgt := 82) S dX10_setSimplest_22 (by decide) hyp (fun hyp => ?_) (fun hyp => ?_)
    · exact g_sub [2, 3, 4, 5, 1, 0] rfl (o_X10_setSimplest_b82 S k0 a1 a2 a4 (0 : Int64) (0 : Int64) h hyp hin hex0 hret)
    · refine g_aload_n (pc := 25) 2 S dX10_setSimplest_25 rfl ?_
      refine g_getJ (pc := 26) S dX10_setSimplest_26 fl_X10_173 k0 ?_
      refine g_lneg (pc := 29) S dX10_setSimplest_29 ?_
      refine g_lload (pc := 30) 5 S dX10_setSimplest_30 rfl ?_
      refine g_lmul (pc := 32) S dX10_setSimplest_32 ?_
      refine g_aload_n (pc := 33) 2 S dX10_setSimplest_33 rfl ?_
      refine g_getJ (pc := 34) S dX10_setSimplest_34 fl_X10_170 k0 ?_
      refine g_lload_n (pc := 37) 4 S dX10_setSimplest_37 rfl ?_
      refine g_lmul (pc := 38) S dX10_setSimplest_38 ?_
      refine g_bind hyp (fun y6 hy6 hyp => ?_)
      refine g_callS (pc := 39) (As := [.long ((-(h.2 c0 21)) * a4), .long ((h.2 c0 22) * a2)]) (rest := []) S dX10_setSimplest_39 tw_1177 tw_1178 mw_X10_floorOf (m_X10_floorOf  ((-(h.2 c0 21)) * a4) ((h.2 c0 22) * a2) h hy6) rfl rfl (Nat.le_of_ble_eq_true rfl) (Nat.le_of_ble_eq_true rfl) (Nat.le_of_ble_eq_true rfl) ?_
      refine g_lneg (pc := 42) S dX10_setSimplest_42 ?_
      refine g_lti (C := fun v6_7 => Go K 43 [(8, .long (0 : Int64)), (6, .long (0 : Int64)), (0, .ref (ad K c0)), (1, .int a1), (2, .long a2), (4, .long a4)] [.long v6_7] h) hyp (fun v6_7 hyp => ?_)
      refine g_lstore (pc := 43) (lv' := [(6, .long v6_7), (8, .long (0 : Int64)), (0, .ref (ad K c0)), (1, .int a1), (2, .long a2), (4, .long a4)]) S dX10_setSimplest_43 (by decide) rfl ?_
      refine g_lload (pc := 45) 0 S dX10_setSimplest_45 rfl ?_
      refine g_aload_n (pc := 47) 2 S dX10_setSimplest_47 rfl ?_
      refine g_getI (pc := 48) S dX10_setSimplest_48 fl_X10_176 k0 ?_
      refine g_if_eq (pc := 51) (tgt := 78) S dX10_setSimplest_51 (by decide) hyp (fun hyp => ?_) (fun hyp => ?_)
      · exact g_sub [2, 3, 4, 5, 1] rfl (o_X10_setSimplest_b78 S k0 a1 a2 a4 (0 : Int64) v6_7 h hyp hin hex0 hret)
      · refine g_lload (pc := 54) 0 S dX10_setSimplest_54 rfl ?_
        refine g_lload_n (pc := 56) 4 S dX10_setSimplest_56 rfl ?_
        refine g_lmul (pc := 57) S dX10_setSimplest_57 ?_
        refine g_aload_n (pc := 58) 2 S dX10_setSimplest_58 rfl ?_
        refine g_getJ (pc := 59) S dX10_setSimplest_59 fl_X10_170 k0 ?_
        refine g_lmul (pc := 62) S dX10_setSimplest_62 ?_
        refine g_aload_n (pc := 63) 2 S dX10_setSimplest_63 rfl ?_
        refine g_getJ (pc := 64) S dX10_setSimplest_64 fl_X10_173 k0 ?_
        refine g_lload (pc := 67) 5 S dX10_setSimplest_67 rfl ?_
        refine g_lmul (pc := 69) S dX10_setSimplest_69 ?_
        refine g_lcmp_ne (pc := 70) (tgt := 78) S dX10_setSimplest_70 dX10_setSimplest_71 (by decide) hyp (fun hyp => ?_) (fun hyp => ?_)
        · refine g_lconst (pc := 74) (v := (1 : Int64)) S dX10_setSimplest_74 (by decide) ?_
          refine g_goto (pc := 75) (tgt := 79) S dX10_setSimplest_75 (by decide) ?_
          exact g_sub [2, 3, 4, 5, 1] rfl (o_X10_setSimplest_b79 S k0 a1 a2 a4 (0 : Int64) (1 : Int64) v6_7 h hyp hin hex0 hret)
        · exact g_sub [2, 3, 4, 5, 1] rfl (o_X10_setSimplest_b78 S k0 a1 a2 a4 (0 : Int64) v6_7 h hyp hin hex0 hret)
  · have hyp := Option.some.inj hyp
    subst hyp
    exact g_sub [] rfl (hex0 h rfl)
set_option maxRecDepth 100000 in
set_option maxHeartbeats 4000000 in
theorem o_X10_setSimplest {K : gK} (S : Cx K RX10 cX10_setSimplest 11 1 29) {c0 : Nat} (k0 : kd c0 (10 + 10, 0)) (a1 : Int32) (a2 : Int64) (h : Hp) {o : Hp} (hyp : s_X10_setSimplest c0 a1 a2 h = some o) (F : Rt K none none o) : Go K 0 [(0, .ref (ad K c0)), (1, .int a1), (2, .long a2)] [] h := by
  unfold s_X10_setSimplest at hyp
  refine g_lconst (pc := 0) (v := (1 : Int64)) S dX10_setSimplest_0 (by decide) ?_
  refine g_lstore (pc := 1) (lv' := [(4, .long (1 : Int64)), (0, .ref (ad K c0)), (1, .int a1), (2, .long a2)]) S dX10_setSimplest_1 (by decide) rfl ?_
  refine g_bind hyp (fun e9 he9 hyp => ?_)
  refine g_sub [1, 2, 3, 0] rfl (g_loop (f := fun s : Int64 × Hp => s_X10_setSimplest_l3 c0 a1 a2 s.1 s.2) (ρ := (Hp) ⊕ (Hp)) (Hd := fun s : Int64 × Hp => Go K 3 [(0, .ref (ad K c0)), (1, .int a1), (2, .long a2), (4, .long s.1)] [] s.2) (Ex := fun e9 => (∀ t, e9 = .inl t → Go K 241 [] [] t) ∧ (∀ t, e9 = .inr t → Rt K none none t)) (fun s o h1 h2 h3 => o_X10_setSimplest_l3 S k0 a1 a2 s.1 s.2 h1 h2 (fun t q => (h3 _ q).1 t rfl) (fun t q => (h3 _ q).2 t rfl)) FUEL _ e9 he9 ?_)
  refine ⟨?_, ?_⟩
  · intro t10 q
    subst q
    try dsimp only [Sum.elim] at hyp
    have hyp := Option.some.inj hyp
    subst hyp
    exact g_vret (pc := 241) S F dX10_setSimplest_241
  · intro t11 q
    subst q
    try dsimp only [Sum.elim] at hyp
    have hyp := Option.some.inj hyp
    subst hyp
    exact F
theorem m_X10_setSimplest {l : Launch} {D : va_G} {cT : Nat → ClassId} {aD : Nat → Nat} {c0 : Nat} (k0 : kd c0 (10 + 10, 0)) (a1 : Int32) (a2 : Int64) (h : Hp) {o : Hp} (hyp : s_X10_setSimplest c0 a1 a2 h = some o) : Ok l D cT aD yX10_setSimplest cX10_setSimplest 11 none 1 29 [.ref (aD c0), .int a1, .long a2] h none o :=
  Ok.of (by decide +kernel) rfl (Nat.le_of_ble_eq_true rfl) (fun K e1 e2 e3 e4 S F => by subst e1; exact o_X10_setSimplest S k0 a1 a2 h hyp F)
