-- BoundProofsModel setCorners ()V
noncomputable def s_X10_setCorners_l69 (c0 : Nat) (a1 : Int32) (a2 : Int32) (a3 : Int32) (h : Hp) : Option ((Int32 × Hp) ⊕ (Hp)) :=
  if a3 < (h.1 c0 3) then (if (2 : Int32) < (h.1 c0 0) then ((s_X10_tries c0 a1 a2 a3 h).bind fun y6 =>
  lt (a3 + (1 : Int32)) fun v3_7 =>
  some (.inl (v3_7, y6)))
  else (some (.inr (h))))
  else (some (.inr (h)))
noncomputable def s_X10_setCorners_b65 (c0 : Nat) (a1 : Int32) (a2 : Int32) (h : Hp) : Option ((Int32 × Hp) ⊕ (Hp)) :=
  lt (a2 + (1 : Int32)) fun v3_5 =>
  (iter (fun s : Int32 × Hp => s_X10_setCorners_l69 c0 a1 a2 s.1 s.2) FUEL (v3_5, h)).bind fun e8 =>
  lt (a2 + (1 : Int32)) fun v2_9 =>
  some (.inl (v2_9, e8))
noncomputable def s_X10_setCorners_l34 (c0 : Nat) (a1 : Int32) (a2 : Int32) (h : Hp) : Option ((Int32 × Hp) ⊕ (Hp)) :=
  if a2 < (h.1 c0 3) then (if (1 : Int32) < (h.1 c0 0) then (if (h.1 c0 0) = (2 : Int32) then ((s_X10_tries c0 a1 a2 a2 h).bind fun y4 =>
  s_X10_setCorners_b65 c0 a1 a2 y4)
  else (s_X10_setCorners_b65 c0 a1 a2 h))
  else (some (.inr (h))))
  else (some (.inr (h)))
noncomputable def s_X10_setCorners_b30 (c0 : Nat) (a1 : Int32) (h : Hp) : Option ((Int32 × Hp) ⊕ (Hp)) :=
  lt (a1 + (1 : Int32)) fun v2_3 =>
  (iter (fun s : Int32 × Hp => s_X10_setCorners_l34 c0 a1 s.1 s.2) FUEL (v2_3, h)).bind fun e10 =>
  lt (a1 + (1 : Int32)) fun v1_11 =>
  some (.inl (v1_11, e10))
noncomputable def s_X10_setCorners_l7 (c0 : Nat) (a1 : Int32) (h : Hp) : Option ((Int32 × Hp) ⊕ (Hp)) :=
  if a1 < (h.1 c0 3) then (if (h.1 c0 0) = (1 : Int32) then ((s_X10_tries c0 a1 a1 a1 h).bind fun y2 =>
  s_X10_setCorners_b30 c0 a1 y2)
  else (s_X10_setCorners_b30 c0 a1 h))
  else (some (.inr (h)))
noncomputable def s_X10_setCorners (c0 : Nat)  (h : Hp) : Option (Hp) :=
  lt (sI h c0 39 (0 : Int32)) fun h1 =>
  (iter (fun s : Int32 × Hp => s_X10_setCorners_l7 c0 s.1 s.2) FUEL ((0 : Int32), h1)).bind fun e12 =>
  some e12
set_option maxRecDepth 100000 in
set_option maxHeartbeats 4000000 in
theorem o_X10_setCorners_l69 {K : gK} (S : Cx K RX10 cX10_setCorners 4 5 144) {c0 : Nat} (k0 : kd c0 (10 + 10, 0)) (a1 : Int32) (a2 : Int32) (a3 : Int32) (h : Hp) {o : (Int32 × Hp) ⊕ (Hp)} (hyp : s_X10_setCorners_l69 c0 a1 a2 a3 h = some o) (hin : ∀ s', o = .inl s' → Go K 69 [(0, .ref (ad K c0)), (1, .int a1), (2, .int a2), (3, .int s'.1)] [] s'.2) (hex0 : ∀ s', o = .inr (s') → Go K 98 [(0, .ref (ad K c0)), (1, .int a1), (2, .int a2)] [] s') : Go K 69 [(0, .ref (ad K c0)), (1, .int a1), (2, .int a2), (3, .int a3)] [] h := by
  unfold s_X10_setCorners_l69 at hyp
  refine g_iload_n (pc := 69) 3 S dX10_setCorners_69 rfl ?_
  refine g_aload_n (pc := 70) 0 S dX10_setCorners_70 rfl ?_
  refine g_getI (pc := 71) S dX10_setCorners_71 fl_X10_97 k0 ?_
  refine g_icmp_ge (pc := 74) (tgt := 98) S dX10_setCorners_74 (by decide) hyp (fun hyp => ?_) (fun hyp => ?_)
  · refine g_aload_n (pc := 77) 0 S dX10_setCorners_77 rfl ?_
    refine g_getI (pc := 78) S dX10_setCorners_78 fl_X10_7 k0 ?_
    refine g_iconst (pc := 81) (v := (2 : Int32)) S dX10_setCorners_81 (by decide) ?_
    refine g_icmp_le (pc := 82) (tgt := 98) S dX10_setCorners_82 (by decide) hyp (fun hyp => ?_) (fun hyp => ?_)
    · refine g_aload_n (pc := 85) 0 S dX10_setCorners_85 rfl ?_
      refine g_iload_n (pc := 86) 1 S dX10_setCorners_86 rfl ?_
      refine g_iload_n (pc := 87) 2 S dX10_setCorners_87 rfl ?_
      refine g_iload_n (pc := 88) 3 S dX10_setCorners_88 rfl ?_
      refine g_bind hyp (fun y6 hy6 hyp => ?_)
      refine g_callV (pc := 89) (As := [.int a1, .int a2, .int a3]) (rest := []) S dX10_setCorners_89 k0 rfl tw_1191 tw_1192 tw_68 mw_X10_tries (m_X10_tries k0 a1 a2 a3 h hy6) rfl rfl (Nat.le_of_ble_eq_true rfl) (Nat.le_of_ble_eq_true rfl) (Nat.le_of_ble_eq_true rfl) ?_
      refine g_iinc (pc := 92) (v := (a3 + (1 : Int32))) (lv' := [(3, .int (a3 + (1 : Int32))), (0, .ref (ad K c0)), (1, .int a1), (2, .int a2)]) 3 S dX10_setCorners_92 rfl (by rfl) (by decide) rfl ?_
      refine g_lti (C := fun v3_7 => Go K (92 + 3) [(3, .int v3_7), (0, .ref (ad K c0)), (1, .int a1), (2, .int a2)] [] y6) hyp (fun v3_7 hyp => ?_)
      refine g_goto (pc := 95) (tgt := 69) S dX10_setCorners_95 (by decide) ?_
      have hyp := Option.some.inj hyp
      subst hyp
      exact g_sub [1, 2, 3, 0] rfl (hin (v3_7, y6) rfl)
    · have hyp := Option.some.inj hyp
      subst hyp
      exact g_sub [0, 1, 2] rfl (hex0 h rfl)
  · have hyp := Option.some.inj hyp
    subst hyp
    exact g_sub [0, 1, 2] rfl (hex0 h rfl)
set_option maxRecDepth 100000 in
set_option maxHeartbeats 4000000 in
theorem o_X10_setCorners_b65 {K : gK} (S : Cx K RX10 cX10_setCorners 4 5 144) {c0 : Nat} (k0 : kd c0 (10 + 10, 0)) (a1 : Int32) (a2 : Int32) (h : Hp) {o : (Int32 × Hp) ⊕ (Hp)} (hyp : s_X10_setCorners_b65 c0 a1 a2 h = some o) (hin : ∀ s', o = .inl s' → Go K 34 [(0, .ref (ad K c0)), (1, .int a1), (2, .int s'.1)] [] s'.2) (hex0 : ∀ s', o = .inr (s') → Go K 104 [(0, .ref (ad K c0)), (1, .int a1)] [] s') : Go K 65 [(0, .ref (ad K c0)), (1, .int a1), (2, .int a2)] [] h := by
  unfold s_X10_setCorners_b65 at hyp
  refine g_iload_n (pc := 65) 2 S dX10_setCorners_65 rfl ?_
  refine g_iconst (pc := 66) (v := (1 : Int32)) S dX10_setCorners_66 (by decide) ?_
  refine g_iadd (pc := 67) S dX10_setCorners_67 ?_
  refine g_lti (C := fun v3_5 => Go K 68 [(0, .ref (ad K c0)), (1, .int a1), (2, .int a2)] [.int v3_5] h) hyp (fun v3_5 hyp => ?_)
  refine g_istore_n (pc := 68) (lv' := [(3, .int v3_5), (0, .ref (ad K c0)), (1, .int a1), (2, .int a2)]) S dX10_setCorners_68 rfl (by decide) rfl ?_
  refine g_bind hyp (fun e8 he8 hyp => ?_)
  refine g_sub [1, 2, 3, 0] rfl (g_loop (f := fun s : Int32 × Hp => s_X10_setCorners_l69 c0 a1 a2 s.1 s.2) (ρ := Hp) (Hd := fun s : Int32 × Hp => Go K 69 [(0, .ref (ad K c0)), (1, .int a1), (2, .int a2), (3, .int s.1)] [] s.2) (Ex := fun e8 => Go K 98 [(0, .ref (ad K c0)), (1, .int a1), (2, .int a2)] [] e8) (fun s o h1 h2 h3 => o_X10_setCorners_l69 S k0 a1 a2 s.1 s.2 h1 h2 h3) FUEL _ e8 he8 ?_)
  refine g_iinc (pc := 98) (v := (a2 + (1 : Int32))) (lv' := [(2, .int (a2 + (1 : Int32))), (0, .ref (ad K c0)), (1, .int a1)]) 2 S dX10_setCorners_98 rfl (by rfl) (by decide) rfl ?_
  refine g_lti (C := fun v2_9 => Go K (98 + 3) [(2, .int v2_9), (0, .ref (ad K c0)), (1, .int a1)] [] e8) hyp (fun v2_9 hyp => ?_)
  refine g_goto (pc := 101) (tgt := 34) S dX10_setCorners_101 (by decide) ?_
  have hyp := Option.some.inj hyp
  subst hyp
  exact g_sub [1, 2, 0] rfl (hin (v2_9, e8) rfl)
set_option maxRecDepth 100000 in
set_option maxHeartbeats 4000000 in
theorem o_X10_setCorners_l34 {K : gK} (S : Cx K RX10 cX10_setCorners 4 5 144) {c0 : Nat} (k0 : kd c0 (10 + 10, 0)) (a1 : Int32) (a2 : Int32) (h : Hp) {o : (Int32 × Hp) ⊕ (Hp)} (hyp : s_X10_setCorners_l34 c0 a1 a2 h = some o) (hin : ∀ s', o = .inl s' → Go K 34 [(0, .ref (ad K c0)), (1, .int a1), (2, .int s'.1)] [] s'.2) (hex0 : ∀ s', o = .inr (s') → Go K 104 [(0, .ref (ad K c0)), (1, .int a1)] [] s') : Go K 34 [(0, .ref (ad K c0)), (1, .int a1), (2, .int a2)] [] h := by
  unfold s_X10_setCorners_l34 at hyp
  refine g_iload_n (pc := 34) 2 S dX10_setCorners_34 rfl ?_
  refine g_aload_n (pc := 35) 0 S dX10_setCorners_35 rfl ?_
  refine g_getI (pc := 36) S dX10_setCorners_36 fl_X10_97 k0 ?_
  refine g_icmp_ge (pc := 39) (tgt := 104) S dX10_setCorners_39 (by decide) hyp (fun hyp => ?_) (fun hyp => ?_)
  · refine g_aload_n (pc := 42) 0 S dX10_setCorners_42 rfl ?_
    refine g_getI (pc := 43) S dX10_setCorners_43 fl_X10_7 k0 ?_
    refine g_iconst (pc := 46) (v := (1 : Int32)) S dX10_setCorners_46 (by decide) ?_
    refine g_icmp_le (pc := 47) (tgt := 104) S dX10_setCorners_47 (by decide) hyp (fun hyp => ?_) (fun hyp => ?_)
    · refine g_aload_n (pc := 50) 0 S dX10_setCorners_50 rfl ?_
      refine g_getI (pc := 51) S dX10_setCorners_51 fl_X10_7 k0 ?_
      refine g_iconst (pc := 54) (v := (2 : Int32)) S dX10_setCorners_54 (by decide) ?_
      refine g_icmp_ne (pc := 55) (tgt := 65) S dX10_setCorners_55 (by decide) hyp (fun hyp => ?_) (fun hyp => ?_)
      · refine g_aload_n (pc := 58) 0 S dX10_setCorners_58 rfl ?_
        refine g_iload_n (pc := 59) 1 S dX10_setCorners_59 rfl ?_
        refine g_iload_n (pc := 60) 2 S dX10_setCorners_60 rfl ?_
        refine g_iload_n (pc := 61) 2 S dX10_setCorners_61 rfl ?_
        refine g_bind hyp (fun y4 hy4 hyp => ?_)
        refine g_callV (pc := 62) (As := [.int a1, .int a2, .int a2]) (rest := []) S dX10_setCorners_62 k0 rfl tw_1191 tw_1192 tw_68 mw_X10_tries (m_X10_tries k0 a1 a2 a2 h hy4) rfl rfl (Nat.le_of_ble_eq_true rfl) (Nat.le_of_ble_eq_true rfl) (Nat.le_of_ble_eq_true rfl) ?_
        exact g_sub [0, 1, 2] rfl (o_X10_setCorners_b65 S k0 a1 a2 y4 hyp hin hex0)
      · exact g_sub [0, 1, 2] rfl (o_X10_setCorners_b65 S k0 a1 a2 h hyp hin hex0)
    · have hyp := Option.some.inj hyp
      subst hyp
      exact g_sub [0, 1] rfl (hex0 h rfl)
  · have hyp := Option.some.inj hyp
    subst hyp
    exact g_sub [0, 1] rfl (hex0 h rfl)
set_option maxRecDepth 100000 in
set_option maxHeartbeats 4000000 in
theorem o_X10_setCorners_b30 {K : gK} (S : Cx K RX10 cX10_setCorners 4 5 144) {c0 : Nat} (k0 : kd c0 (10 + 10, 0)) (a1 : Int32) (h : Hp) {o : (Int32 × Hp) ⊕ (Hp)} (hyp : s_X10_setCorners_b30 c0 a1 h = some o) (hin : ∀ s', o = .inl s' → Go K 7 [(0, .ref (ad K c0)), (1, .int s'.1)] [] s'.2) (hex0 : ∀ s', o = .inr (s') → Go K 110 [] [] s') : Go K 30 [(0, .ref (ad K c0)), (1, .int a1)] [] h := by
  unfold s_X10_setCorners_b30 at hyp
  refine g_iload_n (pc := 30) 1 S dX10_setCorners_30 rfl ?_
  refine g_iconst (pc := 31) (v := (1 : Int32)) S dX10_setCorners_31 (by decide) ?_
  refine g_iadd (pc := 32) S dX10_setCorners_32 ?_
  refine g_lti (C := fun v2_3 => Go K 33 [(0, .ref (ad K c0)), (1, .int a1)] [.int v2_3] h) hyp (fun v2_3 hyp => ?_)
  refine g_istore_n (pc := 33) (lv' := [(2, .int v2_3), (0, .ref (ad K c0)), (1, .int a1)]) S dX10_setCorners_33 rfl (by decide) rfl ?_
  refine g_bind hyp (fun e10 he10 hyp => ?_)
  refine g_sub [1, 2, 0] rfl (g_loop (f := fun s : Int32 × Hp => s_X10_setCorners_l34 c0 a1 s.1 s.2) (ρ := Hp) (Hd := fun s : Int32 × Hp => Go K 34 [(0, .ref (ad K c0)), (1, .int a1), (2, .int s.1)] [] s.2) (Ex := fun e10 => Go K 104 [(0, .ref (ad K c0)), (1, .int a1)] [] e10) (fun s o h1 h2 h3 => o_X10_setCorners_l34 S k0 a1 s.1 s.2 h1 h2 h3) FUEL _ e10 he10 ?_)
  refine g_iinc (pc := 104) (v := (a1 + (1 : Int32))) (lv' := [(1, .int (a1 + (1 : Int32))), (0, .ref (ad K c0))]) 1 S dX10_setCorners_104 rfl (by rfl) (by decide) rfl ?_
  refine g_lti (C := fun v1_11 => Go K (104 + 3) [(1, .int v1_11), (0, .ref (ad K c0))] [] e10) hyp (fun v1_11 hyp => ?_)
  refine g_goto (pc := 107) (tgt := 7) S dX10_setCorners_107 (by decide) ?_
  have hyp := Option.some.inj hyp
  subst hyp
  exact g_sub [1, 0] rfl (hin (v1_11, e10) rfl)
set_option maxRecDepth 100000 in
set_option maxHeartbeats 4000000 in
theorem o_X10_setCorners_l7 {K : gK} (S : Cx K RX10 cX10_setCorners 4 5 144) {c0 : Nat} (k0 : kd c0 (10 + 10, 0)) (a1 : Int32) (h : Hp) {o : (Int32 × Hp) ⊕ (Hp)} (hyp : s_X10_setCorners_l7 c0 a1 h = some o) (hin : ∀ s', o = .inl s' → Go K 7 [(0, .ref (ad K c0)), (1, .int s'.1)] [] s'.2) (hex0 : ∀ s', o = .inr (s') → Go K 110 [] [] s') : Go K 7 [(0, .ref (ad K c0)), (1, .int a1)] [] h := by
  unfold s_X10_setCorners_l7 at hyp
  refine g_iload_n (pc := 7) 1 S dX10_setCorners_7 rfl ?_
  refine g_aload_n (pc := 8) 0 S dX10_setCorners_8 rfl ?_
  refine g_getI (pc := 9) S dX10_setCorners_9 fl_X10_97 k0 ?_
  refine g_icmp_ge (pc := 12) (tgt := 110) S dX10_setCorners_12 (by decide) hyp (fun hyp => ?_) (fun hyp => ?_)
  · refine g_aload_n (pc := 15) 0 S dX10_setCorners_15 rfl ?_
    refine g_getI (pc := 16) S dX10_setCorners_16 fl_X10_7 k0 ?_
    refine g_iconst (pc := 19) (v := (1 : Int32)) S dX10_setCorners_19 (by decide) ?_
    refine g_icmp_ne (pc := 20) (tgt := 30) S dX10_setCorners_20 (by decide) hyp (fun hyp => ?_) (fun hyp => ?_)
    · refine g_aload_n (pc := 23) 0 S dX10_setCorners_23 rfl ?_
      refine g_iload_n (pc := 24) 1 S dX10_setCorners_24 rfl ?_
      refine g_iload_n (pc := 25) 1 S dX10_setCorners_25 rfl ?_
      refine g_iload_n (pc := 26) 1 S dX10_setCorners_26 rfl ?_
      refine g_bind hyp (fun y2 hy2 hyp => ?_)
      refine g_callV (pc := 27) (As := [.int a1, .int a1, .int a1]) (rest := []) S dX10_setCorners_27 k0 rfl tw_1191 tw_1192 tw_68 mw_X10_tries (m_X10_tries k0 a1 a1 a1 h hy2) rfl rfl (Nat.le_of_ble_eq_true rfl) (Nat.le_of_ble_eq_true rfl) (Nat.le_of_ble_eq_true rfl) ?_
      exact g_sub [0, 1] rfl (o_X10_setCorners_b30 S k0 a1 y2 hyp hin hex0)
    · exact g_sub [0, 1] rfl (o_X10_setCorners_b30 S k0 a1 h hyp hin hex0)
  · have hyp := Option.some.inj hyp
    subst hyp
    exact g_sub [] rfl (hex0 h rfl)
set_option maxRecDepth 100000 in
set_option maxHeartbeats 4000000 in
theorem o_X10_setCorners {K : gK} (S : Cx K RX10 cX10_setCorners 4 5 144) {c0 : Nat} (k0 : kd c0 (10 + 10, 0))  (h : Hp) {o : Hp} (hyp : s_X10_setCorners c0  h = some o) (F : Rt K none none o) : Go K 0 [(0, .ref (ad K c0))] [] h := by
  unfold s_X10_setCorners at hyp
  refine g_aload_n (pc := 0) 0 S dX10_setCorners_0 rfl ?_
  refine g_iconst (pc := 1) (v := (0 : Int32)) S dX10_setCorners_1 (by decide) ?_
  refine g_putI (pc := 2) S dX10_setCorners_2 fl_X10_305 k0 hyp (fun h1 hyp => ?_)
  refine g_iconst (pc := 5) (v := (0 : Int32)) S dX10_setCorners_5 (by decide) ?_
  refine g_istore_n (pc := 6) (lv' := [(1, .int (0 : Int32)), (0, .ref (ad K c0))]) S dX10_setCorners_6 rfl (by decide) rfl ?_
  refine g_bind hyp (fun e12 he12 hyp => ?_)
  refine g_sub [1, 0] rfl (g_loop (f := fun s : Int32 × Hp => s_X10_setCorners_l7 c0 s.1 s.2) (ρ := Hp) (Hd := fun s : Int32 × Hp => Go K 7 [(0, .ref (ad K c0)), (1, .int s.1)] [] s.2) (Ex := fun e12 => Go K 110 [] [] e12) (fun s o h1 h2 h3 => o_X10_setCorners_l7 S k0 s.1 s.2 h1 h2 h3) FUEL _ e12 he12 ?_)
  have hyp := Option.some.inj hyp
  subst hyp
  exact g_vret (pc := 110) S F dX10_setCorners_110
theorem m_X10_setCorners {l : Launch} {D : va_G} {cT : Nat → ClassId} {aD : Nat → Nat} {c0 : Nat} (k0 : kd c0 (10 + 10, 0))  (h : Hp) {o : Hp} (hyp : s_X10_setCorners c0  h = some o) : Ok l D cT aD yX10_setCorners cX10_setCorners 4 none 5 144 [.ref (aD c0)] h none o :=
  Ok.of (by decide +kernel) rfl (Nat.le_of_ble_eq_true rfl) (fun K e1 e2 e3 e4 S F => by subst e1; exact o_X10_setCorners S k0  h hyp F)
-- BoundProofsModel corner (II)I
noncomputable def s_X10_corner (c0 : Nat) (a1 : Int32) (a2 : Int32) (h : Hp) : Option (Int32 × Hp) :=
  if a1 < 0 then (some ((-1 : Int32), h))
  else ((s_X10_isVariable c0 a2 h).bind fun y1 =>
  if y1 = 0 then (some ((-1 : Int32), h))
  else ((s_X10_setCorners c0  h).bind fun y2 =>
  if a1 < (y2.1 c0 39) then (ldJ y2 (c0 + 21) 480 (((4 : Int32) * a1) + a2) fun x3 =>
  ldJ y2 (c0 + 21) 480 (((4 : Int32) * a1) + (3 : Int32)) fun x4 =>
  (s_X10_says c0 x3 x4 (1 : Int32) y2).bind fun y5 =>
  some (y5.1, y5.2))
  else (some ((-9 : Int32), y2))))
set_option maxRecDepth 100000 in
set_option maxHeartbeats 4000000 in
theorem o_X10_corner {K : gK} (S : Cx K RX10 cX10_corner 3 6 171) {c0 : Nat} (k0 : kd c0 (10 + 10, 0)) (a1 : Int32) (a2 : Int32) (h : Hp) {o : Int32 × Hp} (hyp : s_X10_corner c0 a1 a2 h = some o) (F : Rt K (some .int) (some (.int o.1)) o.2) : Go K 0 [(0, .ref (ad K c0)), (1, .int a1), (2, .int a2)] [] h := by
  unfold s_X10_corner at hyp
  refine g_iload_n (pc := 0) 1 S dX10_corner_0 rfl ?_
  refine g_if_lt (pc := 1) (tgt := 12) S dX10_corner_1 (by decide) hyp (fun hyp => ?_) (fun hyp => ?_)
  · refine g_iconst (pc := 12) (v := (-1 : Int32)) S dX10_corner_12 (by decide) ?_
    have hyp := Option.some.inj hyp
    subst hyp
    exact g_iret (pc := 13) S F dX10_corner_13
  · refine g_aload_n (pc := 4) 0 S dX10_corner_4 rfl ?_
    refine g_iload_n (pc := 5) 2 S dX10_corner_5 rfl ?_
    refine g_bind hyp (fun y1 hy1 hyp => ?_)
    refine g_callV (pc := 6) (As := [.int a2]) (rest := []) S dX10_corner_6 k0 rfl tw_1017 tw_1018 tw_35 mw_X10_isVariable (m_X10_isVariable k0 a2 h hy1) rfl rfl (Nat.le_of_ble_eq_true rfl) (Nat.le_of_ble_eq_true rfl) (Nat.le_of_ble_eq_true rfl) ?_
    refine g_if_ne (pc := 9) (tgt := 14) S dX10_corner_9 (by decide) hyp (fun hyp => ?_) (fun hyp => ?_)
    · refine g_iconst (pc := 12) (v := (-1 : Int32)) S dX10_corner_12 (by decide) ?_
      have hyp := Option.some.inj hyp
      subst hyp
      exact g_iret (pc := 13) S F dX10_corner_13
    · refine g_aload_n (pc := 14) 0 S dX10_corner_14 rfl ?_
      refine g_bind hyp (fun y2 hy2 hyp => ?_)
      refine g_callV (pc := 15) (As := []) (rest := []) S dX10_corner_15 k0 rfl tw_1188 tw_1189 tw_67 mw_X10_setCorners (m_X10_setCorners k0  h hy2) rfl rfl (Nat.le_of_ble_eq_true rfl) (Nat.le_of_ble_eq_true rfl) (Nat.le_of_ble_eq_true rfl) ?_
      refine g_iload_n (pc := 18) 1 S dX10_corner_18 rfl ?_
      refine g_aload_n (pc := 19) 0 S dX10_corner_19 rfl ?_
      refine g_getI (pc := 20) S dX10_corner_20 fl_X10_305 k0 ?_
      refine g_icmp_ge (pc := 23) (tgt := 54) S dX10_corner_23 (by decide) hyp (fun hyp => ?_) (fun hyp => ?_)
      · refine g_aload_n (pc := 26) 0 S dX10_corner_26 rfl ?_
        refine g_aload_n (pc := 27) 0 S dX10_corner_27 rfl ?_
        refine g_getR (pc := 28) S dX10_corner_28 fl_X10_79 k0 ?_
        refine g_iconst (pc := 31) (v := (4 : Int32)) S dX10_corner_31 (by decide) ?_
        refine g_iload_n (pc := 32) 1 S dX10_corner_32 rfl ?_
        refine g_imul (pc := 33) S dX10_corner_33 ?_
        refine g_iload_n (pc := 34) 2 S dX10_corner_34 rfl ?_
        refine g_iadd (pc := 35) S dX10_corner_35 ?_
        refine g_lald (pc := 36) S dX10_corner_36 (kf_10_21 k0) hyp (fun x3 hyp => ?_)
        refine g_aload_n (pc := 37) 0 S dX10_corner_37 rfl ?_
        refine g_getR (pc := 38) S dX10_corner_38 fl_X10_79 k0 ?_
        refine g_iconst (pc := 41) (v := (4 : Int32)) S dX10_corner_41 (by decide) ?_
        refine g_iload_n (pc := 42) 1 S dX10_corner_42 rfl ?_
        refine g_imul (pc := 43) S dX10_corner_43 ?_
        refine g_iconst (pc := 44) (v := (3 : Int32)) S dX10_corner_44 (by decide) ?_
        refine g_iadd (pc := 45) S dX10_corner_45 ?_
        refine g_lald (pc := 46) S dX10_corner_46 (kf_10_21 k0) hyp (fun x4 hyp => ?_)
        refine g_iconst (pc := 47) (v := (1 : Int32)) S dX10_corner_47 (by decide) ?_
        refine g_bind hyp (fun y5 hy5 hyp => ?_)
        refine g_callV (pc := 48) (As := [.long x3, .long x4, .int (1 : Int32)]) (rest := []) S dX10_corner_48 k0 rfl tw_1125 tw_1126 tw_59 mw_X10_says (m_X10_says k0 x3 x4 (1 : Int32) y2 hy5) rfl rfl (Nat.le_of_ble_eq_true rfl) (Nat.le_of_ble_eq_true rfl) (Nat.le_of_ble_eq_true rfl) ?_
        refine g_goto (pc := 51) (tgt := 56) S dX10_corner_51 (by decide) ?_
        have hyp := Option.some.inj hyp
        subst hyp
        exact g_iret (pc := 56) S F dX10_corner_56
      · refine g_bipush (pc := 54) (v := (-9 : Int32)) S dX10_corner_54 (by decide) ?_
        have hyp := Option.some.inj hyp
        subst hyp
        exact g_iret (pc := 56) S F dX10_corner_56
theorem m_X10_corner {l : Launch} {D : va_G} {cT : Nat → ClassId} {aD : Nat → Nat} {c0 : Nat} (k0 : kd c0 (10 + 10, 0)) (a1 : Int32) (a2 : Int32) (h : Hp) {o : Int32 × Hp} (hyp : s_X10_corner c0 a1 a2 h = some o) : Ok l D cT aD yX10_corner cX10_corner 3 (some .int) 6 171 [.ref (aD c0), .int a1, .int a2] h (some (.int o.1)) o.2 :=
  Ok.of (by decide +kernel) rfl (Nat.le_of_ble_eq_true rfl) (fun K e1 e2 e3 e4 S F => by subst e1; exact o_X10_corner S k0 a1 a2 h hyp F)
-- BoundProofsModel meets (III)Z
noncomputable def s_X10_meets_b153 (c0 : Nat) (a1 : Int32) (a2 : Int32) (a3 : Int32) (a4 : Int32) (t0 : Int32) (h : Hp) : Option ((Int32) ⊕ ((Unit) ⊕ (Int32))) :=
  if t0 = 0 then (some (.inr (.inr (0 : Int32))))
  else (lt (a4 + (1 : Int32)) fun v4_7 =>
  some (.inl v4_7))
noncomputable def s_X10_meets_l3 (c0 : Nat) (a1 : Int32) (a2 : Int32) (a3 : Int32) (a4 : Int32) (h : Hp) : Option ((Int32) ⊕ ((Unit) ⊕ (Int32))) :=
  if a4 < (h.1 c0 3) then ((s_X10_coefficientOf c0 a4 (0 : Int32) h).bind fun y1 =>
  (s_X10_coefficientOf c0 a4 (1 : Int32) h).bind fun y2 =>
  (s_X10_coefficientOf c0 a4 (2 : Int32) h).bind fun y3 =>
  ldI h (c0 + 2) 30 (((3 : Int32) * a4) + (2 : Int32)) fun x4 =>
  lt ((((y1 * a1) + (y2 * a2)) + (y3 * a3)) - x4) fun v5_5 =>
  ldI h (c0 + 2) 30 (((3 : Int32) * a4) + (1 : Int32)) fun x6 =>
  if x6 = 0 then (if 0 < v5_5 then (s_X10_meets_b153 c0 a1 a2 a3 a4 (0 : Int32) h)
  else (s_X10_meets_b153 c0 a1 a2 a3 a4 (1 : Int32) h))
  else (if x6 = (1 : Int32) then (if v5_5 < 0 then (s_X10_meets_b153 c0 a1 a2 a3 a4 (1 : Int32) h)
  else (s_X10_meets_b153 c0 a1 a2 a3 a4 (0 : Int32) h))
  else (if x6 = (2 : Int32) then (if v5_5 < 0 then (s_X10_meets_b153 c0 a1 a2 a3 a4 (0 : Int32) h)
  else (s_X10_meets_b153 c0 a1 a2 a3 a4 (1 : Int32) h))
  else (if x6 = (3 : Int32) then (if 0 < v5_5 then (s_X10_meets_b153 c0 a1 a2 a3 a4 (1 : Int32) h)
  else (s_X10_meets_b153 c0 a1 a2 a3 a4 (0 : Int32) h))
  else (if v5_5 = 0 then (s_X10_meets_b153 c0 a1 a2 a3 a4 (1 : Int32) h)
  else (s_X10_meets_b153 c0 a1 a2 a3 a4 (0 : Int32) h))))))
  else (some (.inr (.inl ())))
noncomputable def s_X10_meets (c0 : Nat) (a1 : Int32) (a2 : Int32) (a3 : Int32) (h : Hp) : Option (Int32) :=
  (iter (fun s : Int32 => s_X10_meets_l3 c0 a1 a2 a3 s h) FUEL (0 : Int32)).bind (Sum.elim (fun t9 => some (1 : Int32))
  (fun t10 => some t10))
set_option maxRecDepth 100000 in
set_option maxHeartbeats 4000000 in
theorem o_X10_meets_b153 {K : gK} (S : Cx K RX10 cX10_meets 8 1 26) {c0 : Nat} (k0 : kd c0 (10 + 10, 0)) (a1 : Int32) (a2 : Int32) (a3 : Int32) (a4 : Int32) (t0 : Int32) (h : Hp) {o : (Int32) ⊕ ((Unit) ⊕ (Int32))} (hyp : s_X10_meets_b153 c0 a1 a2 a3 a4 t0 h = some o) (hin : ∀ s', o = .inl s' → Go K 3 [(0, .ref (ad K c0)), (1, .int a1), (2, .int a2), (3, .int a3), (4, .int s')] [] h) (hex0 : ∀ s', o = .inr (.inl s') → Go K 168 [] [] h) (hret : ∀ x', o = .inr (.inr x') → Rt K (some .boolean) (some (.int x')) h) : Go K 153 [(0, .ref (ad K c0)), (1, .int a1), (2, .int a2), (3, .int a3), (4, .int a4)] [.int t0] h := by
  unfold s_X10_meets_b153 at hyp
  refine g_istore (pc := 153) (lv' := [(7, .int t0), (0, .ref (ad K c0)), (1, .int a1), (2, .int a2), (3, .int a3), (4, .int a4)]) S dX10_meets_153 (by decide) rfl ?_
  refine g_iload (pc := 155) 0 S dX10_meets_155 rfl ?_
  refine g_if_ne (pc := 157) (tgt := 162) S dX10_meets_157 (by decide) hyp (fun hyp => ?_) (fun hyp => ?_)
  · refine g_iconst (pc := 160) (v := (0 : Int32)) S dX10_meets_160 (by decide) ?_
    have hyp := Option.some.inj hyp
    subst hyp
    exact g_zret (pc := 161) S (hret (0 : Int32) rfl) dX10_meets_161 (Or.inl rfl)
  · refine g_iinc (pc := 162) (v := (a4 + (1 : Int32))) (lv' := [(4, .int (a4 + (1 : Int32))), (7, .int t0), (0, .ref (ad K c0)), (1, .int a1), (2, .int a2), (3, .int a3)]) 5 S dX10_meets_162 rfl (by rfl) (by decide) rfl ?_
    refine g_lti (C := fun v4_7 => Go K (162 + 3) [(4, .int v4_7), (7, .int t0), (0, .ref (ad K c0)), (1, .int a1), (2, .int a2), (3, .int a3)] [] h) hyp (fun v4_7 hyp => ?_)
    refine g_goto (pc := 165) (tgt := 3) S dX10_meets_165 (by decide) ?_
    have hyp := Option.some.inj hyp
    subst hyp
    exact g_sub [2, 3, 4, 5, 0] rfl (hin v4_7 rfl)
set_option maxRecDepth 100000 in
set_option maxHeartbeats 4000000 in
theorem o_X10_meets_l3 {K : gK} (S : Cx K RX10 cX10_meets 8 1 26) {c0 : Nat} (k0 : kd c0 (10 + 10, 0)) (a1 : Int32) (a2 : Int32) (a3 : Int32) (a4 : Int32) (h : Hp) {o : (Int32) ⊕ ((Unit) ⊕ (Int32))} (hyp : s_X10_meets_l3 c0 a1 a2 a3 a4 h = some o) (hin : ∀ s', o = .inl s' → Go K 3 [(0, .ref (ad K c0)), (1, .int a1), (2, .int a2), (3, .int a3), (4, .int s')] [] h) (hex0 : ∀ s', o = .inr (.inl s') → Go K 168 [] [] h) (hret : ∀ x', o = .inr (.inr x') → Rt K (some .boolean) (some (.int x')) h) : Go K 3 [(0, .ref (ad K c0)), (1, .int a1), (2, .int a2), (3, .int a3), (4, .int a4)] [] h := by
  unfold s_X10_meets_l3 at hyp
  refine g_iload (pc := 3) 4 S dX10_meets_3 rfl ?_
  refine g_aload_n (pc := 5) 0 S dX10_meets_5 rfl ?_
  refine g_getI (pc := 6) S dX10_meets_6 fl_X10_97 k0 ?_
  refine g_icmp_ge (pc := 9) (tgt := 168) S dX10_meets_9 (by decide) hyp (fun hyp => ?_) (fun hyp => ?_)
  · refine g_aload_n (pc := 12) 0 S dX10_meets_12 rfl ?_
    refine g_iload (pc := 13) 4 S dX10_meets_13 rfl ?_
    refine g_iconst (pc := 15) (v := (0 : Int32)) S dX10_meets_15 (by decide) ?_
    refine g_bind hyp (fun y1 hy1 hyp => ?_)
    refine g_callV (pc := 16) (As := [.int a4, .int (0 : Int32)]) (rest := []) S dX10_meets_16 k0 rfl tw_1058 tw_1059 tw_42 mw_X10_coefficientOf (m_X10_coefficientOf k0 a4 (0 : Int32) h hy1) rfl rfl (Nat.le_of_ble_eq_true rfl) (Nat.le_of_ble_eq_true rfl) (Nat.le_of_ble_eq_true rfl) ?_
    refine g_iload_n (pc := 19) 1 S dX10_meets_19 rfl ?_
    refine g_imul (pc := 20) S dX10_meets_20 ?_
    refine g_aload_n (pc := 21) 0 S dX10_meets_21 rfl ?_
    refine g_iload (pc := 22) 4 S dX10_meets_22 rfl ?_
    refine g_iconst (pc := 24) (v := (1 : Int32)) S dX10_meets_24 (by decide) ?_
    refine g_bind hyp (fun y2 hy2 hyp => ?_)
    refine g_callV (pc := 25) (As := [.int a4, .int (1 : Int32)]) (rest := [.int (y1 * a1)]) S dX10_meets_25 k0 rfl tw_1058 tw_1059 tw_42 mw_X10_coefficientOf (m_X10_coefficientOf k0 a4 (1 : Int32) h hy2) rfl rfl (Nat.le_of_ble_eq_true rfl) (Nat.le_of_ble_eq_true rfl) (Nat.le_of_ble_eq_true rfl) ?_
    refine g_iload_n (pc := 28) 2 S dX10_meets_28 rfl ?_
    refine g_imul (pc := 29) S dX10_meets_29 ?_
    refine g_iadd (pc := 30) S dX10_meets_30 ?_
    refine g_aload_n (pc := 31) 0 S dX10_meets_31 rfl ?_
    refine g_iload (pc := 32) 4 S dX10_meets_32 rfl ?_
    refine g_iconst (pc := 34) (v := (2 : Int32)) S dX10_meets_34 (by decide) ?_
    refine g_bind hyp (fun y3 hy3 hyp => ?_)
    refine g_callV (pc := 35) (As := [.int a4, .int (2 : Int32)]) (rest := [.int ((y1 * a1) + (y2 * a2))]) S dX10_meets_35 k0 rfl tw_1058 tw_1059 tw_42 mw_X10_coefficientOf (m_X10_coefficientOf k0 a4 (2 : Int32) h hy3) rfl rfl (Nat.le_of_ble_eq_true rfl) (Nat.le_of_ble_eq_true rfl) (Nat.le_of_ble_eq_true rfl) ?_
    refine g_iload_n (pc := 38) 3 S dX10_meets_38 rfl ?_
    refine g_imul (pc := 39) S dX10_meets_39 ?_
    refine g_iadd (pc := 40) S dX10_meets_40 ?_
    refine g_aload_n (pc := 41) 0 S dX10_meets_41 rfl ?_
    refine g_getR (pc := 42) S dX10_meets_42 fl_X10_17 k0 ?_
    refine g_iconst (pc := 45) (v := (3 : Int32)) S dX10_meets_45 (by decide) ?_
    refine g_iload (pc := 46) 4 S dX10_meets_46 rfl ?_
    refine g_imul (pc := 48) S dX10_meets_48 ?_
    refine g_iconst (pc := 49) (v := (2 : Int32)) S dX10_meets_49 (by decide) ?_
    refine g_iadd (pc := 50) S dX10_meets_50 ?_
    refine g_iald (pc := 51) S dX10_meets_51 (kf_10_2 k0) hyp (fun x4 hyp => ?_)
    refine g_isub (pc := 52) S dX10_meets_52 ?_
    refine g_lti (C := fun v5_5 => Go K 53 [(0, .ref (ad K c0)), (1, .int a1), (2, .int a2), (3, .int a3), (4, .int a4)] [.int v5_5] h) hyp (fun v5_5 hyp => ?_)
    refine g_istore (pc := 53) (lv' := [(5, .int v5_5), (0, .ref (ad K c0)), (1, .int a1), (2, .int a2), (3, .int a3), (4, .int a4)]) S dX10_meets_53 (by decide) rfl ?_
    refine g_aload_n (pc := 55) 1 S dX10_meets_55 rfl ?_
    refine g_getR (pc := 56) S dX10_meets_56 fl_X10_17 k0 ?_
    refine g_iconst (pc := 59) (v := (3 : Int32)) S dX10_meets_59 (by decide) ?_
    refine g_iload (pc := 60) 5 S dX10_meets_60 rfl ?_
    refine g_imul (pc := 62) S dX10_meets_62 ?_
    refine g_iconst (pc := 63) (v := (1 : Int32)) S dX10_meets_63 (by decide) ?_
    refine g_iadd (pc := 64) S dX10_meets_64 ?_
    refine g_iald (pc := 65) S dX10_meets_65 (kf_10_2 k0) hyp (fun x6 hyp => ?_)
    refine g_istore (pc := 66) (lv' := [(6, .int x6), (5, .int v5_5), (0, .ref (ad K c0)), (1, .int a1), (2, .int a2), (3, .int a3), (4, .int a4)]) S dX10_meets_66 (by decide) rfl ?_
    refine g_iload (pc := 68) 0 S dX10_meets_68 rfl ?_
    refine g_if_ne (pc := 70) (tgt := 86) S dX10_meets_70 (by decide) hyp (fun hyp => ?_) (fun hyp => ?_)
    · refine g_iload (pc := 73) 1 S dX10_meets_73 rfl ?_
      refine g_if_gt (pc := 75) (tgt := 82) S dX10_meets_75 (by decide) hyp (fun hyp => ?_) (fun hyp => ?_)
      · refine g_iconst (pc := 82) (v := (0 : Int32)) S dX10_meets_82 (by decide) ?_
        refine g_goto (pc := 83) (tgt := 153) S dX10_meets_83 (by decide) ?_
        exact g_sub [2, 3, 4, 5, 6] rfl (o_X10_meets_b153 S k0 a1 a2 a3 a4 (0 : Int32) h hyp hin hex0 hret)
      · refine g_iconst (pc := 78) (v := (1 : Int32)) S dX10_meets_78 (by decide) ?_
        refine g_goto (pc := 79) (tgt := 153) S dX10_meets_79 (by decide) ?_
        exact g_sub [2, 3, 4, 5, 6] rfl (o_X10_meets_b153 S k0 a1 a2 a3 a4 (1 : Int32) h hyp hin hex0 hret)
    · refine g_iload (pc := 86) 0 S dX10_meets_86 rfl ?_
      refine g_iconst (pc := 88) (v := (1 : Int32)) S dX10_meets_88 (by decide) ?_
      refine g_icmp_ne (pc := 89) (tgt := 105) S dX10_meets_89 (by decide) hyp (fun hyp => ?_) (fun hyp => ?_)
      · refine g_iload (pc := 92) 1 S dX10_meets_92 rfl ?_
        refine g_if_ge (pc := 94) (tgt := 101) S dX10_meets_94 (by decide) hyp (fun hyp => ?_) (fun hyp => ?_)
        · refine g_iconst (pc := 97) (v := (1 : Int32)) S dX10_meets_97 (by decide) ?_
          refine g_goto (pc := 98) (tgt := 153) S dX10_meets_98 (by decide) ?_
          exact g_sub [2, 3, 4, 5, 6] rfl (o_X10_meets_b153 S k0 a1 a2 a3 a4 (1 : Int32) h hyp hin hex0 hret)
        · refine g_iconst (pc := 101) (v := (0 : Int32)) S dX10_meets_101 (by decide) ?_
          refine g_goto (pc := 102) (tgt := 153) S dX10_meets_102 (by decide) ?_
          exact g_sub [2, 3, 4, 5, 6] rfl (o_X10_meets_b153 S k0 a1 a2 a3 a4 (0 : Int32) h hyp hin hex0 hret)
      · refine g_iload (pc := 105) 0 S dX10_meets_105 rfl ?_
        refine g_iconst (pc := 107) (v := (2 : Int32)) S dX10_meets_107 (by decide) ?_
        refine g_icmp_ne (pc := 108) (tgt := 124) S dX10_meets_108 (by decide) hyp (fun hyp => ?_) (fun hyp => ?_)
        · refine g_iload (pc := 111) 1 S dX10_meets_111 rfl ?_
          refine g_if_lt (pc := 113) (tgt := 120) S dX10_meets_113 (by decide) hyp (fun hyp => ?_) (fun hyp => ?_)
          · refine g_iconst (pc := 120) (v := (0 : Int32)) S dX10_meets_120 (by decide) ?_
            refine g_goto (pc := 121) (tgt := 153) S dX10_meets_121 (by decide) ?_
            exact g_sub [2, 3, 4, 5, 6] rfl (o_X10_meets_b153 S k0 a1 a2 a3 a4 (0 : Int32) h hyp hin hex0 hret)
          · refine g_iconst (pc := 116) (v := (1 : Int32)) S dX10_meets_116 (by decide) ?_
            refine g_goto (pc := 117) (tgt := 153) S dX10_meets_117 (by decide) ?_
            exact g_sub [2, 3, 4, 5, 6] rfl (o_X10_meets_b153 S k0 a1 a2 a3 a4 (1 : Int32) h hyp hin hex0 hret)
        · refine g_iload (pc := 124) 0 S dX10_meets_124 rfl ?_
          refine g_iconst (pc := 126) (v := (3 : Int32)) S dX10_meets_126 (by decide) ?_
          refine g_icmp_ne (pc := 127) (tgt := 143) S dX10_meets_127 (by decide) hyp (fun hyp => ?_) (fun hyp => ?_)
          · refine g_iload (pc := 130) 1 S dX10_meets_130 rfl ?_
            refine g_if_le (pc := 132) (tgt := 139) S dX10_meets_132 (by decide) hyp (fun hyp => ?_) (fun hyp => ?_)
            · refine g_iconst (pc := 135) (v := (1 : Int32)) S dX10_meets_135 (by decide) ?_
              refine g_goto (pc := 136) (tgt := 153) S dX10_meets_136 (by decide) ?_
              exact g_sub [2, 3, 4, 5, 6] rfl (o_X10_meets_b153 S k0 a1 a2 a3 a4 (1 : Int32) h hyp hin hex0 hret)
            · refine g_iconst (pc := 139) (v := (0 : Int32)) S dX10_meets_139 (by decide) ?_
              refine g_goto (pc := 140) (tgt := 153) S dX10_meets_140 (by decide) ?_
              exact g_sub [2, 3, 4, 5, 6] rfl (o_X10_meets_b153 S k0 a1 a2 a3 a4 (0 : Int32) h hyp hin hex0 hret)
          · refine g_iload (pc := 143) 1 S dX10_meets_143 rfl ?_
            refine g_if_ne (pc := 145) (tgt := 152) S dX10_meets_145 (by decide) hyp (fun hyp => ?_) (fun hyp => ?_)
            · refine g_iconst (pc := 148) (v := (1 : Int32)) S dX10_meets_148 (by decide) ?_
              refine g_goto (pc := 149) (tgt := 153) S dX10_meets_149 (by decide) ?_
              exact g_sub [2, 3, 4, 5, 6] rfl (o_X10_meets_b153 S k0 a1 a2 a3 a4 (1 : Int32) h hyp hin hex0 hret)
            · refine g_iconst (pc := 152) (v := (0 : Int32)) S dX10_meets_152 (by decide) ?_
              exact g_sub [2, 3, 4, 5, 6] rfl (o_X10_meets_b153 S k0 a1 a2 a3 a4 (0 : Int32) h hyp hin hex0 hret)
  · have hyp := Option.some.inj hyp
    subst hyp
    exact g_sub [] rfl (hex0 () rfl)
set_option maxRecDepth 100000 in
set_option maxHeartbeats 4000000 in
theorem o_X10_meets {K : gK} (S : Cx K RX10 cX10_meets 8 1 26) {c0 : Nat} (k0 : kd c0 (10 + 10, 0)) (a1 : Int32) (a2 : Int32) (a3 : Int32) (h : Hp) {o : Int32} (hyp : s_X10_meets c0 a1 a2 a3 h = some o) (F : Rt K (some .boolean) (some (.int o)) h) : Go K 0 [(0, .ref (ad K c0)), (1, .int a1), (2, .int a2), (3, .int a3)] [] h := by
  unfold s_X10_meets at hyp
  refine g_iconst (pc := 0) (v := (0 : Int32)) S dX10_meets_0 (by decide) ?_
  refine g_istore (pc := 1) (lv' := [(4, .int (0 : Int32)), (0, .ref (ad K c0)), (1, .int a1), (2, .int a2), (3, .int a3)]) S dX10_meets_1 (by decide) rfl ?_
  refine g_bind hyp (fun e8 he8 hyp => ?_)
  refine g_sub [1, 2, 3, 4, 0] rfl (g_loop (f := fun s : Int32 => s_X10_meets_l3 c0 a1 a2 a3 s h) (ρ := (Unit) ⊕ (Int32)) (Hd := fun s : Int32 => Go K 3 [(0, .ref (ad K c0)), (1, .int a1), (2, .int a2), (3, .int a3), (4, .int s)] [] h) (Ex := fun e8 => (∀ t, e8 = .inl t → Go K 168 [] [] h) ∧ (∀ t, e8 = .inr t → Rt K (some .boolean) (some (.int t)) h)) (fun s o h1 h2 h3 => o_X10_meets_l3 S k0 a1 a2 a3 s h h1 h2 (fun t q => (h3 _ q).1 t rfl) (fun t q => (h3 _ q).2 t rfl)) FUEL _ e8 he8 ?_)
  refine ⟨?_, ?_⟩
  · intro t9 q
    subst q
    try dsimp only [Sum.elim] at hyp
    refine g_iconst (pc := 168) (v := (1 : Int32)) S dX10_meets_168 (by decide) ?_
    have hyp := Option.some.inj hyp
    subst hyp
    exact g_zret (pc := 169) S F dX10_meets_169 (Or.inr rfl)
  · intro t10 q
    subst q
    try dsimp only [Sum.elim] at hyp
    have hyp := Option.some.inj hyp
    subst hyp
    exact F
theorem m_X10_meets {l : Launch} {D : va_G} {cT : Nat → ClassId} {aD : Nat → Nat} {c0 : Nat} (k0 : kd c0 (10 + 10, 0)) (a1 : Int32) (a2 : Int32) (a3 : Int32) (h : Hp) {o : Int32} (hyp : s_X10_meets c0 a1 a2 a3 h = some o) : Ok l D cT aD yX10_meets cX10_meets 8 (some .boolean) 1 26 [.ref (aD c0), .int a1, .int a2, .int a3] h (some (.int o)) h :=
  Ok.of (by decide +kernel) rfl (Nat.le_of_ble_eq_true rfl) (fun K e1 e2 e3 e4 S F => by subst e1; exact o_X10_meets S k0 a1 a2 a3 h hyp F)
-- BoundProofsModel edge (Z)I
noncomputable def s_X10_edge  (a0 : Int32) (h : Hp) : Option (Int32) :=
  if a0 = 0 then (some (0 : Int32))
  else (some (4 : Int32))
set_option maxRecDepth 100000 in
set_option maxHeartbeats 4000000 in
theorem o_X10_edge {K : gK} (S : Cx K RX10 cX10_edge 1 0 0)  (a0 : Int32) (h : Hp) {o : Int32} (hyp : s_X10_edge  a0 h = some o) (F : Rt K (some .int) (some (.int o)) h) : Go K 0 [(0, .int a0)] [] h := by
  unfold s_X10_edge at hyp
  refine g_iload_n (pc := 0) 0 S dX10_edge_0 rfl ?_
  refine g_if_eq (pc := 1) (tgt := 8) S dX10_edge_1 (by decide) hyp (fun hyp => ?_) (fun hyp => ?_)
  · refine g_iconst (pc := 8) (v := (0 : Int32)) S dX10_edge_8 (by decide) ?_
    have hyp := Option.some.inj hyp
    subst hyp
    exact g_iret (pc := 9) S F dX10_edge_9
  · refine g_iconst (pc := 4) (v := (4 : Int32)) S dX10_edge_4 (by decide) ?_
    refine g_goto (pc := 5) (tgt := 9) S dX10_edge_5 (by decide) ?_
    have hyp := Option.some.inj hyp
    subst hyp
    exact g_iret (pc := 9) S F dX10_edge_9
theorem m_X10_edge {l : Launch} {D : va_G} {cT : Nat → ClassId} {aD : Nat → Nat}  (a0 : Int32) (h : Hp) {o : Int32} (hyp : s_X10_edge  a0 h = some o) : Ok l D cT aD yX10_edge cX10_edge 1 (some .int) 0 0 [.int a0] h (some (.int o)) h :=
  Ok.of (by decide +kernel) rfl (Nat.le_of_ble_eq_true rfl) (fun K e1 e2 e3 e4 S F => by subst e1; exact o_X10_edge S  a0 h hyp F)
-- BoundProofsModel wholeAt (I)I
noncomputable def s_X10_wholeAt_b110 (c0 : Nat) (a1 : Int32) (a2 : Int32) (a3 : Int32) (a4 : Int32) (a5 : Int32) (a6 : Int32) (a7 : Int32) (h : Hp) : Option ((Int32 × Int32) ⊕ ((Int32) ⊕ (Int32))) :=
  lt (a7 + (1 : Int32)) fun v7_6 =>
  some (.inl (a4, v7_6))
noncomputable def s_X10_wholeAt_l61 (c0 : Nat) (a1 : Int32) (a2 : Int32) (a3 : Int32) (a4 : Int32) (a5 : Int32) (a6 : Int32) (a7 : Int32) (h : Hp) : Option ((Int32 × Int32) ⊕ ((Int32) ⊕ (Int32))) :=
  if a3 < a7 then (some (.inr (.inl a4)))
  else ((s_X10_meets c0 a5 a6 a7 h).bind fun y5 =>
  if y5 = 0 then (s_X10_wholeAt_b110 c0 a1 a2 a3 a4 a5 a6 a7 h)
  else (if a4 = a1 then (some (.inr (.inr (((((81 : Int32) * (a5 + (4 : Int32))) + ((9 : Int32) * (a6 + (4 : Int32)))) + a7) + (4 : Int32)))))
  else (lt (a4 + (1 : Int32)) fun v4_7 =>
  s_X10_wholeAt_b110 c0 a1 a2 a3 v4_7 a5 a6 a7 h)))
noncomputable def s_X10_wholeAt_l51 (c0 : Nat) (a1 : Int32) (a2 : Int32) (a3 : Int32) (a4 : Int32) (a5 : Int32) (a6 : Int32) (h : Hp) : Option ((Int32 × Int32) ⊕ ((Int32) ⊕ (Int32))) :=
  if a2 < a6 then (some (.inr (.inl a4)))
  else (lt (-a3) fun v7_4 =>
  (iter (fun s : Int32 × Int32 => s_X10_wholeAt_l61 c0 a1 a2 a3 s.1 a5 a6 s.2 h) FUEL (a4, v7_4)).bind (Sum.elim (fun t9 => lt (a6 + (1 : Int32)) fun v6_10 =>
  some (.inl (t9, v6_10)))
  (fun t11 => some (.inr (.inr t11)))))
noncomputable def s_X10_wholeAt_l41 (c0 : Nat) (a1 : Int32) (a2 : Int32) (a3 : Int32) (a4 : Int32) (a5 : Int32) (h : Hp) : Option ((Int32 × Int32) ⊕ ((Int32) ⊕ (Int32))) :=
  if (4 : Int32) < a5 then (some (.inr (.inl a4)))
  else (lt (-a2) fun v6_3 =>
  (iter (fun s : Int32 × Int32 => s_X10_wholeAt_l51 c0 a1 a2 a3 s.1 a5 s.2 h) FUEL (a4, v6_3)).bind (Sum.elim (fun t13 => lt (a5 + (1 : Int32)) fun v5_14 =>
  some (.inl (t13, v5_14)))
  (fun t15 => some (.inr (.inr t15)))))
noncomputable def s_X10_wholeAt_b30 (c0 : Nat) (a1 : Int32) (a2 : Int32) (t0 : Int32) (h : Hp) : Option (Int32) :=
  (s_X10_edge  t0 h).bind fun y2 =>
  (iter (fun s : Int32 × Int32 => s_X10_wholeAt_l41 c0 a1 a2 y2 s.1 s.2 h) FUEL ((0 : Int32), (-4 : Int32))).bind (Sum.elim (fun t17 => some ((-t17) - (1 : Int32)))
  (fun t18 => some t18))
noncomputable def s_X10_wholeAt_b13 (c0 : Nat) (a1 : Int32) (t0 : Int32) (h : Hp) : Option (Int32) :=
  (s_X10_edge  t0 h).bind fun y1 =>
  if (2 : Int32) < (h.1 c0 0) then (s_X10_wholeAt_b30 c0 a1 y1 (1 : Int32) h)
  else (s_X10_wholeAt_b30 c0 a1 y1 (0 : Int32) h)
noncomputable def s_X10_wholeAt (c0 : Nat) (a1 : Int32) (h : Hp) : Option (Int32) :=
  if (1 : Int32) < (h.1 c0 0) then (s_X10_wholeAt_b13 c0 a1 (1 : Int32) h)
  else (s_X10_wholeAt_b13 c0 a1 (0 : Int32) h)
set_option maxRecDepth 100000 in
set_option maxHeartbeats 4000000 in
theorem o_X10_wholeAt_b110 {K : gK} (S : Cx K RX10 cX10_wholeAt 8 2 57) {c0 : Nat} (k0 : kd c0 (10 + 10, 0)) (a1 : Int32) (a2 : Int32) (a3 : Int32) (a4 : Int32) (a5 : Int32) (a6 : Int32) (a7 : Int32) (h : Hp) {o : (Int32 × Int32) ⊕ ((Int32) ⊕ (Int32))} (hyp : s_X10_wholeAt_b110 c0 a1 a2 a3 a4 a5 a6 a7 h = some o) (hin : ∀ s', o = .inl s' → Go K 61 [(0, .ref (ad K c0)), (1, .int a1), (2, .int a2), (3, .int a3), (4, .int s'.1), (5, .int a5), (6, .int a6), (7, .int s'.2)] [] h) (hex0 : ∀ s', o = .inr (.inl s') → Go K 116 [(0, .ref (ad K c0)), (1, .int a1), (2, .int a2), (3, .int a3), (4, .int s'), (5, .int a5), (6, .int a6)] [] h) (hret : ∀ x', o = .inr (.inr x') → Rt K (some .int) (some (.int x')) h) : Go K 110 [(0, .ref (ad K c0)), (1, .int a1), (2, .int a2), (3, .int a3), (4, .int a4), (5, .int a5), (6, .int a6), (7, .int a7)] [] h := by
  unfold s_X10_wholeAt_b110 at hyp
  refine g_iinc (pc := 110) (v := (a7 + (1 : Int32))) (lv' := [(7, .int (a7 + (1 : Int32))), (0, .ref (ad K c0)), (1, .int a1), (2, .int a2), (3, .int a3), (4, .int a4), (5, .int a5), (6, .int a6)]) 7 S dX10_wholeAt_110 rfl (by rfl) (by decide) rfl ?_
  refine g_lti (C := fun v7_6 => Go K (110 + 3) [(7, .int v7_6), (0, .ref (ad K c0)), (1, .int a1), (2, .int a2), (3, .int a3), (4, .int a4), (5, .int a5), (6, .int a6)] [] h) hyp (fun v7_6 hyp => ?_)
  refine g_goto (pc := 113) (tgt := 61) S dX10_wholeAt_113 (by decide) ?_
  have hyp := Option.some.inj hyp
  subst hyp
  exact g_sub [1, 2, 3, 4, 5, 6, 7, 0] rfl (hin (a4, v7_6) rfl)
set_option maxRecDepth 100000 in
set_option maxHeartbeats 4000000 in
theorem o_X10_wholeAt_l61 {K : gK} (S : Cx K RX10 cX10_wholeAt 8 2 57) {c0 : Nat} (k0 : kd c0 (10 + 10, 0)) (a1 : Int32) (a2 : Int32) (a3 : Int32) (a4 : Int32) (a5 : Int32) (a6 : Int32) (a7 : Int32) (h : Hp) {o : (Int32 × Int32) ⊕ ((Int32) ⊕ (Int32))} (hyp : s_X10_wholeAt_l61 c0 a1 a2 a3 a4 a5 a6 a7 h = some o) (hin : ∀ s', o = .inl s' → Go K 61 [(0, .ref (ad K c0)), (1, .int a1), (2, .int a2), (3, .int a3), (4, .int s'.1), (5, .int a5), (6, .int a6), (7, .int s'.2)] [] h) (hex0 : ∀ s', o = .inr (.inl s') → Go K 116 [(0, .ref (ad K c0)), (1, .int a1), (2, .int a2), (3, .int a3), (4, .int s'), (5, .int a5), (6, .int a6)] [] h) (hret : ∀ x', o = .inr (.inr x') → Rt K (some .int) (some (.int x')) h) : Go K 61 [(0, .ref (ad K c0)), (1, .int a1), (2, .int a2), (3, .int a3), (4, .int a4), (5, .int a5), (6, .int a6), (7, .int a7)] [] h := by
  unfold s_X10_wholeAt_l61 at hyp
  refine g_iload (pc := 61) 7 S dX10_wholeAt_61 rfl ?_
  refine g_iload_n (pc := 63) 3 S dX10_wholeAt_63 rfl ?_
  refine g_icmp_gt (pc := 64) (tgt := 116) S dX10_wholeAt_64 (by decide) hyp (fun hyp => ?_) (fun hyp => ?_)
  · have hyp := Option.some.inj hyp
    subst hyp
    exact g_sub [0, 1, 2, 3, 4, 5, 6] rfl (hex0 a4 rfl)
  · refine g_aload_n (pc := 67) 0 S dX10_wholeAt_67 rfl ?_
    refine g_iload (pc := 68) 5 S dX10_wholeAt_68 rfl ?_
    refine g_iload (pc := 70) 6 S dX10_wholeAt_70 rfl ?_
    refine g_iload (pc := 72) 7 S dX10_wholeAt_72 rfl ?_
    refine g_bind hyp (fun y5 hy5 hyp => ?_)
    refine g_callV (pc := 74) (As := [.int a5, .int a6, .int a7]) (rest := []) S dX10_wholeAt_74 k0 rfl tw_1228 tw_1229 tw_77 mw_X10_meets (m_X10_meets k0 a5 a6 a7 h hy5) rfl rfl (Nat.le_of_ble_eq_true rfl) (Nat.le_of_ble_eq_true rfl) (Nat.le_of_ble_eq_true rfl) ?_
    refine g_if_eq (pc := 77) (tgt := 110) S dX10_wholeAt_77 (by decide) hyp (fun hyp => ?_) (fun hyp => ?_)
    · exact g_sub [0, 1, 2, 3, 4, 5, 6, 7] rfl (o_X10_wholeAt_b110 S k0 a1 a2 a3 a4 a5 a6 a7 h hyp hin hex0 hret)
    · refine g_iload (pc := 80) 4 S dX10_wholeAt_80 rfl ?_
      refine g_iload_n (pc := 82) 1 S dX10_wholeAt_82 rfl ?_
      refine g_icmp_ne (pc := 83) (tgt := 107) S dX10_wholeAt_83 (by decide) hyp (fun hyp => ?_) (fun hyp => ?_)
      · refine g_bipush (pc := 86) (v := (81 : Int32)) S dX10_wholeAt_86 (by decide) ?_
        refine g_iload (pc := 88) 5 S dX10_wholeAt_88 rfl ?_
        refine g_iconst (pc := 90) (v := (4 : Int32)) S dX10_wholeAt_90 (by decide) ?_
        refine g_iadd (pc := 91) S dX10_wholeAt_91 ?_
        refine g_imul (pc := 92) S dX10_wholeAt_92 ?_
        refine g_bipush (pc := 93) (v := (9 : Int32)) S dX10_wholeAt_93 (by decide) ?_
        refine g_iload (pc := 95) 6 S dX10_wholeAt_95 rfl ?_
        refine g_iconst (pc := 97) (v := (4 : Int32)) S dX10_wholeAt_97 (by decide) ?_
        refine g_iadd (pc := 98) S dX10_wholeAt_98 ?_
        refine g_imul (pc := 99) S dX10_wholeAt_99 ?_
        refine g_iadd (pc := 100) S dX10_wholeAt_100 ?_
        refine g_iload (pc := 101) 7 S dX10_wholeAt_101 rfl ?_
        refine g_iadd (pc := 103) S dX10_wholeAt_103 ?_
        refine g_iconst (pc := 104) (v := (4 : Int32)) S dX10_wholeAt_104 (by decide) ?_
        refine g_iadd (pc := 105) S dX10_wholeAt_105 ?_
        have hyp := Option.some.inj hyp
        subst hyp
        exact g_iret (pc := 106) S (hret (((((81 : Int32) * (a5 + (4 : Int32))) + ((9 : Int32) * (a6 + (4 : Int32)))) + a7) + (4 : Int32)) rfl) dX10_wholeAt_106
      · refine g_iinc (pc := 107) (v := (a4 + (1 : Int32))) (lv' := [(4, .int (a4 + (1 : Int32))), (0, .ref (ad K c0)), (1, .int a1), (2, .int a2), (3, .int a3), (5, .int a5), (6, .int a6), (7, .int a7)]) 4 S dX10_wholeAt_107 rfl (by rfl) (by decide) rfl ?_
        refine g_lti (C := fun v4_7 => Go K (107 + 3) [(4, .int v4_7), (0, .ref (ad K c0)), (1, .int a1), (2, .int a2), (3, .int a3), (5, .int a5), (6, .int a6), (7, .int a7)] [] h) hyp (fun v4_7 hyp => ?_)
        exact g_sub [1, 2, 3, 4, 0, 5, 6, 7] rfl (o_X10_wholeAt_b110 S k0 a1 a2 a3 v4_7 a5 a6 a7 h hyp hin hex0 hret)
set_option maxRecDepth 100000 in
set_option maxHeartbeats 4000000 in
theorem o_X10_wholeAt_l51 {K : gK} (S : Cx K RX10 cX10_wholeAt 8 2 57) {c0 : Nat} (k0 : kd c0 (10 + 10, 0)) (a1 : Int32) (a2 : Int32) (a3 : Int32) (a4 : Int32) (a5 : Int32) (a6 : Int32) (h : Hp) {o : (Int32 × Int32) ⊕ ((Int32) ⊕ (Int32))} (hyp : s_X10_wholeAt_l51 c0 a1 a2 a3 a4 a5 a6 h = some o) (hin : ∀ s', o = .inl s' → Go K 51 [(0, .ref (ad K c0)), (1, .int a1), (2, .int a2), (3, .int a3), (4, .int s'.1), (5, .int a5), (6, .int s'.2)] [] h) (hex0 : ∀ s', o = .inr (.inl s') → Go K 122 [(0, .ref (ad K c0)), (1, .int a1), (2, .int a2), (3, .int a3), (4, .int s'), (5, .int a5)] [] h) (hret : ∀ x', o = .inr (.inr x') → Rt K (some .int) (some (.int x')) h) : Go K 51 [(0, .ref (ad K c0)), (1, .int a1), (2, .int a2), (3, .int a3), (4, .int a4), (5, .int a5), (6, .int a6)] [] h := by
  unfold s_X10_wholeAt_l51 at hyp
  refine g_iload (pc := 51) 6 S dX10_wholeAt_51 rfl ?_
  refine g_iload_n (pc := 53) 2 S dX10_wholeAt_53 rfl ?_
  refine g_icmp_gt (pc := 54) (tgt := 122) S dX10_wholeAt_54 (by decide) hyp (fun hyp => ?_) (fun hyp => ?_)
  · have hyp := Option.some.inj hyp
    subst hyp
    exact g_sub [0, 1, 2, 3, 4, 5] rfl (hex0 a4 rfl)
  · refine g_iload_n (pc := 57) 3 S dX10_wholeAt_57 rfl ?_
    refine g_ineg (pc := 58) S dX10_wholeAt_58 ?_
    refine g_lti (C := fun v7_4 => Go K 59 [(0, .ref (ad K c0)), (1, .int a1), (2, .int a2), (3, .int a3), (4, .int a4), (5, .int a5), (6, .int a6)] [.int v7_4] h) hyp (fun v7_4 hyp => ?_)
    refine g_istore (pc := 59) (lv' := [(7, .int v7_4), (0, .ref (ad K c0)), (1, .int a1), (2, .int a2), (3, .int a3), (4, .int a4), (5, .int a5), (6, .int a6)]) S dX10_wholeAt_59 (by decide) rfl ?_
    refine g_bind hyp (fun e8 he8 hyp => ?_)
    refine g_sub [1, 2, 3, 4, 5, 6, 7, 0] rfl (g_loop (f := fun s : Int32 × Int32 => s_X10_wholeAt_l61 c0 a1 a2 a3 s.1 a5 a6 s.2 h) (ρ := (Int32) ⊕ (Int32)) (Hd := fun s : Int32 × Int32 => Go K 61 [(0, .ref (ad K c0)), (1, .int a1), (2, .int a2), (3, .int a3), (4, .int s.1), (5, .int a5), (6, .int a6), (7, .int s.2)] [] h) (Ex := fun e8 => (∀ t, e8 = .inl t → Go K 116 [(0, .ref (ad K c0)), (1, .int a1), (2, .int a2), (3, .int a3), (4, .int t), (5, .int a5), (6, .int a6)] [] h) ∧ (∀ t, e8 = .inr t → Rt K (some .int) (some (.int t)) h)) (fun s o h1 h2 h3 => o_X10_wholeAt_l61 S k0 a1 a2 a3 s.1 a5 a6 s.2 h h1 h2 (fun t q => (h3 _ q).1 t rfl) (fun t q => (h3 _ q).2 t rfl)) FUEL _ e8 he8 ?_)
    refine ⟨?_, ?_⟩
    · intro t9 q
      subst q
      try dsimp only [Sum.elim] at hyp
      refine g_iinc (pc := 116) (v := (a6 + (1 : Int32))) (lv' := [(6, .int (a6 + (1 : Int32))), (0, .ref (ad K c0)), (1, .int a1), (2, .int a2), (3, .int a3), (4, .int t9), (5, .int a5)]) 6 S dX10_wholeAt_116 rfl (by rfl) (by decide) rfl ?_
      refine g_lti (C := fun v6_10 => Go K (116 + 3) [(6, .int v6_10), (0, .ref (ad K c0)), (1, .int a1), (2, .int a2), (3, .int a3), (4, .int t9), (5, .int a5)] [] h) hyp (fun v6_10 hyp => ?_)
      refine g_goto (pc := 119) (tgt := 51) S dX10_wholeAt_119 (by decide) ?_
      have hyp := Option.some.inj hyp
      subst hyp
      exact g_sub [1, 2, 3, 4, 5, 6, 0] rfl (hin (t9, v6_10) rfl)
    · intro t11 q
      subst q
      try dsimp only [Sum.elim] at hyp
      have hyp := Option.some.inj hyp
      subst hyp
      exact hret t11 rfl
set_option maxRecDepth 100000 in
set_option maxHeartbeats 4000000 in
theorem o_X10_wholeAt_l41 {K : gK} (S : Cx K RX10 cX10_wholeAt 8 2 57) {c0 : Nat} (k0 : kd c0 (10 + 10, 0)) (a1 : Int32) (a2 : Int32) (a3 : Int32) (a4 : Int32) (a5 : Int32) (h : Hp) {o : (Int32 × Int32) ⊕ ((Int32) ⊕ (Int32))} (hyp : s_X10_wholeAt_l41 c0 a1 a2 a3 a4 a5 h = some o) (hin : ∀ s', o = .inl s' → Go K 41 [(0, .ref (ad K c0)), (1, .int a1), (2, .int a2), (3, .int a3), (4, .int s'.1), (5, .int s'.2)] [] h) (hex0 : ∀ s', o = .inr (.inl s') → Go K 128 [(4, .int s')] [] h) (hret : ∀ x', o = .inr (.inr x') → Rt K (some .int) (some (.int x')) h) : Go K 41 [(0, .ref (ad K c0)), (1, .int a1), (2, .int a2), (3, .int a3), (4, .int a4), (5, .int a5)] [] h := by
  unfold s_X10_wholeAt_l41 at hyp
  refine g_iload (pc := 41) 5 S dX10_wholeAt_41 rfl ?_
  refine g_iconst (pc := 43) (v := (4 : Int32)) S dX10_wholeAt_43 (by decide) ?_
  refine g_icmp_gt (pc := 44) (tgt := 128) S dX10_wholeAt_44 (by decide) hyp (fun hyp => ?_) (fun hyp => ?_)
  · have hyp := Option.some.inj hyp
    subst hyp
    exact g_sub [4] rfl (hex0 a4 rfl)
  · refine g_iload_n (pc := 47) 2 S dX10_wholeAt_47 rfl ?_
    refine g_ineg (pc := 48) S dX10_wholeAt_48 ?_
    refine g_lti (C := fun v6_3 => Go K 49 [(0, .ref (ad K c0)), (1, .int a1), (2, .int a2), (3, .int a3), (4, .int a4), (5, .int a5)] [.int v6_3] h) hyp (fun v6_3 hyp => ?_)
    refine g_istore (pc := 49) (lv' := [(6, .int v6_3), (0, .ref (ad K c0)), (1, .int a1), (2, .int a2), (3, .int a3), (4, .int a4), (5, .int a5)]) S dX10_wholeAt_49 (by decide) rfl ?_
    refine g_bind hyp (fun e12 he12 hyp => ?_)
    refine g_sub [1, 2, 3, 4, 5, 6, 0] rfl (g_loop (f := fun s : Int32 × Int32 => s_X10_wholeAt_l51 c0 a1 a2 a3 s.1 a5 s.2 h) (ρ := (Int32) ⊕ (Int32)) (Hd := fun s : Int32 × Int32 => Go K 51 [(0, .ref (ad K c0)), (1, .int a1), (2, .int a2), (3, .int a3), (4, .int s.1), (5, .int a5), (6, .int s.2)] [] h) (Ex := fun e12 => (∀ t, e12 = .inl t → Go K 122 [(0, .ref (ad K c0)), (1, .int a1), (2, .int a2), (3, .int a3), (4, .int t), (5, .int a5)] [] h) ∧ (∀ t, e12 = .inr t → Rt K (some .int) (some (.int t)) h)) (fun s o h1 h2 h3 => o_X10_wholeAt_l51 S k0 a1 a2 a3 s.1 a5 s.2 h h1 h2 (fun t q => (h3 _ q).1 t rfl) (fun t q => (h3 _ q).2 t rfl)) FUEL _ e12 he12 ?_)
    refine ⟨?_, ?_⟩
    · intro t13 q
      subst q
      try dsimp only [Sum.elim] at hyp
      refine g_iinc (pc := 122) (v := (a5 + (1 : Int32))) (lv' := [(5, .int (a5 + (1 : Int32))), (0, .ref (ad K c0)), (1, .int a1), (2, .int a2), (3, .int a3), (4, .int t13)]) 5 S dX10_wholeAt_122 rfl (by rfl) (by decide) rfl ?_
      refine g_lti (C := fun v5_14 => Go K (122 + 3) [(5, .int v5_14), (0, .ref (ad K c0)), (1, .int a1), (2, .int a2), (3, .int a3), (4, .int t13)] [] h) hyp (fun v5_14 hyp => ?_)
      refine g_goto (pc := 125) (tgt := 41) S dX10_wholeAt_125 (by decide) ?_
      have hyp := Option.some.inj hyp
      subst hyp
      exact g_sub [1, 2, 3, 4, 5, 0] rfl (hin (t13, v5_14) rfl)
    · intro t15 q
      subst q
      try dsimp only [Sum.elim] at hyp
      have hyp := Option.some.inj hyp
      subst hyp
      exact hret t15 rfl
set_option maxRecDepth 100000 in
set_option maxHeartbeats 4000000 in
theorem o_X10_wholeAt_b30 {K : gK} (S : Cx K RX10 cX10_wholeAt 8 2 57) {c0 : Nat} (k0 : kd c0 (10 + 10, 0)) (a1 : Int32) (a2 : Int32) (t0 : Int32) (h : Hp) {o : Int32} (hyp : s_X10_wholeAt_b30 c0 a1 a2 t0 h = some o) (F : Rt K (some .int) (some (.int o)) h) : Go K 30 [(0, .ref (ad K c0)), (1, .int a1), (2, .int a2)] [.int t0] h := by
  unfold s_X10_wholeAt_b30 at hyp
  refine g_bind hyp (fun y2 hy2 hyp => ?_)
  refine g_callS (pc := 30) (As := [.int t0]) (rest := []) S dX10_wholeAt_30 tw_1225 tw_1226 mw_X10_edge (m_X10_edge  t0 h hy2) rfl rfl (Nat.le_of_ble_eq_true rfl) (Nat.le_of_ble_eq_true rfl) (Nat.le_of_ble_eq_true rfl) ?_
  refine g_istore_n (pc := 33) (lv' := [(3, .int y2), (0, .ref (ad K c0)), (1, .int a1), (2, .int a2)]) S dX10_wholeAt_33 rfl (by decide) rfl ?_
  refine g_iconst (pc := 34) (v := (0 : Int32)) S dX10_wholeAt_34 (by decide) ?_
  refine g_istore (pc := 35) (lv' := [(4, .int (0 : Int32)), (3, .int y2), (0, .ref (ad K c0)), (1, .int a1), (2, .int a2)]) S dX10_wholeAt_35 (by decide) rfl ?_
  refine g_bipush (pc := 37) (v := (-4 : Int32)) S dX10_wholeAt_37 (by decide) ?_
  refine g_istore (pc := 39) (lv' := [(5, .int (-4 : Int32)), (4, .int (0 : Int32)), (3, .int y2), (0, .ref (ad K c0)), (1, .int a1), (2, .int a2)]) S dX10_wholeAt_39 (by decide) rfl ?_
  refine g_bind hyp (fun e16 he16 hyp => ?_)
  refine g_sub [3, 4, 5, 2, 1, 0] rfl (g_loop (f := fun s : Int32 × Int32 => s_X10_wholeAt_l41 c0 a1 a2 y2 s.1 s.2 h) (ρ := (Int32) ⊕ (Int32)) (Hd := fun s : Int32 × Int32 => Go K 41 [(0, .ref (ad K c0)), (1, .int a1), (2, .int a2), (3, .int y2), (4, .int s.1), (5, .int s.2)] [] h) (Ex := fun e16 => (∀ t, e16 = .inl t → Go K 128 [(4, .int t)] [] h) ∧ (∀ t, e16 = .inr t → Rt K (some .int) (some (.int t)) h)) (fun s o h1 h2 h3 => o_X10_wholeAt_l41 S k0 a1 a2 y2 s.1 s.2 h h1 h2 (fun t q => (h3 _ q).1 t rfl) (fun t q => (h3 _ q).2 t rfl)) FUEL _ e16 he16 ?_)
  refine ⟨?_, ?_⟩
  · intro t17 q
    subst q
    try dsimp only [Sum.elim] at hyp
    refine g_iload (pc := 128) 0 S dX10_wholeAt_128 rfl ?_
    refine g_ineg (pc := 130) S dX10_wholeAt_130 ?_
    refine g_iconst (pc := 131) (v := (1 : Int32)) S dX10_wholeAt_131 (by decide) ?_
    refine g_isub (pc := 132) S dX10_wholeAt_132 ?_
    have hyp := Option.some.inj hyp
    subst hyp
    exact g_iret (pc := 133) S F dX10_wholeAt_133
  · intro t18 q
    subst q
    try dsimp only [Sum.elim] at hyp
    have hyp := Option.some.inj hyp
    subst hyp
    exact F
set_option maxRecDepth 100000 in
set_option maxHeartbeats 4000000 in
theorem o_X10_wholeAt_b13 {K : gK} (S : Cx K RX10 cX10_wholeAt 8 2 57) {c0 : Nat} (k0 : kd c0 (10 + 10, 0)) (a1 : Int32) (t0 : Int32) (h : Hp) {o : Int32} (hyp : s_X10_wholeAt_b13 c0 a1 t0 h = some o) (F : Rt K (some .int) (some (.int o)) h) : Go K 13 [(0, .ref (ad K c0)), (1, .int a1)] [.int t0] h := by
  unfold s_X10_wholeAt_b13 at hyp
  refine g_bind hyp (fun y1 hy1 hyp => ?_)
  refine g_callS (pc := 13) (As := [.int t0]) (rest := []) S dX10_wholeAt_13 tw_1225 tw_1226 mw_X10_edge (m_X10_edge  t0 h hy1) rfl rfl (Nat.le_of_ble_eq_true rfl) (Nat.le_of_ble_eq_true rfl) (Nat.le_of_ble_eq_true rfl) ?_
  refine g_istore_n (pc := 16) (lv' := [(2, .int y1), (0, .ref (ad K c0)), (1, .int a1)]) S dX10_wholeAt_16 rfl (by decide) rfl ?_
  refine g_aload_n (pc := 17) 1 S dX10_wholeAt_17 rfl ?_
  refine g_getI (pc := 18) S dX10_wholeAt_18 fl_X10_7 k0 ?_
  refine g_iconst (pc := 21) (v := (2 : Int32)) S dX10_wholeAt_21 (by decide) ?_
  refine g_icmp_le (pc := 22) (tgt := 29) S dX10_wholeAt_22 (by decide) hyp (fun hyp => ?_) (fun hyp => ?_)
  · refine g_iconst (pc := 25) (v := (1 : Int32)) S dX10_wholeAt_25 (by decide) ?_
    refine g_goto (pc := 26) (tgt := 30) S dX10_wholeAt_26 (by decide) ?_
    exact g_sub [1, 2, 0] rfl (o_X10_wholeAt_b30 S k0 a1 y1 (1 : Int32) h hyp F)
  · refine g_iconst (pc := 29) (v := (0 : Int32)) S dX10_wholeAt_29 (by decide) ?_
    exact g_sub [1, 2, 0] rfl (o_X10_wholeAt_b30 S k0 a1 y1 (0 : Int32) h hyp F)
set_option maxRecDepth 100000 in
set_option maxHeartbeats 4000000 in
theorem o_X10_wholeAt {K : gK} (S : Cx K RX10 cX10_wholeAt 8 2 57) {c0 : Nat} (k0 : kd c0 (10 + 10, 0)) (a1 : Int32) (h : Hp) {o : Int32} (hyp : s_X10_wholeAt c0 a1 h = some o) (F : Rt K (some .int) (some (.int o)) h) : Go K 0 [(0, .ref (ad K c0)), (1, .int a1)] [] h := by
  unfold s_X10_wholeAt at hyp
  refine g_aload_n (pc := 0) 0 S dX10_wholeAt_0 rfl ?_
  refine g_getI (pc := 1) S dX10_wholeAt_1 fl_X10_7 k0 ?_
  refine g_iconst (pc := 4) (v := (1 : Int32)) S dX10_wholeAt_4 (by decide) ?_
  refine g_icmp_le (pc := 5) (tgt := 12) S dX10_wholeAt_5 (by decide) hyp (fun hyp => ?_) (fun hyp => ?_)
  · refine g_iconst (pc := 8) (v := (1 : Int32)) S dX10_wholeAt_8 (by decide) ?_
    refine g_goto (pc := 9) (tgt := 13) S dX10_wholeAt_9 (by decide) ?_
    exact g_sub [0, 1] rfl (o_X10_wholeAt_b13 S k0 a1 (1 : Int32) h hyp F)
  · refine g_iconst (pc := 12) (v := (0 : Int32)) S dX10_wholeAt_12 (by decide) ?_
    exact g_sub [0, 1] rfl (o_X10_wholeAt_b13 S k0 a1 (0 : Int32) h hyp F)
theorem m_X10_wholeAt {l : Launch} {D : va_G} {cT : Nat → ClassId} {aD : Nat → Nat} {c0 : Nat} (k0 : kd c0 (10 + 10, 0)) (a1 : Int32) (h : Hp) {o : Int32} (hyp : s_X10_wholeAt c0 a1 h = some o) : Ok l D cT aD yX10_wholeAt cX10_wholeAt 8 (some .int) 2 57 [.ref (aD c0), .int a1] h (some (.int o)) h :=
  Ok.of (by decide +kernel) rfl (Nat.le_of_ble_eq_true rfl) (fun K e1 e2 e3 e4 S F => by subst e1; exact o_X10_wholeAt S k0 a1 h hyp F)
-- BoundProofsModel whole (II)I
noncomputable def s_X10_whole_b58 (c0 : Nat) (t0 : Int32) (h : Hp) : Option (Int32 × Hp) :=
  lt (sJ h c0 36 ((t0 - (4 : Int32))).toInt64) fun h3 =>
  some ((1 : Int32), h3)
noncomputable def s_X10_whole (c0 : Nat) (a1 : Int32) (a2 : Int32) (h : Hp) : Option (Int32 × Hp) :=
  if a1 < 0 then (some ((-1 : Int32), h))
  else ((s_X10_isVariable c0 a2 h).bind fun y1 =>
  if y1 = 0 then (some ((-1 : Int32), h))
  else ((s_X10_wholeAt c0 a1 h).bind fun y2 =>
  if y2 < 0 then (some ((-9 : Int32), h))
  else (if a2 = 0 then (nzI (81 : Int32) <|
  s_X10_whole_b58 c0 (y2 / (81 : Int32)) h)
  else (if a2 = (1 : Int32) then (nzI (9 : Int32) <|
  nzI (9 : Int32) <|
  s_X10_whole_b58 c0 ((y2 / (9 : Int32)) - (y2 / (9 : Int32)) / (9 : Int32) * (9 : Int32)) h)
  else (nzI (9 : Int32) <|
  s_X10_whole_b58 c0 (y2 - y2 / (9 : Int32) * (9 : Int32)) h)))))
set_option maxRecDepth 100000 in
set_option maxHeartbeats 4000000 in
theorem o_X10_whole_b58 {K : gK} (S : Cx K RX10 cX10_whole 4 3 88) {c0 : Nat} (k0 : kd c0 (10 + 10, 0)) (t0 : Int32) (h : Hp) {o : Int32 × Hp} (hyp : s_X10_whole_b58 c0 t0 h = some o) (F : Rt K (some .int) (some (.int o.1)) o.2) : Go K 58 [] [.int t0, .ref (ad K c0)] h := by
  unfold s_X10_whole_b58 at hyp
  refine g_iconst (pc := 58) (v := (4 : Int32)) S dX10_whole_58 (by decide) ?_
  refine g_isub (pc := 59) S dX10_whole_59 ?_
  refine g_i2l (pc := 60) S dX10_whole_60 ?_
  refine g_putJ (pc := 61) S dX10_whole_61 fl_X10_238 k0 hyp (fun h3 hyp => ?_)
  refine g_iconst (pc := 64) (v := (1 : Int32)) S dX10_whole_64 (by decide) ?_
  have hyp := Option.some.inj hyp
  subst hyp
  exact g_iret (pc := 65) S F dX10_whole_65
set_option maxRecDepth 100000 in
set_option maxHeartbeats 4000000 in
theorem o_X10_whole {K : gK} (S : Cx K RX10 cX10_whole 4 3 88) {c0 : Nat} (k0 : kd c0 (10 + 10, 0)) (a1 : Int32) (a2 : Int32) (h : Hp) {o : Int32 × Hp} (hyp : s_X10_whole c0 a1 a2 h = some o) (F : Rt K (some .int) (some (.int o.1)) o.2) : Go K 0 [(0, .ref (ad K c0)), (1, .int a1), (2, .int a2)] [] h := by
  unfold s_X10_whole at hyp
  refine g_iload_n (pc := 0) 1 S dX10_whole_0 rfl ?_
  refine g_if_lt (pc := 1) (tgt := 12) S dX10_whole_1 (by decide) hyp (fun hyp => ?_) (fun hyp => ?_)
  · refine g_iconst (pc := 12) (v := (-1 : Int32)) S dX10_whole_12 (by decide) ?_
    have hyp := Option.some.inj hyp
    subst hyp
    exact g_iret (pc := 13) S F dX10_whole_13
  · refine g_aload_n (pc := 4) 0 S dX10_whole_4 rfl ?_
    refine g_iload_n (pc := 5) 2 S dX10_whole_5 rfl ?_
    refine g_bind hyp (fun y1 hy1 hyp => ?_)
    refine g_callV (pc := 6) (As := [.int a2]) (rest := []) S dX10_whole_6 k0 rfl tw_1017 tw_1018 tw_35 mw_X10_isVariable (m_X10_isVariable k0 a2 h hy1) rfl rfl (Nat.le_of_ble_eq_true rfl) (Nat.le_of_ble_eq_true rfl) (Nat.le_of_ble_eq_true rfl) ?_
    refine g_if_ne (pc := 9) (tgt := 14) S dX10_whole_9 (by decide) hyp (fun hyp => ?_) (fun hyp => ?_)
    · refine g_iconst (pc := 12) (v := (-1 : Int32)) S dX10_whole_12 (by decide) ?_
      have hyp := Option.some.inj hyp
      subst hyp
      exact g_iret (pc := 13) S F dX10_whole_13
    · refine g_aload_n (pc := 14) 0 S dX10_whole_14 rfl ?_
      refine g_iload_n (pc := 15) 1 S dX10_whole_15 rfl ?_
      refine g_bind hyp (fun y2 hy2 hyp => ?_)
      refine g_callV (pc := 16) (As := [.int a1]) (rest := []) S dX10_whole_16 k0 rfl tw_1222 tw_1223 tw_76 mw_X10_wholeAt (m_X10_wholeAt k0 a1 h hy2) rfl rfl (Nat.le_of_ble_eq_true rfl) (Nat.le_of_ble_eq_true rfl) (Nat.le_of_ble_eq_true rfl) ?_
      refine g_istore_n (pc := 19) (lv' := [(3, .int y2), (0, .ref (ad K c0)), (1, .int a1), (2, .int a2)]) S dX10_whole_19 rfl (by decide) rfl ?_
      refine g_iload_n (pc := 20) 0 S dX10_whole_20 rfl ?_
      refine g_if_ge (pc := 21) (tgt := 27) S dX10_whole_21 (by decide) hyp (fun hyp => ?_) (fun hyp => ?_)
      · refine g_bipush (pc := 24) (v := (-9 : Int32)) S dX10_whole_24 (by decide) ?_
        have hyp := Option.some.inj hyp
        subst hyp
        exact g_iret (pc := 26) S F dX10_whole_26
      · refine g_aload_n (pc := 27) 1 S dX10_whole_27 rfl ?_
        refine g_iload_n (pc := 28) 3 S dX10_whole_28 rfl ?_
        refine g_if_ne (pc := 29) (tgt := 39) S dX10_whole_29 (by decide) hyp (fun hyp => ?_) (fun hyp => ?_)
        · refine g_iload_n (pc := 32) 0 S dX10_whole_32 rfl ?_
          refine g_bipush (pc := 33) (v := (81 : Int32)) S dX10_whole_33 (by decide) ?_
          refine g_nzI hyp (fun hz hyp => ?_)
          refine g_idiv (pc := 35) S dX10_whole_35 hz ?_
          refine g_goto (pc := 36) (tgt := 58) S dX10_whole_36 (by decide) ?_
          exact g_sub [] rfl (o_X10_whole_b58 S k0 (y2 / (81 : Int32)) h hyp F)
        · refine g_iload_n (pc := 39) 3 S dX10_whole_39 rfl ?_
          refine g_iconst (pc := 40) (v := (1 : Int32)) S dX10_whole_40 (by decide) ?_
          refine g_icmp_ne (pc := 41) (tgt := 54) S dX10_whole_41 (by decide) hyp (fun hyp => ?_) (fun hyp => ?_)
          · refine g_iload_n (pc := 44) 0 S dX10_whole_44 rfl ?_
            refine g_bipush (pc := 45) (v := (9 : Int32)) S dX10_whole_45 (by decide) ?_
            refine g_nzI hyp (fun hz hyp => ?_)
            refine g_idiv (pc := 47) S dX10_whole_47 hz ?_
            refine g_bipush (pc := 48) (v := (9 : Int32)) S dX10_whole_48 (by decide) ?_
            refine g_nzI hyp (fun hz hyp => ?_)
            refine g_irem (pc := 50) S dX10_whole_50 hz ?_
            refine g_goto (pc := 51) (tgt := 58) S dX10_whole_51 (by decide) ?_
            exact g_sub [] rfl (o_X10_whole_b58 S k0 ((y2 / (9 : Int32)) - (y2 / (9 : Int32)) / (9 : Int32) * (9 : Int32)) h hyp F)
          · refine g_iload_n (pc := 54) 0 S dX10_whole_54 rfl ?_
            refine g_bipush (pc := 55) (v := (9 : Int32)) S dX10_whole_55 (by decide) ?_
            refine g_nzI hyp (fun hz hyp => ?_)
            refine g_irem (pc := 57) S dX10_whole_57 hz ?_
            exact g_sub [] rfl (o_X10_whole_b58 S k0 (y2 - y2 / (9 : Int32) * (9 : Int32)) h hyp F)
theorem m_X10_whole {l : Launch} {D : va_G} {cT : Nat → ClassId} {aD : Nat → Nat} {c0 : Nat} (k0 : kd c0 (10 + 10, 0)) (a1 : Int32) (a2 : Int32) (h : Hp) {o : Int32 × Hp} (hyp : s_X10_whole c0 a1 a2 h = some o) : Ok l D cT aD yX10_whole cX10_whole 4 (some .int) 3 88 [.ref (aD c0), .int a1, .int a2] h (some (.int o.1)) o.2 :=
  Ok.of (by decide +kernel) rfl (Nat.le_of_ble_eq_true rfl) (fun K e1 e2 e3 e4 S F => by subst e1; exact o_X10_whole S k0 a1 a2 h hyp F)
-- BoundProofsModel upper ()J
noncomputable def s_X10_upper (c0 : Nat)  (h : Hp) : Option (Int64) :=
  some (h.2 c0 34)
set_option maxRecDepth 100000 in
set_option maxHeartbeats 4000000 in
theorem o_X10_upper {K : gK} (S : Cx K RX10 cX10_upper 1 0 0) {c0 : Nat} (k0 : kd c0 (10 + 10, 0))  (h : Hp) {o : Int64} (hyp : s_X10_upper c0  h = some o) (F : Rt K (some .long) (some (.long o)) h) : Go K 0 [(0, .ref (ad K c0))] [] h := by
  unfold s_X10_upper at hyp
  refine g_aload_n (pc := 0) 0 S dX10_upper_0 rfl ?_
  refine g_getJ (pc := 1) S dX10_upper_1 fl_X10_241 k0 ?_
  have hyp := Option.some.inj hyp
  subst hyp
  exact g_lret (pc := 4) S F dX10_upper_4
theorem m_X10_upper {l : Launch} {D : va_G} {cT : Nat → ClassId} {aD : Nat → Nat} {c0 : Nat} (k0 : kd c0 (10 + 10, 0))  (h : Hp) {o : Int64} (hyp : s_X10_upper c0  h = some o) : Ok l D cT aD yX10_upper cX10_upper 1 (some .long) 0 0 [.ref (aD c0)] h (some (.long o)) h :=
  Ok.of (by decide +kernel) rfl (Nat.le_of_ble_eq_true rfl) (fun K e1 e2 e3 e4 S F => by subst e1; exact o_X10_upper S k0  h hyp F)
-- BoundProofsModel lower ()J
noncomputable def s_X10_lower (c0 : Nat)  (h : Hp) : Option (Int64) :=
  some (h.2 c0 35)
set_option maxRecDepth 100000 in
set_option maxHeartbeats 4000000 in
theorem o_X10_lower {K : gK} (S : Cx K RX10 cX10_lower 1 0 0) {c0 : Nat} (k0 : kd c0 (10 + 10, 0))  (h : Hp) {o : Int64} (hyp : s_X10_lower c0  h = some o) (F : Rt K (some .long) (some (.long o)) h) : Go K 0 [(0, .ref (ad K c0))] [] h := by
  unfold s_X10_lower at hyp
  refine g_aload_n (pc := 0) 0 S dX10_lower_0 rfl ?_
  refine g_getJ (pc := 1) S dX10_lower_1 fl_X10_69 k0 ?_
  have hyp := Option.some.inj hyp
  subst hyp
  exact g_lret (pc := 4) S F dX10_lower_4
theorem m_X10_lower {l : Launch} {D : va_G} {cT : Nat → ClassId} {aD : Nat → Nat} {c0 : Nat} (k0 : kd c0 (10 + 10, 0))  (h : Hp) {o : Int64} (hyp : s_X10_lower c0  h = some o) : Ok l D cT aD yX10_lower cX10_lower 1 (some .long) 0 0 [.ref (aD c0)] h (some (.long o)) h :=
  Ok.of (by decide +kernel) rfl (Nat.le_of_ble_eq_true rfl) (fun K e1 e2 e3 e4 S F => by subst e1; exact o_X10_lower S k0  h hyp F)
-- BoundProofsModel told ()J
noncomputable def s_X10_told (c0 : Nat)  (h : Hp) : Option (Int64) :=
  some (h.2 c0 36)
set_option maxRecDepth 100000 in
set_option maxHeartbeats 4000000 in
theorem o_X10_told {K : gK} (S : Cx K RX10 cX10_told 1 0 0) {c0 : Nat} (k0 : kd c0 (10 + 10, 0))  (h : Hp) {o : Int64} (hyp : s_X10_told c0  h = some o) (F : Rt K (some .long) (some (.long o)) h) : Go K 0 [(0, .ref (ad K c0))] [] h := by
  unfold s_X10_told at hyp
  refine g_aload_n (pc := 0) 0 S dX10_told_0 rfl ?_
  refine g_getJ (pc := 1) S dX10_told_1 fl_X10_238 k0 ?_
  have hyp := Option.some.inj hyp
  subst hyp
  exact g_lret (pc := 4) S F dX10_told_4
theorem m_X10_told {l : Launch} {D : va_G} {cT : Nat → ClassId} {aD : Nat → Nat} {c0 : Nat} (k0 : kd c0 (10 + 10, 0))  (h : Hp) {o : Int64} (hyp : s_X10_told c0  h = some o) : Ok l D cT aD yX10_told cX10_told 1 (some .long) 0 0 [.ref (aD c0)] h (some (.long o)) h :=
  Ok.of (by decide +kernel) rfl (Nat.le_of_ble_eq_true rfl) (fun K e1 e2 e3 e4 S F => by subst e1; exact o_X10_told S k0  h hyp F)
