-- BoundProofsModel against (I)I
def s_X10_against_l2 (c0 : Nat) (a1 : Int32) (a2 : Int32) (h : Hp) : Option ((Int32) ⊕ ((Unit) ⊕ (Int32))) :=
  if a2 < (3 : Int32) then (ldJ h (c0 + 22) 4 a2 fun x1 =>
  ldJ h (c0 + 21) 480 (a1 + (3 : Int32)) fun x2 =>
  ldJ h (c0 + 21) 480 (a1 + a2) fun x3 =>
  ldJ h (c0 + 22) 4 (3 : Int32) fun x4 =>
  lt ((x1 * x2) - (x3 * x4)) fun v3_5 =>
  if v3_5 = (0 : Int64) then (lt (a2 + (1 : Int32)) fun v2_6 =>
  some (.inl v2_6))
  else (if v3_5 < (0 : Int64) then (some (.inr (.inr (-1 : Int32))))
  else (some (.inr (.inr (1 : Int32))))))
  else (some (.inr (.inl ())))
def s_X10_against (c0 : Nat) (a1 : Int32) (h : Hp) : Option (Int32) :=
  (iter (fun s : Int32 => s_X10_against_l2 c0 a1 s h) FUEL (0 : Int32)).bind (Sum.elim (fun t8 => some (0 : Int32))
  (fun t9 => some t9))
set_option maxRecDepth 100000 in
set_option maxHeartbeats 4000000 in
theorem o_X10_against_l2 {K : gK} (S : Cx K RX10 cX10_against 5 0 0) {c0 : Nat} (k0 : kd c0 (10 + 10, 0)) (a1 : Int32) (a2 : Int32) (h : Hp) {o : (Int32) ⊕ ((Unit) ⊕ (Int32))} (hyp : s_X10_against_l2 c0 a1 a2 h = some o) (hin : ∀ s', o = .inl s' → Go K 2 [(0, .ref (ad K c0)), (1, .int a1), (2, .int s')] [] h) (hex0 : ∀ s', o = .inr (.inl s') → Go K 63 [] [] h) (hret : ∀ x', o = .inr (.inr x') → Rt K (some .int) (some (.int x')) h) : Go K 2 [(0, .ref (ad K c0)), (1, .int a1), (2, .int a2)] [] h := by
  unfold s_X10_against_l2 at hyp
  refine g_iload_n (pc := 2) 2 S dX10_against_2 rfl ?_
  refine g_iconst (pc := 3) (v := (3 : Int32)) S dX10_against_3 (by decide) ?_
  refine g_icmp_ge (pc := 4) (tgt := 63) S dX10_against_4 (by decide) hyp (fun hyp => ?_) (fun hyp => ?_)
  · refine g_aload_n (pc := 7) 0 S dX10_against_7 rfl ?_
    refine g_getR (pc := 8) S dX10_against_8 fl_X10_82 k0 ?_
    refine g_iload_n (pc := 11) 2 S dX10_against_11 rfl ?_
    refine g_lald (pc := 12) S dX10_against_12 (kf_10_22 k0) hyp (fun x1 hyp => ?_)
    refine g_aload_n (pc := 13) 0 S dX10_against_13 rfl ?_
    refine g_getR (pc := 14) S dX10_against_14 fl_X10_79 k0 ?_
    refine g_iload_n (pc := 17) 1 S dX10_against_17 rfl ?_
    refine g_iconst (pc := 18) (v := (3 : Int32)) S dX10_against_18 (by decide) ?_
    refine g_iadd (pc := 19) S dX10_against_19 ?_
    refine g_lald (pc := 20) S dX10_against_20 (kf_10_21 k0) hyp (fun x2 hyp => ?_)
    refine g_lmul (pc := 21) S dX10_against_21 ?_
    refine g_aload_n (pc := 22) 0 S dX10_against_22 rfl ?_
    refine g_getR (pc := 23) S dX10_against_23 fl_X10_79 k0 ?_
    refine g_iload_n (pc := 26) 1 S dX10_against_26 rfl ?_
    refine g_iload_n (pc := 27) 2 S dX10_against_27 rfl ?_
    refine g_iadd (pc := 28) S dX10_against_28 ?_
    refine g_lald (pc := 29) S dX10_against_29 (kf_10_21 k0) hyp (fun x3 hyp => ?_)
    refine g_aload_n (pc := 30) 0 S dX10_against_30 rfl ?_
    refine g_getR (pc := 31) S dX10_against_31 fl_X10_82 k0 ?_
    refine g_iconst (pc := 34) (v := (3 : Int32)) S dX10_against_34 (by decide) ?_
    refine g_lald (pc := 35) S dX10_against_35 (kf_10_22 k0) hyp (fun x4 hyp => ?_)
    refine g_lmul (pc := 36) S dX10_against_36 ?_
    refine g_lsub (pc := 37) S dX10_against_37 ?_
    refine g_lti (C := fun v3_5 => Go K 38 [(0, .ref (ad K c0)), (1, .int a1), (2, .int a2)] [.long v3_5] h) hyp (fun v3_5 hyp => ?_)
    refine g_lstore_n (pc := 38) (lv' := [(3, .long v3_5), (0, .ref (ad K c0)), (1, .int a1), (2, .int a2)]) S dX10_against_38 rfl (by decide) rfl ?_
    refine g_lload_n (pc := 39) 0 S dX10_against_39 rfl ?_
    refine g_lconst (pc := 40) (v := (0 : Int64)) S dX10_against_40 (by decide) ?_
    refine g_lcmp_eq (pc := 41) (tgt := 57) S dX10_against_41 dX10_against_42 (by decide) hyp (fun hyp => ?_) (fun hyp => ?_)
    · refine g_iinc (pc := 57) (v := (a2 + (1 : Int32))) (lv' := [(2, .int (a2 + (1 : Int32))), (3, .long v3_5), (0, .ref (ad K c0)), (1, .int a1)]) 3 S dX10_against_57 rfl (by rfl) (by decide) rfl ?_
      refine g_lti (C := fun v2_6 => Go K (57 + 3) [(2, .int v2_6), (3, .long v3_5), (0, .ref (ad K c0)), (1, .int a1)] [] h) hyp (fun v2_6 hyp => ?_)
      refine g_goto (pc := 60) (tgt := 2) S dX10_against_60 (by decide) ?_
      cases hyp
      exact g_sub [2, 3, 0] rfl (hin _ rfl)
    · refine g_lload_n (pc := 45) 0 S dX10_against_45 rfl ?_
      refine g_lconst (pc := 46) (v := (0 : Int64)) S dX10_against_46 (by decide) ?_
      refine g_lcmp_ge (pc := 47) (tgt := 55) S dX10_against_47 dX10_against_48 (by decide) hyp (fun hyp => ?_) (fun hyp => ?_)
      · refine g_iconst (pc := 51) (v := (-1 : Int32)) S dX10_against_51 (by decide) ?_
        refine g_goto (pc := 52) (tgt := 56) S dX10_against_52 (by decide) ?_
        cases hyp
        exact g_iret (pc := 56) S (hret _ rfl) dX10_against_56
      · refine g_iconst (pc := 55) (v := (1 : Int32)) S dX10_against_55 (by decide) ?_
        cases hyp
        exact g_iret (pc := 56) S (hret _ rfl) dX10_against_56
  · cases hyp
    exact g_sub [] rfl (hex0 _ rfl)
set_option maxRecDepth 100000 in
set_option maxHeartbeats 4000000 in
theorem o_X10_against {K : gK} (S : Cx K RX10 cX10_against 5 0 0) {c0 : Nat} (k0 : kd c0 (10 + 10, 0)) (a1 : Int32) (h : Hp) {o : Int32} (hyp : s_X10_against c0 a1 h = some o) (F : Rt K (some .int) (some (.int o)) h) : Go K 0 [(0, .ref (ad K c0)), (1, .int a1)] [] h := by
  unfold s_X10_against at hyp
  refine g_iconst (pc := 0) (v := (0 : Int32)) S dX10_against_0 (by decide) ?_
  refine g_istore_n (pc := 1) (lv' := [(2, .int (0 : Int32)), (0, .ref (ad K c0)), (1, .int a1)]) S dX10_against_1 rfl (by decide) rfl ?_
  refine g_bind hyp (fun e7 he7 hyp => ?_)
  refine g_sub [1, 2, 0] rfl (g_loop (Hd := fun s : Int32 => Go K 2 [(0, .ref (ad K c0)), (1, .int a1), (2, .int s)] [] h) (Ex := fun e7 => (∀ t, e7 = .inl t → Go K 63 [] [] h) ∧ (∀ t, e7 = .inr t → Rt K (some .int) (some (.int t)) h)) (fun s o h1 h2 h3 => o_X10_against_l2 S k0 a1 s h h1 h2 (fun t q => (h3 _ q).1 t rfl) (fun t q => (h3 _ q).2 t rfl)) FUEL _ e7 he7 ?_)
  refine ⟨?_, ?_⟩
  · intro t8 q
    subst q
    refine g_iconst (pc := 63) (v := (0 : Int32)) S dX10_against_63 (by decide) ?_
    cases hyp
    exact g_iret (pc := 64) S F dX10_against_64
  · intro t9 q
    subst q
    cases hyp
    exact F
theorem m_X10_against {l : Launch} {D : va_G} {cT : Nat → ClassId} {aD : Nat → Nat} {c0 : Nat} (k0 : kd c0 (10 + 10, 0)) (a1 : Int32) (h : Hp) {o : Int32} (hyp : s_X10_against c0 a1 h = some o) : Ok l D cT aD yX10_against cX10_against 5 (some .int) 0 0 [.ref (aD c0), .int a1] h (some (.int o)) h :=
  Ok.of (by decide +kernel) rfl (Nat.le_of_ble_eq_true rfl) (fun K e1 e2 e3 e4 S F => by subst e1; exact o_X10_against S k0 a1 h hyp F)
-- BoundProofsModel comesCorner ()V
def s_X10_comesCorner_l2 (c0 : Nat) (a1 : Int32) (h : Hp) : Option ((Int32) ⊕ (Int32)) :=
  if a1 < (h.1 c0 39) then ((s_X10_against c0 ((4 : Int32) * a1) h).bind fun y1 =>
  if 0 < y1 then (lt (a1 + (1 : Int32)) fun v1_2 =>
  some (.inl v1_2))
  else (some (.inr (a1))))
  else (some (.inr (a1)))
def s_X10_comesCorner_l54 (c0 : Nat) (a1 : Int32) (a2 : Int32) (h : Hp) : Option ((Int32 × Hp) ⊕ (Hp)) :=
  if a2 < ((4 : Int32) * a1) then (some (.inr (h)))
  else (ldJ h (c0 + 21) 480 a2 fun x6 =>
  stJ h (c0 + 21) 480 (a2 + (4 : Int32)) x6 fun h7 =>
  lt (a2 + (-1 : Int32)) fun v2_8 =>
  some (.inl (v2_8, h7)))
def s_X10_comesCorner_l83 (c0 : Nat) (a1 : Int32) (a2 : Int32) (h : Hp) : Option ((Int32 × Hp) ⊕ (Hp)) :=
  if a2 < (4 : Int32) then (ldJ h (c0 + 22) 4 a2 fun x10 =>
  stJ h (c0 + 21) 480 (((4 : Int32) * a1) + a2) x10 fun h11 =>
  lt (a2 + (1 : Int32)) fun v2_12 =>
  some (.inl (v2_12, h11)))
  else (some (.inr (h)))
def s_X10_comesCorner_b45 (c0 : Nat) (a1 : Int32) (h : Hp) : Option (Hp) :=
  lt (((4 : Int32) * (h.1 c0 39)) - (1 : Int32)) fun v2_5 =>
  (iter (fun s : Int32 × Hp => s_X10_comesCorner_l54 c0 a1 s.1 s.2) FUEL (v2_5, h)).bind fun e9 =>
  (iter (fun s : Int32 × Hp => s_X10_comesCorner_l83 c0 a1 s.1 s.2) FUEL ((0 : Int32), e9)).bind fun e13 =>
  lt (sI e13 c0 39 ((e13.1 c0 39) + (1 : Int32))) fun h14 =>
  some h14
def s_X10_comesCorner (c0 : Nat)  (h : Hp) : Option (Hp) :=
  (iter (fun s : Int32 => s_X10_comesCorner_l2 c0 s h) FUEL (0 : Int32)).bind fun e3 =>
  if e3 < (h.1 c0 39) then ((s_X10_against c0 ((4 : Int32) * e3) h).bind fun y4 =>
  if y4 = 0 then (some h)
  else (s_X10_comesCorner_b45 c0 e3 h))
  else (s_X10_comesCorner_b45 c0 e3 h)
set_option maxRecDepth 100000 in
set_option maxHeartbeats 4000000 in
theorem o_X10_comesCorner_l2 {K : gK} (S : Cx K RX10 cX10_comesCorner 3 1 28) {c0 : Nat} (k0 : kd c0 (10 + 10, 0)) (a1 : Int32) (h : Hp) {o : (Int32) ⊕ (Int32)} (hyp : s_X10_comesCorner_l2 c0 a1 h = some o) (hin : ∀ s', o = .inl s' → Go K 2 [(0, .ref (ad K c0)), (1, .int s')] [] h) (hex0 : ∀ s', o = .inr (s') → Go K 26 [(0, .ref (ad K c0)), (1, .int s')] [] h) : Go K 2 [(0, .ref (ad K c0)), (1, .int a1)] [] h := by
  unfold s_X10_comesCorner_l2 at hyp
  refine g_iload_n (pc := 2) 1 S dX10_comesCorner_2 rfl ?_
  refine g_aload_n (pc := 3) 0 S dX10_comesCorner_3 rfl ?_
  refine g_getI (pc := 4) S dX10_comesCorner_4 fl_X10_305 k0 ?_
  refine g_icmp_ge (pc := 7) (tgt := 26) S dX10_comesCorner_7 (by decide) hyp (fun hyp => ?_) (fun hyp => ?_)
  · refine g_aload_n (pc := 10) 0 S dX10_comesCorner_10 rfl ?_
    refine g_iconst (pc := 11) (v := (4 : Int32)) S dX10_comesCorner_11 (by decide) ?_
    refine g_iload_n (pc := 12) 1 S dX10_comesCorner_12 rfl ?_
    refine g_imul (pc := 13) S dX10_comesCorner_13 ?_
    refine g_bind hyp (fun y1 hy1 hyp => ?_)
    refine g_callV (pc := 14) (As := [.int ((4 : Int32) * a1)]) (rest := []) S dX10_comesCorner_14 k0 rfl tw_1215 tw_1216 tw_75 mw_X10_against (m_X10_against k0 ((4 : Int32) * a1) h hy1) rfl rfl (Nat.le_of_ble_eq_true rfl) (Nat.le_of_ble_eq_true rfl) (Nat.le_of_ble_eq_true rfl) ?_
    refine g_if_le (pc := 17) (tgt := 26) S dX10_comesCorner_17 (by decide) hyp (fun hyp => ?_) (fun hyp => ?_)
    · refine g_iinc (pc := 20) (v := (a1 + (1 : Int32))) (lv' := [(1, .int (a1 + (1 : Int32))), (0, .ref (ad K c0))]) 1 S dX10_comesCorner_20 rfl (by rfl) (by decide) rfl ?_
      refine g_lti (C := fun v1_2 => Go K (20 + 3) [(1, .int v1_2), (0, .ref (ad K c0))] [] h) hyp (fun v1_2 hyp => ?_)
      refine g_goto (pc := 23) (tgt := 2) S dX10_comesCorner_23 (by decide) ?_
      cases hyp
      exact g_sub [1, 0] rfl (hin _ rfl)
    · cases hyp
      exact g_sub [0, 1] rfl (hex0 _ rfl)
  · cases hyp
    exact g_sub [0, 1] rfl (hex0 _ rfl)
set_option maxRecDepth 100000 in
set_option maxHeartbeats 4000000 in
theorem o_X10_comesCorner_l54 {K : gK} (S : Cx K RX10 cX10_comesCorner 3 1 28) {c0 : Nat} (k0 : kd c0 (10 + 10, 0)) (a1 : Int32) (a2 : Int32) (h : Hp) {o : (Int32 × Hp) ⊕ (Hp)} (hyp : s_X10_comesCorner_l54 c0 a1 a2 h = some o) (hin : ∀ s', o = .inl s' → Go K 54 [(0, .ref (ad K c0)), (1, .int a1), (2, .int s'.1)] [] s'.2) (hex0 : ∀ s', o = .inr (s') → Go K 81 [(0, .ref (ad K c0)), (1, .int a1)] [] s') : Go K 54 [(0, .ref (ad K c0)), (1, .int a1), (2, .int a2)] [] h := by
  unfold s_X10_comesCorner_l54 at hyp
  refine g_iload_n (pc := 54) 2 S dX10_comesCorner_54 rfl ?_
  refine g_iconst (pc := 55) (v := (4 : Int32)) S dX10_comesCorner_55 (by decide) ?_
  refine g_iload_n (pc := 56) 1 S dX10_comesCorner_56 rfl ?_
  refine g_imul (pc := 57) S dX10_comesCorner_57 ?_
  refine g_icmp_lt (pc := 58) (tgt := 81) S dX10_comesCorner_58 (by decide) hyp (fun hyp => ?_) (fun hyp => ?_)
  · cases hyp
    exact g_sub [0, 1] rfl (hex0 _ rfl)
  · refine g_aload_n (pc := 61) 0 S dX10_comesCorner_61 rfl ?_
    refine g_getR (pc := 62) S dX10_comesCorner_62 fl_X10_79 k0 ?_
    refine g_iload_n (pc := 65) 2 S dX10_comesCorner_65 rfl ?_
    refine g_iconst (pc := 66) (v := (4 : Int32)) S dX10_comesCorner_66 (by decide) ?_
    refine g_iadd (pc := 67) S dX10_comesCorner_67 ?_
    refine g_aload_n (pc := 68) 0 S dX10_comesCorner_68 rfl ?_
    refine g_getR (pc := 69) S dX10_comesCorner_69 fl_X10_79 k0 ?_
    refine g_iload_n (pc := 72) 2 S dX10_comesCorner_72 rfl ?_
    refine g_lald (pc := 73) S dX10_comesCorner_73 (kf_10_21 k0) hyp (fun x6 hyp => ?_)
    refine g_last (pc := 74) S dX10_comesCorner_74 (kf_10_21 k0) hyp (fun h7 hyp => ?_)
    refine g_iinc (pc := 75) (v := (a2 + (-1 : Int32))) (lv' := [(2, .int (a2 + (-1 : Int32))), (0, .ref (ad K c0)), (1, .int a1)]) 2 S dX10_comesCorner_75 rfl (by rfl) (by decide) rfl ?_
    refine g_lti (C := fun v2_8 => Go K (75 + 3) [(2, .int v2_8), (0, .ref (ad K c0)), (1, .int a1)] [] h7) hyp (fun v2_8 hyp => ?_)
    refine g_goto (pc := 78) (tgt := 54) S dX10_comesCorner_78 (by decide) ?_
    cases hyp
    exact g_sub [1, 2, 0] rfl (hin _ rfl)
set_option maxRecDepth 100000 in
set_option maxHeartbeats 4000000 in
theorem o_X10_comesCorner_l83 {K : gK} (S : Cx K RX10 cX10_comesCorner 3 1 28) {c0 : Nat} (k0 : kd c0 (10 + 10, 0)) (a1 : Int32) (a2 : Int32) (h : Hp) {o : (Int32 × Hp) ⊕ (Hp)} (hyp : s_X10_comesCorner_l83 c0 a1 a2 h = some o) (hin : ∀ s', o = .inl s' → Go K 83 [(0, .ref (ad K c0)), (1, .int a1), (2, .int s'.1)] [] s'.2) (hex0 : ∀ s', o = .inr (s') → Go K 110 [(0, .ref (ad K c0))] [] s') : Go K 83 [(0, .ref (ad K c0)), (1, .int a1), (2, .int a2)] [] h := by
  unfold s_X10_comesCorner_l83 at hyp
  refine g_iload_n (pc := 83) 2 S dX10_comesCorner_83 rfl ?_
  refine g_iconst (pc := 84) (v := (4 : Int32)) S dX10_comesCorner_84 (by decide) ?_
  refine g_icmp_ge (pc := 85) (tgt := 110) S dX10_comesCorner_85 (by decide) hyp (fun hyp => ?_) (fun hyp => ?_)
  · refine g_aload_n (pc := 88) 0 S dX10_comesCorner_88 rfl ?_
    refine g_getR (pc := 89) S dX10_comesCorner_89 fl_X10_79 k0 ?_
    refine g_iconst (pc := 92) (v := (4 : Int32)) S dX10_comesCorner_92 (by decide) ?_
    refine g_iload_n (pc := 93) 1 S dX10_comesCorner_93 rfl ?_
    refine g_imul (pc := 94) S dX10_comesCorner_94 ?_
    refine g_iload_n (pc := 95) 2 S dX10_comesCorner_95 rfl ?_
    refine g_iadd (pc := 96) S dX10_comesCorner_96 ?_
    refine g_aload_n (pc := 97) 0 S dX10_comesCorner_97 rfl ?_
    refine g_getR (pc := 98) S dX10_comesCorner_98 fl_X10_82 k0 ?_
    refine g_iload_n (pc := 101) 2 S dX10_comesCorner_101 rfl ?_
    refine g_lald (pc := 102) S dX10_comesCorner_102 (kf_10_22 k0) hyp (fun x10 hyp => ?_)
    refine g_last (pc := 103) S dX10_comesCorner_103 (kf_10_21 k0) hyp (fun h11 hyp => ?_)
    refine g_iinc (pc := 104) (v := (a2 + (1 : Int32))) (lv' := [(2, .int (a2 + (1 : Int32))), (0, .ref (ad K c0)), (1, .int a1)]) 2 S dX10_comesCorner_104 rfl (by rfl) (by decide) rfl ?_
    refine g_lti (C := fun v2_12 => Go K (104 + 3) [(2, .int v2_12), (0, .ref (ad K c0)), (1, .int a1)] [] h11) hyp (fun v2_12 hyp => ?_)
    refine g_goto (pc := 107) (tgt := 83) S dX10_comesCorner_107 (by decide) ?_
    cases hyp
    exact g_sub [1, 2, 0] rfl (hin _ rfl)
  · cases hyp
    exact g_sub [0] rfl (hex0 _ rfl)
set_option maxRecDepth 100000 in
set_option maxHeartbeats 4000000 in
theorem o_X10_comesCorner_b45 {K : gK} (S : Cx K RX10 cX10_comesCorner 3 1 28) {c0 : Nat} (k0 : kd c0 (10 + 10, 0)) (a1 : Int32) (h : Hp) {o : Hp} (hyp : s_X10_comesCorner_b45 c0 a1 h = some o) (F : Rt K none none o) : Go K 45 [(0, .ref (ad K c0)), (1, .int a1)] [] h := by
  unfold s_X10_comesCorner_b45 at hyp
  refine g_iconst (pc := 45) (v := (4 : Int32)) S dX10_comesCorner_45 (by decide) ?_
  refine g_aload_n (pc := 46) 0 S dX10_comesCorner_46 rfl ?_
  refine g_getI (pc := 47) S dX10_comesCorner_47 fl_X10_305 k0 ?_
  refine g_imul (pc := 50) S dX10_comesCorner_50 ?_
  refine g_iconst (pc := 51) (v := (1 : Int32)) S dX10_comesCorner_51 (by decide) ?_
  refine g_isub (pc := 52) S dX10_comesCorner_52 ?_
  refine g_lti (C := fun v2_5 => Go K 53 [(0, .ref (ad K c0)), (1, .int a1)] [.int v2_5] h) hyp (fun v2_5 hyp => ?_)
  refine g_istore_n (pc := 53) (lv' := [(2, .int v2_5), (0, .ref (ad K c0)), (1, .int a1)]) S dX10_comesCorner_53 rfl (by decide) rfl ?_
  refine g_bind hyp (fun e9 he9 hyp => ?_)
  refine g_sub [1, 2, 0] rfl (g_loop (Hd := fun s : Int32 × Hp => Go K 54 [(0, .ref (ad K c0)), (1, .int a1), (2, .int s.1)] [] s.2) (Ex := fun e9 => Go K 81 [(0, .ref (ad K c0)), (1, .int a1)] [] e9) (fun s o h1 h2 h3 => o_X10_comesCorner_l54 S k0 a1 s.1 s.2 h1 h2 h3) FUEL _ e9 he9 ?_)
  refine g_iconst (pc := 81) (v := (0 : Int32)) S dX10_comesCorner_81 (by decide) ?_
  refine g_istore_n (pc := 82) (lv' := [(2, .int (0 : Int32)), (0, .ref (ad K c0)), (1, .int a1)]) S dX10_comesCorner_82 rfl (by decide) rfl ?_
  refine g_bind hyp (fun e13 he13 hyp => ?_)
  refine g_sub [1, 2, 0] rfl (g_loop (Hd := fun s : Int32 × Hp => Go K 83 [(0, .ref (ad K c0)), (1, .int a1), (2, .int s.1)] [] s.2) (Ex := fun e13 => Go K 110 [(0, .ref (ad K c0))] [] e13) (fun s o h1 h2 h3 => o_X10_comesCorner_l83 S k0 a1 s.1 s.2 h1 h2 h3) FUEL _ e13 he13 ?_)
  refine g_aload_n (pc := 110) 0 S dX10_comesCorner_110 rfl ?_
  refine g_dup (pc := 111) S dX10_comesCorner_111 rfl ?_
  refine g_getI (pc := 112) S dX10_comesCorner_112 fl_X10_305 k0 ?_
  refine g_iconst (pc := 115) (v := (1 : Int32)) S dX10_comesCorner_115 (by decide) ?_
  refine g_iadd (pc := 116) S dX10_comesCorner_116 ?_
  refine g_putI (pc := 117) S dX10_comesCorner_117 fl_X10_305 k0 hyp (fun h14 hyp => ?_)
  cases hyp
  exact g_vret (pc := 120) S F dX10_comesCorner_120
set_option maxRecDepth 100000 in
set_option maxHeartbeats 4000000 in
theorem o_X10_comesCorner {K : gK} (S : Cx K RX10 cX10_comesCorner 3 1 28) {c0 : Nat} (k0 : kd c0 (10 + 10, 0))  (h : Hp) {o : Hp} (hyp : s_X10_comesCorner c0  h = some o) (F : Rt K none none o) : Go K 0 [(0, .ref (ad K c0))] [] h := by
  unfold s_X10_comesCorner at hyp
  refine g_iconst (pc := 0) (v := (0 : Int32)) S dX10_comesCorner_0 (by decide) ?_
  refine g_istore_n (pc := 1) (lv' := [(1, .int (0 : Int32)), (0, .ref (ad K c0))]) S dX10_comesCorner_1 rfl (by decide) rfl ?_
  refine g_bind hyp (fun e3 he3 hyp => ?_)
  refine g_sub [1, 0] rfl (g_loop (Hd := fun s : Int32 => Go K 2 [(0, .ref (ad K c0)), (1, .int s)] [] h) (Ex := fun e3 => Go K 26 [(0, .ref (ad K c0)), (1, .int e3)] [] h) (fun s o h1 h2 h3 => o_X10_comesCorner_l2 S k0 s h h1 h2 h3) FUEL _ e3 he3 ?_)
  refine g_iload_n (pc := 26) 1 S dX10_comesCorner_26 rfl ?_
  refine g_aload_n (pc := 27) 0 S dX10_comesCorner_27 rfl ?_
  refine g_getI (pc := 28) S dX10_comesCorner_28 fl_X10_305 k0 ?_
  refine g_icmp_ge (pc := 31) (tgt := 45) S dX10_comesCorner_31 (by decide) hyp (fun hyp => ?_) (fun hyp => ?_)
  · refine g_aload_n (pc := 34) 0 S dX10_comesCorner_34 rfl ?_
    refine g_iconst (pc := 35) (v := (4 : Int32)) S dX10_comesCorner_35 (by decide) ?_
    refine g_iload_n (pc := 36) 1 S dX10_comesCorner_36 rfl ?_
    refine g_imul (pc := 37) S dX10_comesCorner_37 ?_
    refine g_bind hyp (fun y4 hy4 hyp => ?_)
    refine g_callV (pc := 38) (As := [.int ((4 : Int32) * e3)]) (rest := []) S dX10_comesCorner_38 k0 rfl tw_1215 tw_1216 tw_75 mw_X10_against (m_X10_against k0 ((4 : Int32) * e3) h hy4) rfl rfl (Nat.le_of_ble_eq_true rfl) (Nat.le_of_ble_eq_true rfl) (Nat.le_of_ble_eq_true rfl) ?_
    refine g_if_ne (pc := 41) (tgt := 45) S dX10_comesCorner_41 (by decide) hyp (fun hyp => ?_) (fun hyp => ?_)
    · cases hyp
      exact g_vret (pc := 44) S F dX10_comesCorner_44
    · exact g_sub [0, 1] rfl (o_X10_comesCorner_b45 S k0 e3 h hyp F)
  · exact g_sub [0, 1] rfl (o_X10_comesCorner_b45 S k0 e3 h hyp F)
theorem m_X10_comesCorner {l : Launch} {D : va_G} {cT : Nat → ClassId} {aD : Nat → Nat} {c0 : Nat} (k0 : kd c0 (10 + 10, 0))  (h : Hp) {o : Hp} (hyp : s_X10_comesCorner c0  h = some o) : Ok l D cT aD yX10_comesCorner cX10_comesCorner 3 none 1 28 [.ref (aD c0)] h none o :=
  Ok.of (by decide +kernel) rfl (Nat.le_of_ble_eq_true rfl) (fun K e1 e2 e3 e4 S F => by subst e1; exact o_X10_comesCorner S k0  h hyp F)
-- BoundProofsModel tries (III)V
def s_X10_tries (c0 : Nat) (a1 : Int32) (a2 : Int32) (a3 : Int32) (h : Hp) : Option (Hp) :=
  (s_X10_setPoint c0 a1 a2 a3 h).bind fun y1 =>
  if y1.1 = 0 then (some y1.2)
  else ((s_X10_isWithin c0  y1.2).bind fun y2 =>
  if y2 = 0 then (some y1.2)
  else ((s_X10_comesCorner c0  y1.2).bind fun y3 =>
  some y3))
set_option maxRecDepth 100000 in
set_option maxHeartbeats 4000000 in
theorem o_X10_tries {K : gK} (S : Cx K RX10 cX10_tries 4 4 117) {c0 : Nat} (k0 : kd c0 (10 + 10, 0)) (a1 : Int32) (a2 : Int32) (a3 : Int32) (h : Hp) {o : Hp} (hyp : s_X10_tries c0 a1 a2 a3 h = some o) (F : Rt K none none o) : Go K 0 [(0, .ref (ad K c0)), (1, .int a1), (2, .int a2), (3, .int a3)] [] h := by
  unfold s_X10_tries at hyp
  refine g_aload_n (pc := 0) 0 S dX10_tries_0 rfl ?_
  refine g_iload_n (pc := 1) 1 S dX10_tries_1 rfl ?_
  refine g_iload_n (pc := 2) 2 S dX10_tries_2 rfl ?_
  refine g_iload_n (pc := 3) 3 S dX10_tries_3 rfl ?_
  refine g_bind hyp (fun y1 hy1 hyp => ?_)
  refine g_callV (pc := 4) (As := [.int a1, .int a2, .int a3]) (rest := []) S dX10_tries_4 k0 rfl tw_1194 tw_1195 tw_69 mw_X10_setPoint (m_X10_setPoint k0 a1 a2 a3 h hy1) rfl rfl (Nat.le_of_ble_eq_true rfl) (Nat.le_of_ble_eq_true rfl) (Nat.le_of_ble_eq_true rfl) ?_
  refine g_if_eq (pc := 7) (tgt := 21) S dX10_tries_7 (by decide) hyp (fun hyp => ?_) (fun hyp => ?_)
  · cases hyp
    exact g_vret (pc := 21) S F dX10_tries_21
  · refine g_aload_n (pc := 10) 0 S dX10_tries_10 rfl ?_
    refine g_bind hyp (fun y2 hy2 hyp => ?_)
    refine g_callV (pc := 11) (As := []) (rest := []) S dX10_tries_11 k0 rfl tw_1209 tw_1210 tw_73 mw_X10_isWithin (m_X10_isWithin k0  y1.2 hy2) rfl rfl (Nat.le_of_ble_eq_true rfl) (Nat.le_of_ble_eq_true rfl) (Nat.le_of_ble_eq_true rfl) ?_
    refine g_if_eq (pc := 14) (tgt := 21) S dX10_tries_14 (by decide) hyp (fun hyp => ?_) (fun hyp => ?_)
    · cases hyp
      exact g_vret (pc := 21) S F dX10_tries_21
    · refine g_aload_n (pc := 17) 0 S dX10_tries_17 rfl ?_
      refine g_bind hyp (fun y3 hy3 hyp => ?_)
      refine g_callV (pc := 18) (As := []) (rest := []) S dX10_tries_18 k0 rfl tw_1212 tw_1213 tw_74 mw_X10_comesCorner (m_X10_comesCorner k0  y1.2 hy3) rfl rfl (Nat.le_of_ble_eq_true rfl) (Nat.le_of_ble_eq_true rfl) (Nat.le_of_ble_eq_true rfl) ?_
      cases hyp
      exact g_vret (pc := 21) S F dX10_tries_21
theorem m_X10_tries {l : Launch} {D : va_G} {cT : Nat → ClassId} {aD : Nat → Nat} {c0 : Nat} (k0 : kd c0 (10 + 10, 0)) (a1 : Int32) (a2 : Int32) (a3 : Int32) (h : Hp) {o : Hp} (hyp : s_X10_tries c0 a1 a2 a3 h = some o) : Ok l D cT aD yX10_tries cX10_tries 4 none 4 117 [.ref (aD c0), .int a1, .int a2, .int a3] h none o :=
  Ok.of (by decide +kernel) rfl (Nat.le_of_ble_eq_true rfl) (fun K e1 e2 e3 e4 S F => by subst e1; exact o_X10_tries S k0 a1 a2 a3 h hyp F)
-- BoundProofsModel setCorners ()V
def s_X10_setCorners_l69 (c0 : Nat) (a1 : Int32) (a2 : Int32) (a3 : Int32) (h : Hp) : Option ((Int32 × Hp) ⊕ (Hp)) :=
  if a3 < (h.1 c0 3) then (if (2 : Int32) < (h.1 c0 0) then ((s_X10_tries c0 a1 a2 a3 h).bind fun y6 =>
  lt (a3 + (1 : Int32)) fun v3_7 =>
  some (.inl (v3_7, y6)))
  else (some (.inr (h))))
  else (some (.inr (h)))
def s_X10_setCorners_b65 (c0 : Nat) (a1 : Int32) (a2 : Int32) (h : Hp) : Option ((Int32 × Hp) ⊕ (Hp)) :=
  lt (a2 + (1 : Int32)) fun v3_5 =>
  (iter (fun s : Int32 × Hp => s_X10_setCorners_l69 c0 a1 a2 s.1 s.2) FUEL (v3_5, h)).bind fun e8 =>
  lt (a2 + (1 : Int32)) fun v2_9 =>
  some (.inl (v2_9, e8))
def s_X10_setCorners_l34 (c0 : Nat) (a1 : Int32) (a2 : Int32) (h : Hp) : Option ((Int32 × Hp) ⊕ (Hp)) :=
  if a2 < (h.1 c0 3) then (if (1 : Int32) < (h.1 c0 0) then (if (h.1 c0 0) = (2 : Int32) then ((s_X10_tries c0 a1 a2 a2 h).bind fun y4 =>
  s_X10_setCorners_b65 c0 a1 a2 y4)
  else (s_X10_setCorners_b65 c0 a1 a2 h))
  else (some (.inr (h))))
  else (some (.inr (h)))
def s_X10_setCorners_b30 (c0 : Nat) (a1 : Int32) (h : Hp) : Option ((Int32 × Hp) ⊕ (Hp)) :=
  lt (a1 + (1 : Int32)) fun v2_3 =>
  (iter (fun s : Int32 × Hp => s_X10_setCorners_l34 c0 a1 s.1 s.2) FUEL (v2_3, h)).bind fun e10 =>
  lt (a1 + (1 : Int32)) fun v1_11 =>
  some (.inl (v1_11, e10))
def s_X10_setCorners_l7 (c0 : Nat) (a1 : Int32) (h : Hp) : Option ((Int32 × Hp) ⊕ (Hp)) :=
  if a1 < (h.1 c0 3) then (if (h.1 c0 0) = (1 : Int32) then ((s_X10_tries c0 a1 a1 a1 h).bind fun y2 =>
  s_X10_setCorners_b30 c0 a1 y2)
  else (s_X10_setCorners_b30 c0 a1 h))
  else (some (.inr (h)))
def s_X10_setCorners (c0 : Nat)  (h : Hp) : Option (Hp) :=
  lt (sI h c0 39 (0 : Int32)) fun h1 =>
  (iter (fun s : Int32 × Hp => s_X10_setCorners_l7 c0 s.1 s.2) FUEL ((0 : Int32), h1)).bind fun e12 =>
  some e12
set_option maxRecDepth 100000 in
set_option maxHeartbeats 4000000 in
theorem o_X10_setCorners_l69 {K : gK} (S : Cx K RX10 cX10_setCorners 4 5 144) {c0 : Nat} (k0 : kd c0 (10 + 10, 0)) (a1 : Int32) (a2 : Int32) (a3 : Int32) (h : Hp) {o : (Int32 × Hp) ⊕ (Hp)} (hyp : s_X10_setCorners_l69 c0 a1 a2 a3 h = some o) (hin : ∀ s', o = .inl s' → Go K 69 [(0, .ref (ad K c0)), (1, .int a1), (2, .int a2), (3, .int s'.1)] [] s'.2) (hex0 : ∀ s', o = .inr (s') → Go K 98 [(0, .ref (ad K c0)), (1, .int a1), (2, .int a2)] [] s') : Go K 69 [(0, .ref (ad K c0)), (1, .int a1), (2, .int a2), (3, .int a3)] [] h := by
  unfold s_X10_setCorners_l69 at hyp
  refine g_iload_n (pc := 69) 3 S dX10_setCorners_69 rfl ?_
  refine g_aload_n (pc := 70) 0 S dX10_setCorners_70 rfl ?_
  refine g_getI (pc := 71) S dX10_setCorners_71 fl_X10_97 k0 ?_
  refine g_icmp_ge (pc := 74) (tgt := 98) S dX10_setCorners_74 (by decide) hyp (fun hyp => ?_) (fun hyp => ?_)
  · refine g_aload_n (pc := 77) 0 S dX10_setCorners_77 rfl ?_
    refine g_getI (pc := 78) S dX10_setCorners_78 fl_X10_7 k0 ?_
    refine g_iconst (pc := 81) (v := (2 : Int32)) S dX10_setCorners_81 (by decide) ?_
    refine g_icmp_le (pc := 82) (tgt := 98) S dX10_setCorners_82 (by decide) hyp (fun hyp => ?_) (fun hyp => ?_)
    · refine g_aload_n (pc := 85) 0 S dX10_setCorners_85 rfl ?_
      refine g_iload_n (pc := 86) 1 S dX10_setCorners_86 rfl ?_
      refine g_iload_n (pc := 87) 2 S dX10_setCorners_87 rfl ?_
      refine g_iload_n (pc := 88) 3 S dX10_setCorners_88 rfl ?_
      refine g_bind hyp (fun y6 hy6 hyp => ?_)
      refine g_callV (pc := 89) (As := [.int a1, .int a2, .int a3]) (rest := []) S dX10_setCorners_89 k0 rfl tw_1191 tw_1192 tw_68 mw_X10_tries (m_X10_tries k0 a1 a2 a3 h hy6) rfl rfl (Nat.le_of_ble_eq_true rfl) (Nat.le_of_ble_eq_true rfl) (Nat.le_of_ble_eq_true rfl) ?_
      refine g_iinc (pc := 92) (v := (a3 + (1 : Int32))) (lv' := [(3, .int (a3 + (1 : Int32))), (0, .ref (ad K c0)), (1, .int a1), (2, .int a2)]) 3 S dX10_setCorners_92 rfl (by rfl) (by decide) rfl ?_
      refine g_lti (C := fun v3_7 => Go K (92 + 3) [(3, .int v3_7), (0, .ref (ad K c0)), (1, .int a1), (2, .int a2)] [] y6) hyp (fun v3_7 hyp => ?_)
      refine g_goto (pc := 95) (tgt := 69) S dX10_setCorners_95 (by decide) ?_
      cases hyp
      exact g_sub [1, 2, 3, 0] rfl (hin _ rfl)
    · cases hyp
      exact g_sub [0, 1, 2] rfl (hex0 _ rfl)
  · cases hyp
    exact g_sub [0, 1, 2] rfl (hex0 _ rfl)
set_option maxRecDepth 100000 in
set_option maxHeartbeats 4000000 in
theorem o_X10_setCorners_b65 {K : gK} (S : Cx K RX10 cX10_setCorners 4 5 144) {c0 : Nat} (k0 : kd c0 (10 + 10, 0)) (a1 : Int32) (a2 : Int32) (h : Hp) {o : (Int32 × Hp) ⊕ (Hp)} (hyp : s_X10_setCorners_b65 c0 a1 a2 h = some o) (hin : ∀ s', o = .inl s' → Go K 34 [(0, .ref (ad K c0)), (1, .int a1), (2, .int s'.1)] [] s'.2) (hex0 : ∀ s', o = .inr (s') → Go K 104 [(0, .ref (ad K c0)), (1, .int a1)] [] s') : Go K 65 [(0, .ref (ad K c0)), (1, .int a1), (2, .int a2)] [] h := by
  unfold s_X10_setCorners_b65 at hyp
  refine g_iload_n (pc := 65) 2 S dX10_setCorners_65 rfl ?_
  refine g_iconst (pc := 66) (v := (1 : Int32)) S dX10_setCorners_66 (by decide) ?_
  refine g_iadd (pc := 67) S dX10_setCorners_67 ?_
  refine g_lti (C := fun v3_5 => Go K 68 [(0, .ref (ad K c0)), (1, .int a1), (2, .int a2)] [.int v3_5] h) hyp (fun v3_5 hyp => ?_)
  refine g_istore_n (pc := 68) (lv' := [(3, .int v3_5), (0, .ref (ad K c0)), (1, .int a1), (2, .int a2)]) S dX10_setCorners_68 rfl (by decide) rfl ?_
  refine g_bind hyp (fun e8 he8 hyp => ?_)
  refine g_sub [1, 2, 3, 0] rfl (g_loop (Hd := fun s : Int32 × Hp => Go K 69 [(0, .ref (ad K c0)), (1, .int a1), (2, .int a2), (3, .int s.1)] [] s.2) (Ex := fun e8 => Go K 98 [(0, .ref (ad K c0)), (1, .int a1), (2, .int a2)] [] e8) (fun s o h1 h2 h3 => o_X10_setCorners_l69 S k0 a1 a2 s.1 s.2 h1 h2 h3) FUEL _ e8 he8 ?_)
  refine g_iinc (pc := 98) (v := (a2 + (1 : Int32))) (lv' := [(2, .int (a2 + (1 : Int32))), (0, .ref (ad K c0)), (1, .int a1)]) 2 S dX10_setCorners_98 rfl (by rfl) (by decide) rfl ?_
  refine g_lti (C := fun v2_9 => Go K (98 + 3) [(2, .int v2_9), (0, .ref (ad K c0)), (1, .int a1)] [] e8) hyp (fun v2_9 hyp => ?_)
  refine g_goto (pc := 101) (tgt := 34) S dX10_setCorners_101 (by decide) ?_
  cases hyp
  exact g_sub [1, 2, 0] rfl (hin _ rfl)
set_option maxRecDepth 100000 in
set_option maxHeartbeats 4000000 in
theorem o_X10_setCorners_l34 {K : gK} (S : Cx K RX10 cX10_setCorners 4 5 144) {c0 : Nat} (k0 : kd c0 (10 + 10, 0)) (a1 : Int32) (a2 : Int32) (h : Hp) {o : (Int32 × Hp) ⊕ (Hp)} (hyp : s_X10_setCorners_l34 c0 a1 a2 h = some o) (hin : ∀ s', o = .inl s' → Go K 34 [(0, .ref (ad K c0)), (1, .int a1), (2, .int s'.1)] [] s'.2) (hex0 : ∀ s', o = .inr (s') → Go K 104 [(0, .ref (ad K c0)), (1, .int a1)] [] s') : Go K 34 [(0, .ref (ad K c0)), (1, .int a1), (2, .int a2)] [] h := by
  unfold s_X10_setCorners_l34 at hyp
  refine g_iload_n (pc := 34) 2 S dX10_setCorners_34 rfl ?_
  refine g_aload_n (pc := 35) 0 S dX10_setCorners_35 rfl ?_
  refine g_getI (pc := 36) S dX10_setCorners_36 fl_X10_97 k0 ?_
  refine g_icmp_ge (pc := 39) (tgt := 104) S dX10_setCorners_39 (by decide) hyp (fun hyp => ?_) (fun hyp => ?_)
  · refine g_aload_n (pc := 42) 0 S dX10_setCorners_42 rfl ?_
    refine g_getI (pc := 43) S dX10_setCorners_43 fl_X10_7 k0 ?_
    refine g_iconst (pc := 46) (v := (1 : Int32)) S dX10_setCorners_46 (by decide) ?_
    refine g_icmp_le (pc := 47) (tgt := 104) S dX10_setCorners_47 (by decide) hyp (fun hyp => ?_) (fun hyp => ?_)
    · refine g_aload_n (pc := 50) 0 S dX10_setCorners_50 rfl ?_
      refine g_getI (pc := 51) S dX10_setCorners_51 fl_X10_7 k0 ?_
      refine g_iconst (pc := 54) (v := (2 : Int32)) S dX10_setCorners_54 (by decide) ?_
      refine g_icmp_ne (pc := 55) (tgt := 65) S dX10_setCorners_55 (by decide) hyp (fun hyp => ?_) (fun hyp => ?_)
      · refine g_aload_n (pc := 58) 0 S dX10_setCorners_58 rfl ?_
        refine g_iload_n (pc := 59) 1 S dX10_setCorners_59 rfl ?_
        refine g_iload_n (pc := 60) 2 S dX10_setCorners_60 rfl ?_
        refine g_iload_n (pc := 61) 2 S dX10_setCorners_61 rfl ?_
        refine g_bind hyp (fun y4 hy4 hyp => ?_)
        refine g_callV (pc := 62) (As := [.int a1, .int a2, .int a2]) (rest := []) S dX10_setCorners_62 k0 rfl tw_1191 tw_1192 tw_68 mw_X10_tries (m_X10_tries k0 a1 a2 a2 h hy4) rfl rfl (Nat.le_of_ble_eq_true rfl) (Nat.le_of_ble_eq_true rfl) (Nat.le_of_ble_eq_true rfl) ?_
        exact g_sub [0, 1, 2] rfl (o_X10_setCorners_b65 S k0 a1 a2 y4 hyp hin hex0)
      · exact g_sub [0, 1, 2] rfl (o_X10_setCorners_b65 S k0 a1 a2 h hyp hin hex0)
    · cases hyp
      exact g_sub [0, 1] rfl (hex0 _ rfl)
  · cases hyp
    exact g_sub [0, 1] rfl (hex0 _ rfl)
set_option maxRecDepth 100000 in
set_option maxHeartbeats 4000000 in
theorem o_X10_setCorners_b30 {K : gK} (S : Cx K RX10 cX10_setCorners 4 5 144) {c0 : Nat} (k0 : kd c0 (10 + 10, 0)) (a1 : Int32) (h : Hp) {o : (Int32 × Hp) ⊕ (Hp)} (hyp : s_X10_setCorners_b30 c0 a1 h = some o) (hin : ∀ s', o = .inl s' → Go K 7 [(0, .ref (ad K c0)), (1, .int s'.1)] [] s'.2) (hex0 : ∀ s', o = .inr (s') → Go K 110 [] [] s') : Go K 30 [(0, .ref (ad K c0)), (1, .int a1)] [] h := by
  unfold s_X10_setCorners_b30 at hyp
  refine g_iload_n (pc := 30) 1 S dX10_setCorners_30 rfl ?_
  refine g_iconst (pc := 31) (v := (1 : Int32)) S dX10_setCorners_31 (by decide) ?_
  refine g_iadd (pc := 32) S dX10_setCorners_32 ?_
  refine g_lti (C := fun v2_3 => Go K 33 [(0, .ref (ad K c0)), (1, .int a1)] [.int v2_3] h) hyp (fun v2_3 hyp => ?_)
  refine g_istore_n (pc := 33) (lv' := [(2, .int v2_3), (0, .ref (ad K c0)), (1, .int a1)]) S dX10_setCorners_33 rfl (by decide) rfl ?_
  refine g_bind hyp (fun e10 he10 hyp => ?_)
  refine g_sub [1, 2, 0] rfl (g_loop (Hd := fun s : Int32 × Hp => Go K 34 [(0, .ref (ad K c0)), (1, .int a1), (2, .int s.1)] [] s.2) (Ex := fun e10 => Go K 104 [(0, .ref (ad K c0)), (1, .int a1)] [] e10) (fun s o h1 h2 h3 => o_X10_setCorners_l34 S k0 a1 s.1 s.2 h1 h2 h3) FUEL _ e10 he10 ?_)
  refine g_iinc (pc := 104) (v := (a1 + (1 : Int32))) (lv' := [(1, .int (a1 + (1 : Int32))), (0, .ref (ad K c0))]) 1 S dX10_setCorners_104 rfl (by rfl) (by decide) rfl ?_
  refine g_lti (C := fun v1_11 => Go K (104 + 3) [(1, .int v1_11), (0, .ref (ad K c0))] [] e10) hyp (fun v1_11 hyp => ?_)
  refine g_goto (pc := 107) (tgt := 7) S dX10_setCorners_107 (by decide) ?_
  cases hyp
  exact g_sub [1, 0] rfl (hin _ rfl)
set_option maxRecDepth 100000 in
set_option maxHeartbeats 4000000 in
theorem o_X10_setCorners_l7 {K : gK} (S : Cx K RX10 cX10_setCorners 4 5 144) {c0 : Nat} (k0 : kd c0 (10 + 10, 0)) (a1 : Int32) (h : Hp) {o : (Int32 × Hp) ⊕ (Hp)} (hyp : s_X10_setCorners_l7 c0 a1 h = some o) (hin : ∀ s', o = .inl s' → Go K 7 [(0, .ref (ad K c0)), (1, .int s'.1)] [] s'.2) (hex0 : ∀ s', o = .inr (s') → Go K 110 [] [] s') : Go K 7 [(0, .ref (ad K c0)), (1, .int a1)] [] h := by
  unfold s_X10_setCorners_l7 at hyp
  refine g_iload_n (pc := 7) 1 S dX10_setCorners_7 rfl ?_
  refine g_aload_n (pc := 8) 0 S dX10_setCorners_8 rfl ?_
  refine g_getI (pc := 9) S dX10_setCorners_9 fl_X10_97 k0 ?_
  refine g_icmp_ge (pc := 12) (tgt := 110) S dX10_setCorners_12 (by decide) hyp (fun hyp => ?_) (fun hyp => ?_)
  · refine g_aload_n (pc := 15) 0 S dX10_setCorners_15 rfl ?_
    refine g_getI (pc := 16) S dX10_setCorners_16 fl_X10_7 k0 ?_
    refine g_iconst (pc := 19) (v := (1 : Int32)) S dX10_setCorners_19 (by decide) ?_
    refine g_icmp_ne (pc := 20) (tgt := 30) S dX10_setCorners_20 (by decide) hyp (fun hyp => ?_) (fun hyp => ?_)
    · refine g_aload_n (pc := 23) 0 S dX10_setCorners_23 rfl ?_
      refine g_iload_n (pc := 24) 1 S dX10_setCorners_24 rfl ?_
      refine g_iload_n (pc := 25) 1 S dX10_setCorners_25 rfl ?_
      refine g_iload_n (pc := 26) 1 S dX10_setCorners_26 rfl ?_
      refine g_bind hyp (fun y2 hy2 hyp => ?_)
      refine g_callV (pc := 27) (As := [.int a1, .int a1, .int a1]) (rest := []) S dX10_setCorners_27 k0 rfl tw_1191 tw_1192 tw_68 mw_X10_tries (m_X10_tries k0 a1 a1 a1 h hy2) rfl rfl (Nat.le_of_ble_eq_true rfl) (Nat.le_of_ble_eq_true rfl) (Nat.le_of_ble_eq_true rfl) ?_
      exact g_sub [0, 1] rfl (o_X10_setCorners_b30 S k0 a1 y2 hyp hin hex0)
    · exact g_sub [0, 1] rfl (o_X10_setCorners_b30 S k0 a1 h hyp hin hex0)
  · cases hyp
    exact g_sub [] rfl (hex0 _ rfl)
set_option maxRecDepth 100000 in
set_option maxHeartbeats 4000000 in
theorem o_X10_setCorners {K : gK} (S : Cx K RX10 cX10_setCorners 4 5 144) {c0 : Nat} (k0 : kd c0 (10 + 10, 0))  (h : Hp) {o : Hp} (hyp : s_X10_setCorners c0  h = some o) (F : Rt K none none o) : Go K 0 [(0, .ref (ad K c0))] [] h := by
  unfold s_X10_setCorners at hyp
  refine g_aload_n (pc := 0) 0 S dX10_setCorners_0 rfl ?_
  refine g_iconst (pc := 1) (v := (0 : Int32)) S dX10_setCorners_1 (by decide) ?_
  refine g_putI (pc := 2) S dX10_setCorners_2 fl_X10_305 k0 hyp (fun h1 hyp => ?_)
  refine g_iconst (pc := 5) (v := (0 : Int32)) S dX10_setCorners_5 (by decide) ?_
  refine g_istore_n (pc := 6) (lv' := [(1, .int (0 : Int32)), (0, .ref (ad K c0))]) S dX10_setCorners_6 rfl (by decide) rfl ?_
  refine g_bind hyp (fun e12 he12 hyp => ?_)
  refine g_sub [1, 0] rfl (g_loop (Hd := fun s : Int32 × Hp => Go K 7 [(0, .ref (ad K c0)), (1, .int s.1)] [] s.2) (Ex := fun e12 => Go K 110 [] [] e12) (fun s o h1 h2 h3 => o_X10_setCorners_l7 S k0 s.1 s.2 h1 h2 h3) FUEL _ e12 he12 ?_)
  cases hyp
  exact g_vret (pc := 110) S F dX10_setCorners_110
theorem m_X10_setCorners {l : Launch} {D : va_G} {cT : Nat → ClassId} {aD : Nat → Nat} {c0 : Nat} (k0 : kd c0 (10 + 10, 0))  (h : Hp) {o : Hp} (hyp : s_X10_setCorners c0  h = some o) : Ok l D cT aD yX10_setCorners cX10_setCorners 4 none 5 144 [.ref (aD c0)] h none o :=
  Ok.of (by decide +kernel) rfl (Nat.le_of_ble_eq_true rfl) (fun K e1 e2 e3 e4 S F => by subst e1; exact o_X10_setCorners S k0  h hyp F)
-- BoundProofsModel corner (II)I
def s_X10_corner (c0 : Nat) (a1 : Int32) (a2 : Int32) (h : Hp) : Option (Int32 × Hp) :=
  if a1 < 0 then (some ((-1 : Int32), h))
  else ((s_X10_isVariable c0 a2 h).bind fun y1 =>
  if y1 = 0 then (some ((-1 : Int32), h))
  else ((s_X10_setCorners c0  h).bind fun y2 =>
  if a1 < (y2.1 c0 39) then (ldJ y2 (c0 + 21) 480 (((4 : Int32) * a1) + a2) fun x3 =>
  ldJ y2 (c0 + 21) 480 (((4 : Int32) * a1) + (3 : Int32)) fun x4 =>
  (s_X10_says c0 x3 x4 (1 : Int32) y2).bind fun y5 =>
  some (y5.1, y5.2))
  else (some ((-9 : Int32), y2))))
set_option maxRecDepth 100000 in
set_option maxHeartbeats 4000000 in
theorem o_X10_corner {K : gK} (S : Cx K RX10 cX10_corner 3 6 171) {c0 : Nat} (k0 : kd c0 (10 + 10, 0)) (a1 : Int32) (a2 : Int32) (h : Hp) {o : Int32 × Hp} (hyp : s_X10_corner c0 a1 a2 h = some o) (F : Rt K (some .int) (some (.int o.1)) o.2) : Go K 0 [(0, .ref (ad K c0)), (1, .int a1), (2, .int a2)] [] h := by
  unfold s_X10_corner at hyp
  refine g_iload_n (pc := 0) 1 S dX10_corner_0 rfl ?_
  refine g_if_lt (pc := 1) (tgt := 12) S dX10_corner_1 (by decide) hyp (fun hyp => ?_) (fun hyp => ?_)
  · refine g_iconst (pc := 12) (v := (-1 : Int32)) S dX10_corner_12 (by decide) ?_
    cases hyp
    exact g_iret (pc := 13) S F dX10_corner_13
  · refine g_aload_n (pc := 4) 0 S dX10_corner_4 rfl ?_
    refine g_iload_n (pc := 5) 2 S dX10_corner_5 rfl ?_
    refine g_bind hyp (fun y1 hy1 hyp => ?_)
    refine g_callV (pc := 6) (As := [.int a2]) (rest := []) S dX10_corner_6 k0 rfl tw_1017 tw_1018 tw_35 mw_X10_isVariable (m_X10_isVariable k0 a2 h hy1) rfl rfl (Nat.le_of_ble_eq_true rfl) (Nat.le_of_ble_eq_true rfl) (Nat.le_of_ble_eq_true rfl) ?_
    refine g_if_ne (pc := 9) (tgt := 14) S dX10_corner_9 (by decide) hyp (fun hyp => ?_) (fun hyp => ?_)
    · refine g_iconst (pc := 12) (v := (-1 : Int32)) S dX10_corner_12 (by decide) ?_
      cases hyp
      exact g_iret (pc := 13) S F dX10_corner_13
    · refine g_aload_n (pc := 14) 0 S dX10_corner_14 rfl ?_
      refine g_bind hyp (fun y2 hy2 hyp => ?_)
      refine g_callV (pc := 15) (As := []) (rest := []) S dX10_corner_15 k0 rfl tw_1188 tw_1189 tw_67 mw_X10_setCorners (m_X10_setCorners k0  h hy2) rfl rfl (Nat.le_of_ble_eq_true rfl) (Nat.le_of_ble_eq_true rfl) (Nat.le_of_ble_eq_true rfl) ?_
      refine g_iload_n (pc := 18) 1 S dX10_corner_18 rfl ?_
      refine g_aload_n (pc := 19) 0 S dX10_corner_19 rfl ?_
      refine g_getI (pc := 20) S dX10_corner_20 fl_X10_305 k0 ?_
      refine g_icmp_ge (pc := 23) (tgt := 54) S dX10_corner_23 (by decide) hyp (fun hyp => ?_) (fun hyp => ?_)
      · refine g_aload_n (pc := 26) 0 S dX10_corner_26 rfl ?_
        refine g_aload_n (pc := 27) 0 S dX10_corner_27 rfl ?_
        refine g_getR (pc := 28) S dX10_corner_28 fl_X10_79 k0 ?_
        refine g_iconst (pc := 31) (v := (4 : Int32)) S dX10_corner_31 (by decide) ?_
        refine g_iload_n (pc := 32) 1 S dX10_corner_32 rfl ?_
        refine g_imul (pc := 33) S dX10_corner_33 ?_
        refine g_iload_n (pc := 34) 2 S dX10_corner_34 rfl ?_
        refine g_iadd (pc := 35) S dX10_corner_35 ?_
        refine g_lald (pc := 36) S dX10_corner_36 (kf_10_21 k0) hyp (fun x3 hyp => ?_)
        refine g_aload_n (pc := 37) 0 S dX10_corner_37 rfl ?_
        refine g_getR (pc := 38) S dX10_corner_38 fl_X10_79 k0 ?_
        refine g_iconst (pc := 41) (v := (4 : Int32)) S dX10_corner_41 (by decide) ?_
        refine g_iload_n (pc := 42) 1 S dX10_corner_42 rfl ?_
        refine g_imul (pc := 43) S dX10_corner_43 ?_
        refine g_iconst (pc := 44) (v := (3 : Int32)) S dX10_corner_44 (by decide) ?_
        refine g_iadd (pc := 45) S dX10_corner_45 ?_
        refine g_lald (pc := 46) S dX10_corner_46 (kf_10_21 k0) hyp (fun x4 hyp => ?_)
        refine g_iconst (pc := 47) (v := (1 : Int32)) S dX10_corner_47 (by decide) ?_
        refine g_bind hyp (fun y5 hy5 hyp => ?_)
        refine g_callV (pc := 48) (As := [.long x3, .long x4, .int (1 : Int32)]) (rest := []) S dX10_corner_48 k0 rfl tw_1125 tw_1126 tw_59 mw_X10_says (m_X10_says k0 x3 x4 (1 : Int32) y2 hy5) rfl rfl (Nat.le_of_ble_eq_true rfl) (Nat.le_of_ble_eq_true rfl) (Nat.le_of_ble_eq_true rfl) ?_
        refine g_goto (pc := 51) (tgt := 56) S dX10_corner_51 (by decide) ?_
        cases hyp
        exact g_iret (pc := 56) S F dX10_corner_56
      · refine g_bipush (pc := 54) (v := (-9 : Int32)) S dX10_corner_54 (by decide) ?_
        cases hyp
        exact g_iret (pc := 56) S F dX10_corner_56
theorem m_X10_corner {l : Launch} {D : va_G} {cT : Nat → ClassId} {aD : Nat → Nat} {c0 : Nat} (k0 : kd c0 (10 + 10, 0)) (a1 : Int32) (a2 : Int32) (h : Hp) {o : Int32 × Hp} (hyp : s_X10_corner c0 a1 a2 h = some o) : Ok l D cT aD yX10_corner cX10_corner 3 (some .int) 6 171 [.ref (aD c0), .int a1, .int a2] h (some (.int o.1)) o.2 :=
  Ok.of (by decide +kernel) rfl (Nat.le_of_ble_eq_true rfl) (fun K e1 e2 e3 e4 S F => by subst e1; exact o_X10_corner S k0 a1 a2 h hyp F)
-- BoundProofsModel meets (III)Z
def s_X10_meets_b153 (c0 : Nat) (a1 : Int32) (a2 : Int32) (a3 : Int32) (a4 : Int32) (t0 : Int32) (h : Hp) : Option ((Int32) ⊕ ((Unit) ⊕ (Int32))) :=
  if t0 = 0 then (some (.inr (.inr (0 : Int32))))
  else (lt (a4 + (1 : Int32)) fun v4_7 =>
  some (.inl v4_7))
def s_X10_meets_l3 (c0 : Nat) (a1 : Int32) (a2 : Int32) (a3 : Int32) (a4 : Int32) (h : Hp) : Option ((Int32) ⊕ ((Unit) ⊕ (Int32))) :=
  if a4 < (h.1 c0 3) then ((s_X10_coefficientOf c0 a4 (0 : Int32) h).bind fun y1 =>
  (s_X10_coefficientOf c0 a4 (1 : Int32) h).bind fun y2 =>
  (s_X10_coefficientOf c0 a4 (2 : Int32) h).bind fun y3 =>
  ldI h (c0 + 2) 30 (((3 : Int32) * a4) + (2 : Int32)) fun x4 =>
  lt ((((y1 * a1) + (y2 * a2)) + (y3 * a3)) - x4) fun v5_5 =>
  ldI h (c0 + 2) 30 (((3 : Int32) * a4) + (1 : Int32)) fun x6 =>
  if x6 = 0 then (if 0 < v5_5 then (s_X10_meets_b153 c0 a1 a2 a3 a4 (0 : Int32) h)
  else (s_X10_meets_b153 c0 a1 a2 a3 a4 (1 : Int32) h))
  else (if x6 = (1 : Int32) then (if v5_5 < 0 then (s_X10_meets_b153 c0 a1 a2 a3 a4 (1 : Int32) h)
  else (s_X10_meets_b153 c0 a1 a2 a3 a4 (0 : Int32) h))
  else (if x6 = (2 : Int32) then (if v5_5 < 0 then (s_X10_meets_b153 c0 a1 a2 a3 a4 (0 : Int32) h)
  else (s_X10_meets_b153 c0 a1 a2 a3 a4 (1 : Int32) h))
  else (if x6 = (3 : Int32) then (if 0 < v5_5 then (s_X10_meets_b153 c0 a1 a2 a3 a4 (1 : Int32) h)
  else (s_X10_meets_b153 c0 a1 a2 a3 a4 (0 : Int32) h))
  else (if v5_5 = 0 then (s_X10_meets_b153 c0 a1 a2 a3 a4 (1 : Int32) h)
  else (s_X10_meets_b153 c0 a1 a2 a3 a4 (0 : Int32) h))))))
  else (some (.inr (.inl ())))
def s_X10_meets (c0 : Nat) (a1 : Int32) (a2 : Int32) (a3 : Int32) (h : Hp) : Option (Int32) :=
  (iter (fun s : Int32 => s_X10_meets_l3 c0 a1 a2 a3 s h) FUEL (0 : Int32)).bind (Sum.elim (fun t9 => some (1 : Int32))
  (fun t10 => some t10))
set_option maxRecDepth 100000 in
set_option maxHeartbeats 4000000 in
theorem o_X10_meets_b153 {K : gK} (S : Cx K RX10 cX10_meets 8 1 26) {c0 : Nat} (k0 : kd c0 (10 + 10, 0)) (a1 : Int32) (a2 : Int32) (a3 : Int32) (a4 : Int32) (t0 : Int32) (h : Hp) {o : (Int32) ⊕ ((Unit) ⊕ (Int32))} (hyp : s_X10_meets_b153 c0 a1 a2 a3 a4 t0 h = some o) (hin : ∀ s', o = .inl s' → Go K 3 [(0, .ref (ad K c0)), (1, .int a1), (2, .int a2), (3, .int a3), (4, .int s')] [] h) (hex0 : ∀ s', o = .inr (.inl s') → Go K 168 [] [] h) (hret : ∀ x', o = .inr (.inr x') → Rt K (some .boolean) (some (.int x')) h) : Go K 153 [(0, .ref (ad K c0)), (1, .int a1), (2, .int a2), (3, .int a3), (4, .int a4)] [.int t0] h := by
  unfold s_X10_meets_b153 at hyp
  refine g_istore (pc := 153) (lv' := [(7, .int t0), (0, .ref (ad K c0)), (1, .int a1), (2, .int a2), (3, .int a3), (4, .int a4)]) S dX10_meets_153 (by decide) rfl ?_
  refine g_iload (pc := 155) 0 S dX10_meets_155 rfl ?_
  refine g_if_ne (pc := 157) (tgt := 162) S dX10_meets_157 (by decide) hyp (fun hyp => ?_) (fun hyp => ?_)
  · refine g_iconst (pc := 160) (v := (0 : Int32)) S dX10_meets_160 (by decide) ?_
    cases hyp
    exact g_zret (pc := 161) S (hret _ rfl) dX10_meets_161 (Or.inl rfl)
  · refine g_iinc (pc := 162) (v := (a4 + (1 : Int32))) (lv' := [(4, .int (a4 + (1 : Int32))), (7, .int t0), (0, .ref (ad K c0)), (1, .int a1), (2, .int a2), (3, .int a3)]) 5 S dX10_meets_162 rfl (by rfl) (by decide) rfl ?_
    refine g_lti (C := fun v4_7 => Go K (162 + 3) [(4, .int v4_7), (7, .int t0), (0, .ref (ad K c0)), (1, .int a1), (2, .int a2), (3, .int a3)] [] h) hyp (fun v4_7 hyp => ?_)
    refine g_goto (pc := 165) (tgt := 3) S dX10_meets_165 (by decide) ?_
    cases hyp
    exact g_sub [2, 3, 4, 5, 0] rfl (hin _ rfl)
set_option maxRecDepth 100000 in
set_option maxHeartbeats 4000000 in
theorem o_X10_meets_l3 {K : gK} (S : Cx K RX10 cX10_meets 8 1 26) {c0 : Nat} (k0 : kd c0 (10 + 10, 0)) (a1 : Int32) (a2 : Int32) (a3 : Int32) (a4 : Int32) (h : Hp) {o : (Int32) ⊕ ((Unit) ⊕ (Int32))} (hyp : s_X10_meets_l3 c0 a1 a2 a3 a4 h = some o) (hin : ∀ s', o = .inl s' → Go K 3 [(0, .ref (ad K c0)), (1, .int a1), (2, .int a2), (3, .int a3), (4, .int s')] [] h) (hex0 : ∀ s', o = .inr (.inl s') → Go K 168 [] [] h) (hret : ∀ x', o = .inr (.inr x') → Rt K (some .boolean) (some (.int x')) h) : Go K 3 [(0, .ref (ad K c0)), (1, .int a1), (2, .int a2), (3, .int a3), (4, .int a4)] [] h := by
  unfold s_X10_meets_l3 at hyp
  refine g_iload (pc := 3) 4 S dX10_meets_3 rfl ?_
  refine g_aload_n (pc := 5) 0 S dX10_meets_5 rfl ?_
  refine g_getI (pc := 6) S dX10_meets_6 fl_X10_97 k0 ?_
  refine g_icmp_ge (pc := 9) (tgt := 168) S dX10_meets_9 (by decide) hyp (fun hyp => ?_) (fun hyp => ?_)
  · refine g_aload_n (pc := 12) 0 S dX10_meets_12 rfl ?_
    refine g_iload (pc := 13) 4 S dX10_meets_13 rfl ?_
    refine g_iconst (pc := 15) (v := (0 : Int32)) S dX10_meets_15 (by decide) ?_
    refine g_bind hyp (fun y1 hy1 hyp => ?_)
    refine g_callV (pc := 16) (As := [.int a4, .int (0 : Int32)]) (rest := []) S dX10_meets_16 k0 rfl tw_1058 tw_1059 tw_42 mw_X10_coefficientOf (m_X10_coefficientOf k0 a4 (0 : Int32) h hy1) rfl rfl (Nat.le_of_ble_eq_true rfl) (Nat.le_of_ble_eq_true rfl) (Nat.le_of_ble_eq_true rfl) ?_
    refine g_iload_n (pc := 19) 1 S dX10_meets_19 rfl ?_
    refine g_imul (pc := 20) S dX10_meets_20 ?_
    refine g_aload_n (pc := 21) 0 S dX10_meets_21 rfl ?_
    refine g_iload (pc := 22) 4 S dX10_meets_22 rfl ?_
    refine g_iconst (pc := 24) (v := (1 : Int32)) S dX10_meets_24 (by decide) ?_
    refine g_bind hyp (fun y2 hy2 hyp => ?_)
    refine g_callV (pc := 25) (As := [.int a4, .int (1 : Int32)]) (rest := [.int (y1 * a1)]) S dX10_meets_25 k0 rfl tw_1058 tw_1059 tw_42 mw_X10_coefficientOf (m_X10_coefficientOf k0 a4 (1 : Int32) h hy2) rfl rfl (Nat.le_of_ble_eq_true rfl) (Nat.le_of_ble_eq_true rfl) (Nat.le_of_ble_eq_true rfl) ?_
    refine g_iload_n (pc := 28) 2 S dX10_meets_28 rfl ?_
    refine g_imul (pc := 29) S dX10_meets_29 ?_
    refine g_iadd (pc := 30) S dX10_meets_30 ?_
    refine g_aload_n (pc := 31) 0 S dX10_meets_31 rfl ?_
    refine g_iload (pc := 32) 4 S dX10_meets_32 rfl ?_
    refine g_iconst (pc := 34) (v := (2 : Int32)) S dX10_meets_34 (by decide) ?_
    refine g_bind hyp (fun y3 hy3 hyp => ?_)
    refine g_callV (pc := 35) (As := [.int a4, .int (2 : Int32)]) (rest := [.int ((y1 * a1) + (y2 * a2))]) S dX10_meets_35 k0 rfl tw_1058 tw_1059 tw_42 mw_X10_coefficientOf (m_X10_coefficientOf k0 a4 (2 : Int32) h hy3) rfl rfl (Nat.le_of_ble_eq_true rfl) (Nat.le_of_ble_eq_true rfl) (Nat.le_of_ble_eq_true rfl) ?_
    refine g_iload_n (pc := 38) 3 S dX10_meets_38 rfl ?_
    refine g_imul (pc := 39) S dX10_meets_39 ?_
    refine g_iadd (pc := 40) S dX10_meets_40 ?_
    refine g_aload_n (pc := 41) 0 S dX10_meets_41 rfl ?_
    refine g_getR (pc := 42) S dX10_meets_42 fl_X10_17 k0 ?_
    refine g_iconst (pc := 45) (v := (3 : Int32)) S dX10_meets_45 (by decide) ?_
    refine g_iload (pc := 46) 4 S dX10_meets_46 rfl ?_
    refine g_imul (pc := 48) S dX10_meets_48 ?_
    refine g_iconst (pc := 49) (v := (2 : Int32)) S dX10_meets_49 (by decide) ?_
    refine g_iadd (pc := 50) S dX10_meets_50 ?_
    refine g_iald (pc := 51) S dX10_meets_51 (kf_10_2 k0) hyp (fun x4 hyp => ?_)
    refine g_isub (pc := 52) S dX10_meets_52 ?_
    refine g_lti (C := fun v5_5 => Go K 53 [(0, .ref (ad K c0)), (1, .int a1), (2, .int a2), (3, .int a3), (4, .int a4)] [.int v5_5] h) hyp (fun v5_5 hyp => ?_)
    refine g_istore (pc := 53) (lv' := [(5, .int v5_5), (0, .ref (ad K c0)), (1, .int a1), (2, .int a2), (3, .int a3), (4, .int a4)]) S dX10_meets_53 (by decide) rfl ?_
    refine g_aload_n (pc := 55) 1 S dX10_meets_55 rfl ?_
    refine g_getR (pc := 56) S dX10_meets_56 fl_X10_17 k0 ?_
    refine g_iconst (pc := 59) (v := (3 : Int32)) S dX10_meets_59 (by decide) ?_
    refine g_iload (pc := 60) 5 S dX10_meets_60 rfl ?_
    refine g_imul (pc := 62) S dX10_meets_62 ?_
    refine g_iconst (pc := 63) (v := (1 : Int32)) S dX10_meets_63 (by decide) ?_
    refine g_iadd (pc := 64) S dX10_meets_64 ?_
    refine g_iald (pc := 65) S dX10_meets_65 (kf_10_2 k0) hyp (fun x6 hyp => ?_)
    refine g_istore (pc := 66) (lv' := [(6, .int x6), (5, .int v5_5), (0, .ref (ad K c0)), (1, .int a1), (2, .int a2), (3, .int a3), (4, .int a4)]) S dX10_meets_66 (by decide) rfl ?_
    refine g_iload (pc := 68) 0 S dX10_meets_68 rfl ?_
    refine g_if_ne (pc := 70) (tgt := 86) S dX10_meets_70 (by decide) hyp (fun hyp => ?_) (fun hyp => ?_)
    · refine g_iload (pc := 73) 1 S dX10_meets_73 rfl ?_
      refine g_if_gt (pc := 75) (tgt := 82) S dX10_meets_75 (by decide) hyp (fun hyp => ?_) (fun hyp => ?_)
      · refine g_iconst (pc := 82) (v := (0 : Int32)) S dX10_meets_82 (by decide) ?_
        refine g_goto (pc := 83) (tgt := 153) S dX10_meets_83 (by decide) ?_
        exact g_sub [2, 3, 4, 5, 6] rfl (o_X10_meets_b153 S k0 a1 a2 a3 a4 (0 : Int32) h hyp hin hex0 hret)
      · refine g_iconst (pc := 78) (v := (1 : Int32)) S dX10_meets_78 (by decide) ?_
        refine g_goto (pc := 79) (tgt := 153) S dX10_meets_79 (by decide) ?_
        exact g_sub [2, 3, 4, 5, 6] rfl (o_X10_meets_b153 S k0 a1 a2 a3 a4 (1 : Int32) h hyp hin hex0 hret)
    · refine g_iload (pc := 86) 0 S dX10_meets_86 rfl ?_
      refine g_iconst (pc := 88) (v := (1 : Int32)) S dX10_meets_88 (by decide) ?_
      refine g_icmp_ne (pc := 89) (tgt := 105) S dX10_meets_89 (by decide) hyp (fun hyp => ?_) (fun hyp => ?_)
      · refine g_iload (pc := 92) 1 S dX10_meets_92 rfl ?_
        refine g_if_ge (pc := 94) (tgt := 101) S dX10_meets_94 (by decide) hyp (fun hyp => ?_) (fun hyp => ?_)
        · refine g_iconst (pc := 97) (v := (1 : Int32)) S dX10_meets_97 (by decide) ?_
          refine g_goto (pc := 98) (tgt := 153) S dX10_meets_98 (by decide) ?_
          exact g_sub [2, 3, 4, 5, 6] rfl (o_X10_meets_b153 S k0 a1 a2 a3 a4 (1 : Int32) h hyp hin hex0 hret)
        · refine g_iconst (pc := 101) (v := (0 : Int32)) S dX10_meets_101 (by decide) ?_
          refine g_goto (pc := 102) (tgt := 153) S dX10_meets_102 (by decide) ?_
          exact g_sub [2, 3, 4, 5, 6] rfl (o_X10_meets_b153 S k0 a1 a2 a3 a4 (0 : Int32) h hyp hin hex0 hret)
      · refine g_iload (pc := 105) 0 S dX10_meets_105 rfl ?_
        refine g_iconst (pc := 107) (v := (2 : Int32)) S dX10_meets_107 (by decide) ?_
        refine g_icmp_ne (pc := 108) (tgt := 124) S dX10_meets_108 (by decide) hyp (fun hyp => ?_) (fun hyp => ?_)
        · refine g_iload (pc := 111) 1 S dX10_meets_111 rfl ?_
          refine g_if_lt (pc := 113) (tgt := 120) S dX10_meets_113 (by decide) hyp (fun hyp => ?_) (fun hyp => ?_)
          · refine g_iconst (pc := 120) (v := (0 : Int32)) S dX10_meets_120 (by decide) ?_
            refine g_goto (pc := 121) (tgt := 153) S dX10_meets_121 (by decide) ?_
            exact g_sub [2, 3, 4, 5, 6] rfl (o_X10_meets_b153 S k0 a1 a2 a3 a4 (0 : Int32) h hyp hin hex0 hret)
          · refine g_iconst (pc := 116) (v := (1 : Int32)) S dX10_meets_116 (by decide) ?_
            refine g_goto (pc := 117) (tgt := 153) S dX10_meets_117 (by decide) ?_
            exact g_sub [2, 3, 4, 5, 6] rfl (o_X10_meets_b153 S k0 a1 a2 a3 a4 (1 : Int32) h hyp hin hex0 hret)
        · refine g_iload (pc := 124) 0 S dX10_meets_124 rfl ?_
          refine g_iconst (pc := 126) (v := (3 : Int32)) S dX10_meets_126 (by decide) ?_
          refine g_icmp_ne (pc := 127) (tgt := 143) S dX10_meets_127 (by decide) hyp (fun hyp => ?_) (fun hyp => ?_)
          · refine g_iload (pc := 130) 1 S dX10_meets_130 rfl ?_
            refine g_if_le (pc := 132) (tgt := 139) S dX10_meets_132 (by decide) hyp (fun hyp => ?_) (fun hyp => ?_)
            · refine g_iconst (pc := 135) (v := (1 : Int32)) S dX10_meets_135 (by decide) ?_
              refine g_goto (pc := 136) (tgt := 153) S dX10_meets_136 (by decide) ?_
              exact g_sub [2, 3, 4, 5, 6] rfl (o_X10_meets_b153 S k0 a1 a2 a3 a4 (1 : Int32) h hyp hin hex0 hret)
            · refine g_iconst (pc := 139) (v := (0 : Int32)) S dX10_meets_139 (by decide) ?_
              refine g_goto (pc := 140) (tgt := 153) S dX10_meets_140 (by decide) ?_
              exact g_sub [2, 3, 4, 5, 6] rfl (o_X10_meets_b153 S k0 a1 a2 a3 a4 (0 : Int32) h hyp hin hex0 hret)
          · refine g_iload (pc := 143) 1 S dX10_meets_143 rfl ?_
            refine g_if_ne (pc := 145) (tgt := 152) S dX10_meets_145 (by decide) hyp (fun hyp => ?_) (fun hyp => ?_)
            · refine g_iconst (pc := 148) (v := (1 : Int32)) S dX10_meets_148 (by decide) ?_
              refine g_goto (pc := 149) (tgt := 153) S dX10_meets_149 (by decide) ?_
              exact g_sub [2, 3, 4, 5, 6] rfl (o_X10_meets_b153 S k0 a1 a2 a3 a4 (1 : Int32) h hyp hin hex0 hret)
            · refine g_iconst (pc := 152) (v := (0 : Int32)) S dX10_meets_152 (by decide) ?_
              exact g_sub [2, 3, 4, 5, 6] rfl (o_X10_meets_b153 S k0 a1 a2 a3 a4 (0 : Int32) h hyp hin hex0 hret)
  · cases hyp
    exact g_sub [] rfl (hex0 _ rfl)
set_option maxRecDepth 100000 in
set_option maxHeartbeats 4000000 in
theorem o_X10_meets {K : gK} (S : Cx K RX10 cX10_meets 8 1 26) {c0 : Nat} (k0 : kd c0 (10 + 10, 0)) (a1 : Int32) (a2 : Int32) (a3 : Int32) (h : Hp) {o : Int32} (hyp : s_X10_meets c0 a1 a2 a3 h = some o) (F : Rt K (some .boolean) (some (.int o)) h) : Go K 0 [(0, .ref (ad K c0)), (1, .int a1), (2, .int a2), (3, .int a3)] [] h := by
  unfold s_X10_meets at hyp
  refine g_iconst (pc := 0) (v := (0 : Int32)) S dX10_meets_0 (by decide) ?_
  refine g_istore (pc := 1) (lv' := [(4, .int (0 : Int32)), (0, .ref (ad K c0)), (1, .int a1), (2, .int a2), (3, .int a3)]) S dX10_meets_1 (by decide) rfl ?_
  refine g_bind hyp (fun e8 he8 hyp => ?_)
  refine g_sub [1, 2, 3, 4, 0] rfl (g_loop (Hd := fun s : Int32 => Go K 3 [(0, .ref (ad K c0)), (1, .int a1), (2, .int a2), (3, .int a3), (4, .int s)] [] h) (Ex := fun e8 => (∀ t, e8 = .inl t → Go K 168 [] [] h) ∧ (∀ t, e8 = .inr t → Rt K (some .boolean) (some (.int t)) h)) (fun s o h1 h2 h3 => o_X10_meets_l3 S k0 a1 a2 a3 s h h1 h2 (fun t q => (h3 _ q).1 t rfl) (fun t q => (h3 _ q).2 t rfl)) FUEL _ e8 he8 ?_)
  refine ⟨?_, ?_⟩
  · intro t9 q
    subst q
    refine g_iconst (pc := 168) (v := (1 : Int32)) S dX10_meets_168 (by decide) ?_
    cases hyp
    exact g_zret (pc := 169) S F dX10_meets_169 (Or.inr rfl)
  · intro t10 q
    subst q
    cases hyp
    exact F
theorem m_X10_meets {l : Launch} {D : va_G} {cT : Nat → ClassId} {aD : Nat → Nat} {c0 : Nat} (k0 : kd c0 (10 + 10, 0)) (a1 : Int32) (a2 : Int32) (a3 : Int32) (h : Hp) {o : Int32} (hyp : s_X10_meets c0 a1 a2 a3 h = some o) : Ok l D cT aD yX10_meets cX10_meets 8 (some .boolean) 1 26 [.ref (aD c0), .int a1, .int a2, .int a3] h (some (.int o)) h :=
  Ok.of (by decide +kernel) rfl (Nat.le_of_ble_eq_true rfl) (fun K e1 e2 e3 e4 S F => by subst e1; exact o_X10_meets S k0 a1 a2 a3 h hyp F)
-- BoundProofsModel edge (Z)I
def s_X10_edge  (a0 : Int32) (h : Hp) : Option (Int32) :=
  if a0 = 0 then (some (0 : Int32))
  else (some (4 : Int32))
set_option maxRecDepth 100000 in
set_option maxHeartbeats 4000000 in
theorem o_X10_edge {K : gK} (S : Cx K RX10 cX10_edge 1 0 0)  (a0 : Int32) (h : Hp) {o : Int32} (hyp : s_X10_edge  a0 h = some o) (F : Rt K (some .int) (some (.int o)) h) : Go K 0 [(0, .int a0)] [] h := by
  unfold s_X10_edge at hyp
  refine g_iload_n (pc := 0) 0 S dX10_edge_0 rfl ?_
  refine g_if_eq (pc := 1) (tgt := 8) S dX10_edge_1 (by decide) hyp (fun hyp => ?_) (fun hyp => ?_)
  · refine g_iconst (pc := 8) (v := (0 : Int32)) S dX10_edge_8 (by decide) ?_
    cases hyp
    exact g_iret (pc := 9) S F dX10_edge_9
  · refine g_iconst (pc := 4) (v := (4 : Int32)) S dX10_edge_4 (by decide) ?_
    refine g_goto (pc := 5) (tgt := 9) S dX10_edge_5 (by decide) ?_
    cases hyp
    exact g_iret (pc := 9) S F dX10_edge_9
theorem m_X10_edge {l : Launch} {D : va_G} {cT : Nat → ClassId} {aD : Nat → Nat}  (a0 : Int32) (h : Hp) {o : Int32} (hyp : s_X10_edge  a0 h = some o) : Ok l D cT aD yX10_edge cX10_edge 1 (some .int) 0 0 [.int a0] h (some (.int o)) h :=
  Ok.of (by decide +kernel) rfl (Nat.le_of_ble_eq_true rfl) (fun K e1 e2 e3 e4 S F => by subst e1; exact o_X10_edge S  a0 h hyp F)
